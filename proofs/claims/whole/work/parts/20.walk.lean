set_option maxRecDepth 100000 in
set_option maxHeartbeats 4000000 in
theorem wX12_runs_5 {J : Nat → Lv → List AV → Obs → Lay → Nat → Nat → Mem → Mem → Prop} (hJ : Cl RX12 cX12_runs 5 1 23 0 0 none false J) {r : Int32} {Sc S' : Mem} (hR : Rk cX12_runs (some .int) (some (vi r)) wl0 L0 0 0 Sc S' J) : ∀ (n : Nat) (x2 : Int32) (x3 : Int32) (x4 : Int32) (S : Mem), fX12_runs_5 n x2 x3 x4 S = some (r, S') → J 5 [some (vr 12 0), none, some (vi x2), some (vi x3), some (vi x4)] [] wl0 L0 0 0 Sc S := by
  intro n
  induction n with
  | zero =>
    intro x2 x3 x4 S hF
    rw [fX12_runs_5] at hF
    cases hF
  | succ n ih =>
    intro x2 x3 x4 S hF
    rw [fX12_runs_5] at hF
    refine hJ.iload (pc := 5) dX12_runs_5 rfl ?_
    refine hJ.iload_n (pc := 7) dX12_runs_7 rfl ?_
    refine hJ.icmp_ge (pc := 8) 153 dX12_runs_8 (by decide) (fun h1 => ?_) (fun h1 => ?_)
    · rw [if_pos h1] at hF
      refine hJ.aload_n (pc := 153) dX12_runs_153 rfl ?_
      refine hJ.gR (pc := 154) (k' := 82) (i' := 0) dX12_runs_154 fr_X12_80 rfl ?_
      refine hJ.iconst (pc := 157) 0 dX12_runs_157 ic_0 ?_
      refine hJ.lialdM (pc := 158) dX12_runs_158 al_82 (show ix 0 420 = some 0 by decide) ?_
      cases hF
      exact hR.i (pc := 159) dX12_runs_159
    · rw [if_neg h1] at hF
      refine hJ.aload_n (pc := 11) dX12_runs_11 rfl ?_
      refine hJ.gR (pc := 12) (k' := 78) (i' := 0) dX12_runs_12 fr_X12_64 rfl ?_
      refine hJ.iload (pc := 15) dX12_runs_15 rfl ?_
      obtain ⟨j2, h3, hF⟩ := bn_some hF
      refine hJ.lialdM (pc := 17) dX12_runs_17 al_78 h3 ?_
      refine hJ.if_eq (pc := 18) 32 dX12_runs_18 (by decide) (fun h4 => ?_) (fun h4 => ?_)
      · rw [if_pos h4] at hF
        refine hJ.aload_n (pc := 32) dX12_runs_32 rfl ?_
        refine hJ.gR (pc := 33) (k' := 82) (i' := 0) dX12_runs_33 fr_X12_80 rfl ?_
        refine hJ.iload_n (pc := 36) dX12_runs_36 rfl ?_
        refine hJ.aload_n (pc := 37) dX12_runs_37 rfl ?_
        refine hJ.gR (pc := 38) (k' := 78) (i' := 0) dX12_runs_38 fr_X12_64 rfl ?_
        refine hJ.iload (pc := 41) dX12_runs_41 rfl ?_
        refine hJ.lialdM (pc := 43) dX12_runs_43 al_78 h3 ?_
        refine hJ.if_ne (pc := 44) 57 dX12_runs_44 (by decide) (fun h0 => absurd h4 h0) (fun _ => ?_)
        refine hJ.aload_n (pc := 47) dX12_runs_47 rfl ?_
        refine hJ.gR (pc := 48) (k' := 79) (i' := 0) dX12_runs_48 fr_X12_67 rfl ?_
        refine hJ.iload (pc := 51) dX12_runs_51 rfl ?_
        refine hJ.lialdM (pc := 53) dX12_runs_53 al_79 h3 ?_
        refine hJ.goto (pc := 54) 69 dX12_runs_54 (by decide) ?_
        obtain ⟨j5, h6, hF⟩ := bn_some hF
        refine hJ.siastM (pc := 69) dX12_runs_69 al_82 h6 ?_
        refine hJ.iload_n (pc := 70) dX12_runs_70 rfl ?_
        refine hJ.iconst (pc := 71) 1 dX12_runs_71 ic_1 ?_
        refine hJ.iadd (pc := 72) dX12_runs_72 ?_
        refine hJ.istore_n (pc := 73) [some (vr 12 0), none, some (vi x2), some (vi (x3 + 1)), some (vi x4)] dX12_runs_73 (by decide) rfl ?_
        refine hJ.goto (pc := 74) 147 dX12_runs_74 (by decide) ?_
        refine hJ.iinc (pc := 147) (x4 + 1) [some (vr 12 0), none, some (vi x2), some (vi (x3 + 1)), some (vi (x4 + 1))] dX12_runs_147 (by decide) rfl (congrArg (fun z => x4 + z) ic_1) rfl ?_
        refine hJ.goto (pc := 150) 5 dX12_runs_150 (by decide) ?_
        exact ih x2 (x3 + 1) (x4 + 1) (up S 82 0 j5 (S 79 0 j2)) hF
      · rw [if_neg h4] at hF
        refine hJ.aload_n (pc := 21) dX12_runs_21 rfl ?_
        refine hJ.gR (pc := 22) (k' := 78) (i' := 0) dX12_runs_22 fr_X12_64 rfl ?_
        refine hJ.iload (pc := 25) dX12_runs_25 rfl ?_
        refine hJ.lialdM (pc := 27) dX12_runs_27 al_78 h3 ?_
        refine hJ.iconst (pc := 28) 1 dX12_runs_28 ic_1 ?_
        refine hJ.icmp_ne (pc := 29) 77 dX12_runs_29 (by decide) (fun h7 => ?_) (fun h7 => ?_)
        · rw [if_neg h7] at hF
          refine hJ.aload_n (pc := 77) dX12_runs_77 rfl ?_
          refine hJ.gR (pc := 78) (k' := 78) (i' := 0) dX12_runs_78 fr_X12_64 rfl ?_
          refine hJ.iload (pc := 81) dX12_runs_81 rfl ?_
          refine hJ.lialdM (pc := 83) dX12_runs_83 al_78 h3 ?_
          refine hJ.bipush (pc := 84) 9 dX12_runs_84 bc_9 ?_
          refine hJ.icmp_ne (pc := 86) 110 dX12_runs_86 (by decide) (fun h12 => ?_) (fun h12 => ?_)
          · rw [if_neg h12] at hF
            refine hJ.iload_n (pc := 110) dX12_runs_110 rfl ?_
            refine hJ.iconst (pc := 111) 1 dX12_runs_111 ic_1 ?_
            refine hJ.isub (pc := 112) dX12_runs_112 ?_
            refine hJ.istore_n (pc := 113) [some (vr 12 0), none, some (vi x2), some (vi (x3 - 1)), some (vi x4)] dX12_runs_113 (by decide) rfl ?_
            refine hJ.aload_n (pc := 114) dX12_runs_114 rfl ?_
            refine hJ.gR (pc := 115) (k' := 82) (i' := 0) dX12_runs_115 fr_X12_80 rfl ?_
            refine hJ.iload_n (pc := 118) dX12_runs_118 rfl ?_
            refine hJ.iconst (pc := 119) 1 dX12_runs_119 ic_1 ?_
            refine hJ.isub (pc := 120) dX12_runs_120 ?_
            refine hJ.aload_n (pc := 121) dX12_runs_121 rfl ?_
            refine hJ.aload_n (pc := 122) dX12_runs_122 rfl ?_
            refine hJ.gR (pc := 123) (k' := 78) (i' := 0) dX12_runs_123 fr_X12_64 rfl ?_
            refine hJ.iload (pc := 126) dX12_runs_126 rfl ?_
            refine hJ.lialdM (pc := 128) dX12_runs_128 al_78 h3 ?_
            refine hJ.aload_n (pc := 129) dX12_runs_129 rfl ?_
            refine hJ.gR (pc := 130) (k' := 82) (i' := 0) dX12_runs_130 fr_X12_80 rfl ?_
            refine hJ.iload_n (pc := 133) dX12_runs_133 rfl ?_
            refine hJ.iconst (pc := 134) 1 dX12_runs_134 ic_1 ?_
            refine hJ.isub (pc := 135) dX12_runs_135 ?_
            obtain ⟨j15, h16, hF⟩ := bn_some hF
            refine hJ.lialdM (pc := 136) dX12_runs_136 al_82 h16 ?_
            refine hJ.aload_n (pc := 137) dX12_runs_137 rfl ?_
            refine hJ.gR (pc := 138) (k' := 82) (i' := 0) dX12_runs_138 fr_X12_80 rfl ?_
            refine hJ.iload_n (pc := 141) dX12_runs_141 rfl ?_
            obtain ⟨j17, h18, hF⟩ := bn_some hF
            refine hJ.lialdM (pc := 142) dX12_runs_142 al_82 h18 ?_
            obtain ⟨r20, h19, hF⟩ := bn_some hF
            refine hJ.cV (pc := 143) [vi (S 78 0 j2), vi (S 82 0 j15), vi (S 82 0 j17)] [vi ((x3 - 1) - 1), vr 82 0] [vi r20, vi ((x3 - 1) - 1), vr 82 0] dX12_runs_143 lk_X12_244 (ctX12_twoOf (S 78 0 j2) (S 82 0 j15) (S 82 0 j17) _ _ _ h19) rfl rfl rfl rfl ?_
            refine hJ.siastM (pc := 146) dX12_runs_146 al_82 h16 ?_
            refine hJ.iinc (pc := 147) (x4 + 1) [some (vr 12 0), none, some (vi x2), some (vi (x3 - 1)), some (vi (x4 + 1))] dX12_runs_147 (by decide) rfl (congrArg (fun z => x4 + z) ic_1) rfl ?_
            refine hJ.goto (pc := 150) 5 dX12_runs_150 (by decide) ?_
            exact ih x2 (x3 - 1) (x4 + 1) (up S 82 0 j15 r20) hF
          · rw [if_pos h12] at hF
            refine hJ.aload_n (pc := 89) dX12_runs_89 rfl ?_
            refine hJ.gR (pc := 90) (k' := 82) (i' := 0) dX12_runs_90 fr_X12_80 rfl ?_
            refine hJ.iload_n (pc := 93) dX12_runs_93 rfl ?_
            refine hJ.iconst (pc := 94) 1 dX12_runs_94 ic_1 ?_
            refine hJ.isub (pc := 95) dX12_runs_95 ?_
            refine hJ.iconst (pc := 96) 1 dX12_runs_96 ic_1 ?_
            refine hJ.aload_n (pc := 97) dX12_runs_97 rfl ?_
            refine hJ.gR (pc := 98) (k' := 82) (i' := 0) dX12_runs_98 fr_X12_80 rfl ?_
            refine hJ.iload_n (pc := 101) dX12_runs_101 rfl ?_
            refine hJ.iconst (pc := 102) 1 dX12_runs_102 ic_1 ?_
            refine hJ.isub (pc := 103) dX12_runs_103 ?_
            obtain ⟨j13, h14, hF⟩ := bn_some hF
            refine hJ.lialdM (pc := 104) dX12_runs_104 al_82 h14 ?_
            refine hJ.isub (pc := 105) dX12_runs_105 ?_
            refine hJ.siastM (pc := 106) dX12_runs_106 al_82 h14 ?_
            refine hJ.goto (pc := 107) 147 dX12_runs_107 (by decide) ?_
            refine hJ.iinc (pc := 147) (x4 + 1) [some (vr 12 0), none, some (vi x2), some (vi x3), some (vi (x4 + 1))] dX12_runs_147 (by decide) rfl (congrArg (fun z => x4 + z) ic_1) rfl ?_
            refine hJ.goto (pc := 150) 5 dX12_runs_150 (by decide) ?_
            exact ih x2 x3 (x4 + 1) (up S 82 0 j13 (1 - (S 82 0 j13))) hF
        · rw [if_pos h7] at hF
          refine hJ.aload_n (pc := 32) dX12_runs_32 rfl ?_
          refine hJ.gR (pc := 33) (k' := 82) (i' := 0) dX12_runs_33 fr_X12_80 rfl ?_
          refine hJ.iload_n (pc := 36) dX12_runs_36 rfl ?_
          refine hJ.aload_n (pc := 37) dX12_runs_37 rfl ?_
          refine hJ.gR (pc := 38) (k' := 78) (i' := 0) dX12_runs_38 fr_X12_64 rfl ?_
          refine hJ.iload (pc := 41) dX12_runs_41 rfl ?_
          refine hJ.lialdM (pc := 43) dX12_runs_43 al_78 h3 ?_
          refine hJ.if_ne (pc := 44) 57 dX12_runs_44 (by decide) (fun _ => ?_) (fun h0 => absurd h0 h4)
          refine hJ.aload_n (pc := 57) dX12_runs_57 rfl ?_
          refine hJ.gR (pc := 58) (k' := 81) (i' := 0) dX12_runs_58 fr_X12_77 rfl ?_
          refine hJ.aload_n (pc := 61) dX12_runs_61 rfl ?_
          refine hJ.gR (pc := 62) (k' := 79) (i' := 0) dX12_runs_62 fr_X12_67 rfl ?_
          refine hJ.iload (pc := 65) dX12_runs_65 rfl ?_
          refine hJ.lialdM (pc := 67) dX12_runs_67 al_79 h3 ?_
          obtain ⟨j8, h9, hF⟩ := bn_some hF
          refine hJ.lialdM (pc := 68) dX12_runs_68 al_81 h9 ?_
          obtain ⟨j10, h11, hF⟩ := bn_some hF
          refine hJ.siastM (pc := 69) dX12_runs_69 al_82 h11 ?_
          refine hJ.iload_n (pc := 70) dX12_runs_70 rfl ?_
          refine hJ.iconst (pc := 71) 1 dX12_runs_71 ic_1 ?_
          refine hJ.iadd (pc := 72) dX12_runs_72 ?_
          refine hJ.istore_n (pc := 73) [some (vr 12 0), none, some (vi x2), some (vi (x3 + 1)), some (vi x4)] dX12_runs_73 (by decide) rfl ?_
          refine hJ.goto (pc := 74) 147 dX12_runs_74 (by decide) ?_
          refine hJ.iinc (pc := 147) (x4 + 1) [some (vr 12 0), none, some (vi x2), some (vi (x3 + 1)), some (vi (x4 + 1))] dX12_runs_147 (by decide) rfl (congrArg (fun z => x4 + z) ic_1) rfl ?_
          refine hJ.goto (pc := 150) 5 dX12_runs_150 (by decide) ?_
          exact ih x2 (x3 + 1) (x4 + 1) (up S 82 0 j10 (S 81 0 j8)) hF
set_option maxRecDepth 100000 in
set_option maxHeartbeats 4000000 in
theorem ctX12_runs (p0 : Int32) (p1 : Int32) (Sc S : Mem) (r : Int32) (S' : Mem) (hF : fX12_runs p0 p1 S = some (r, S')) : Ct yX12_runs cX12_runs 5 (some .int) 1 23 0 0 [vr 12 0, vi p0, vi p1] wl0 L0 Sc S (some (vi r)) wl0 L0 Sc S' := by
  refine Ct.of RX12 false (by decide) rfl (fun h => by cases h) (Nat.le_of_ble_eq_true rfl) (fun J hJ hR => ?_)
  rw [fX12_runs] at hF
  show J 0 [some (vr 12 0), some (vi p0), some (vi p1), none, none] [] wl0 L0 0 0 Sc S
  refine hJ.iconst (pc := 0) 0 dX12_runs_0 ic_0 ?_
  refine hJ.istore_n (pc := 1) [some (vr 12 0), some (vi p0), some (vi p1), some (vi 0), none] dX12_runs_1 (by decide) rfl ?_
  refine hJ.iload_n (pc := 2) dX12_runs_2 rfl ?_
  refine hJ.istore (pc := 3) [some (vr 12 0), some (vi p0), some (vi p1), some (vi 0), some (vi p0)] dX12_runs_3 (by decide) rfl ?_
  refine hJ.weak [some (vr 12 0), none, some (vi p1), some (vi 0), some (vi p0)] ⟨rfl, rfl, rfl, rfl, trivial⟩ ?_
  exact wX12_runs_5 hJ hR 5000 p1 0 p0 S hF
set_option maxRecDepth 100000 in
set_option maxHeartbeats 4000000 in
theorem ctX12_isSo (p0 : Int32) (Sc S : Mem) (r : Int32) (S' : Mem) (hF : fX12_isSo p0 S = some (r, S')) : Ct yX12_isSo cX12_isSo 2 (some .boolean) 2 47 0 0 [vr 12 0, vi p0] wl0 L0 Sc S (some (vi r)) wl0 L0 Sc S' := by
  refine Ct.of RX12 false (by decide) rfl (fun h => by cases h) (Nat.le_of_ble_eq_true rfl) (fun J hJ hR => ?_)
  rw [fX12_isSo] at hF
  show J 0 [some (vr 12 0), some (vi p0)] [] wl0 L0 0 0 Sc S
  refine hJ.aload_n (pc := 0) dX12_isSo_0 rfl ?_
  refine hJ.gR (pc := 1) (k' := 75) (i' := 0) dX12_isSo_1 fr_X12_55 rfl ?_
  refine hJ.iload_n (pc := 4) dX12_isSo_4 rfl ?_
  obtain ⟨j1, h2, hF⟩ := bn_some hF
  refine hJ.lialdM (pc := 5) dX12_isSo_5 al_75 h2 ?_
  refine hJ.aload_n (pc := 6) dX12_isSo_6 rfl ?_
  refine hJ.gR (pc := 7) (k' := 77) (i' := 0) dX12_isSo_7 fr_X12_61 rfl ?_
  refine hJ.iload_n (pc := 10) dX12_isSo_10 rfl ?_
  refine hJ.lialdM (pc := 11) dX12_isSo_11 al_77 h2 ?_
  refine hJ.icmp_eq (pc := 12) 34 dX12_isSo_12 (by decide) (fun h3 => ?_) (fun h3 => ?_)
  · rw [if_pos h3] at hF
    refine hJ.iconst (pc := 34) 1 dX12_isSo_34 ic_1 ?_
    refine hJ.goto (pc := 35) 39 dX12_isSo_35 (by decide) ?_
    cases hF
    exact hR.n (pc := 39) (by decide) dX12_isSo_39
  · rw [if_neg h3] at hF
    refine hJ.aload_n (pc := 15) dX12_isSo_15 rfl ?_
    refine hJ.aload_n (pc := 16) dX12_isSo_16 rfl ?_
    refine hJ.gR (pc := 17) (k' := 75) (i' := 0) dX12_isSo_17 fr_X12_55 rfl ?_
    refine hJ.iload_n (pc := 20) dX12_isSo_20 rfl ?_
    refine hJ.lialdM (pc := 21) dX12_isSo_21 al_75 h2 ?_
    refine hJ.aload_n (pc := 22) dX12_isSo_22 rfl ?_
    refine hJ.gR (pc := 23) (k' := 77) (i' := 0) dX12_isSo_23 fr_X12_61 rfl ?_
    refine hJ.iload_n (pc := 26) dX12_isSo_26 rfl ?_
    refine hJ.lialdM (pc := 27) dX12_isSo_27 al_77 h2 ?_
    obtain ⟨r6, S5, h4, hF⟩ := bd_some hF
    refine hJ.cV (pc := 28) [vi (S 75 0 j1), vi (S 77 0 j1)] [] [vi r6] dX12_isSo_28 lk_X12_248 (ctX12_runs (S 75 0 j1) (S 77 0 j1) _ _ _ _ h4) rfl rfl rfl rfl ?_
    refine hJ.if_eq (pc := 31) 38 dX12_isSo_31 (by decide) (fun h7 => ?_) (fun h7 => ?_)
    · rw [if_pos h7] at hF
      refine hJ.iconst (pc := 38) 0 dX12_isSo_38 ic_0 ?_
      cases hF
      exact hR.n (pc := 39) (by decide) dX12_isSo_39
    · rw [if_neg h7] at hF
      refine hJ.iconst (pc := 34) 1 dX12_isSo_34 ic_1 ?_
      refine hJ.goto (pc := 35) 39 dX12_isSo_35 (by decide) ?_
      cases hF
      exact hR.n (pc := 39) (by decide) dX12_isSo_39
set_option maxRecDepth 100000 in
set_option maxHeartbeats 4000000 in
theorem wX12_yearsOf_26 {J : Nat → Lv → List AV → Obs → Lay → Nat → Nat → Mem → Mem → Prop} (hJ : Cl RX12 cX12_yearsOf 3 0 0 0 0 none false J) {r : Int32} {Sc S : Mem} (hR : Rk cX12_yearsOf (some .int) (some (vi r)) wl0 L0 0 0 Sc S J) (x1 : Int32) (y0 : Int32) (hF : fX12_yearsOf_26 x1 y0 S = some r) : J 26 [some (vr 12 0), some (vi x1), none] [vi y0] wl0 L0 0 0 Sc S := by
  rw [fX12_yearsOf_26] at hF
  refine hJ.bipush (pc := 26) 10 dX12_yearsOf_26 bc_10 ?_
  refine hJ.aload_n (pc := 28) dX12_yearsOf_28 rfl ?_
  refine hJ.gR (pc := 29) (k' := 62) (i' := 0) dX12_yearsOf_29 fr_X12_16 rfl ?_
  refine hJ.iload_n (pc := 32) dX12_yearsOf_32 rfl ?_
  obtain ⟨j4, h5, hF⟩ := bn_some hF
  refine hJ.lialdM (pc := 33) dX12_yearsOf_33 al_62 h5 ?_
  refine hJ.imul (pc := 34) dX12_yearsOf_34 ?_
  refine hJ.iadd (pc := 35) dX12_yearsOf_35 ?_
  cases hF
  exact hR.i (pc := 36) dX12_yearsOf_36
set_option maxRecDepth 100000 in
set_option maxHeartbeats 4000000 in
theorem ctX12_yearsOf (p0 : Int32) (p1 : Int32) (Sc S : Mem) (r : Int32) (hF : fX12_yearsOf p0 p1 S = some r) : Ct yX12_yearsOf cX12_yearsOf 3 (some .int) 0 0 0 0 [vr 12 0, vi p0, vi p1] wl0 L0 Sc S (some (vi r)) wl0 L0 Sc S := by
  refine Ct.of RX12 false (by decide) rfl (fun h => by cases h) (Nat.le_of_ble_eq_true rfl) (fun J hJ hR => ?_)
  rw [fX12_yearsOf] at hF
  show J 0 [some (vr 12 0), some (vi p0), some (vi p1)] [] wl0 L0 0 0 Sc S
  refine hJ.iload_n (pc := 0) dX12_yearsOf_0 rfl ?_
  refine hJ.aload_n (pc := 1) dX12_yearsOf_1 rfl ?_
  refine hJ.gR (pc := 2) (k' := 60) (i' := 0) dX12_yearsOf_2 fr_X12_7 rfl ?_
  refine hJ.iload_n (pc := 5) dX12_yearsOf_5 rfl ?_
  obtain ⟨j1, h2, hF⟩ := bn_some hF
  refine hJ.lialdM (pc := 6) dX12_yearsOf_6 al_60 h2 ?_
  refine hJ.icmp_le (pc := 7) 25 dX12_yearsOf_7 (by decide) (fun h3 => ?_) (fun h3 => ?_)
  · rw [if_pos h3] at hF
    refine hJ.iconst (pc := 25) 0 dX12_yearsOf_25 ic_0 ?_
    refine hJ.weak [some (vr 12 0), some (vi p0), none] ⟨rfl, rfl, trivial⟩ ?_
    exact wX12_yearsOf_26 hJ hR p0 0 hF
  · rw [if_neg h3] at hF
    refine hJ.iload_n (pc := 10) dX12_yearsOf_10 rfl ?_
    refine hJ.aload_n (pc := 11) dX12_yearsOf_11 rfl ?_
    refine hJ.gR (pc := 12) (k' := 60) (i' := 0) dX12_yearsOf_12 fr_X12_7 rfl ?_
    refine hJ.iload_n (pc := 15) dX12_yearsOf_15 rfl ?_
    refine hJ.lialdM (pc := 16) dX12_yearsOf_16 al_60 h2 ?_
    refine hJ.isub (pc := 17) dX12_yearsOf_17 ?_
    refine hJ.sipush (pc := 18) 365 dX12_yearsOf_18 sc_365 ?_
    refine hJ.idiv (pc := 21) dX12_yearsOf_21 (by decide) ?_
    refine hJ.goto (pc := 22) 26 dX12_yearsOf_22 (by decide) ?_
    refine hJ.weak [some (vr 12 0), some (vi p0), none] ⟨rfl, rfl, trivial⟩ ?_
    exact wX12_yearsOf_26 hJ hR p0 ((p1 - (S 60 0 j1)) / 365) hF
set_option maxRecDepth 100000 in
set_option maxHeartbeats 4000000 in
theorem wX12_ageOf_178 {J : Nat → Lv → List AV → Obs → Lay → Nat → Nat → Mem → Mem → Prop} (hJ : Cl RX12 cX12_ageOf 7 3 68 0 0 none false J) {r : Int32} {Sc S' : Mem} (hR : Rk cX12_ageOf (some .int) (some (vi r)) wl0 L0 0 0 Sc S' J) : ∀ (n : Nat) (x5 : Int32) (x6 : Int32) (S : Mem), fX12_ageOf_178 n x5 x6 S = some (r, S') → J 178 [some (vr 12 0), none, none, none, none, some (vi x5), some (vi x6)] [] wl0 L0 0 0 Sc S := by
  intro n
  induction n with
  | zero =>
    intro x5 x6 S hF
    rw [fX12_ageOf_178] at hF
    cases hF
  | succ n ih =>
    intro x5 x6 S hF
    rw [fX12_ageOf_178] at hF
    refine hJ.iload (pc := 178) dX12_ageOf_178 rfl ?_
    refine hJ.if_lt (pc := 180) 218 dX12_ageOf_180 (by decide) (fun h16 => ?_) (fun h16 => ?_)
    · rw [if_pos h16] at hF
      refine hJ.iload (pc := 218) dX12_ageOf_218 rfl ?_
      refine hJ.if_ge (pc := 220) 227 dX12_ageOf_220 (by decide) (fun h17 => ?_) (fun h17 => ?_)
      · rw [if_pos h17] at hF
        refine hJ.iload (pc := 227) dX12_ageOf_227 rfl ?_
        refine hJ.sipush (pc := 229) 999 dX12_ageOf_229 sc_999 ?_
        refine hJ.icmp_le (pc := 232) 241 dX12_ageOf_232 (by decide) (fun h18 => ?_) (fun h18 => ?_)
        · rw [if_pos h18] at hF
          refine hJ.iload (pc := 241) dX12_ageOf_241 rfl ?_
          cases hF
          exact hR.i (pc := 243) dX12_ageOf_243
        · rw [if_neg h18] at hF
          refine hJ.sipush (pc := 235) 999 dX12_ageOf_235 sc_999 ?_
          refine hJ.goto (pc := 238) 243 dX12_ageOf_238 (by decide) ?_
          cases hF
          exact hR.i (pc := 243) dX12_ageOf_243
      · rw [if_neg h17] at hF
        refine hJ.iconst (pc := 223) 0 dX12_ageOf_223 ic_0 ?_
        refine hJ.goto (pc := 224) 243 dX12_ageOf_224 (by decide) ?_
        cases hF
        exact hR.i (pc := 243) dX12_ageOf_243
    · rw [if_neg h16] at hF
      refine hJ.aload_n (pc := 183) dX12_ageOf_183 rfl ?_
      refine hJ.iload (pc := 184) dX12_ageOf_184 rfl ?_
      obtain ⟨r21, S20, h19, hF⟩ := bd_some hF
      refine hJ.cV (pc := 186) [vi x6] [] [vi r21] dX12_ageOf_186 lk_X12_254 (ctX12_isSo x6 _ _ _ _ h19) rfl rfl rfl rfl ?_
      refine hJ.if_eq (pc := 189) 212 dX12_ageOf_189 (by decide) (fun h22 => ?_) (fun h22 => ?_)
      · rw [if_pos h22] at hF
        refine hJ.iinc (pc := 212) (x6 + (-1)) [some (vr 12 0), none, none, none, none, some (vi x5), some (vi (x6 + (-1)))] dX12_ageOf_212 (by decide) rfl (congrArg (fun z => x6 + z) ic_m1) rfl ?_
        refine hJ.goto (pc := 215) 178 dX12_ageOf_215 (by decide) ?_
        exact ih x5 (x6 + (-1)) S20 hF
      · rw [if_neg h22] at hF
        refine hJ.aload_n (pc := 192) dX12_ageOf_192 rfl ?_
        refine hJ.aload_n (pc := 193) dX12_ageOf_193 rfl ?_
        refine hJ.gR (pc := 194) (k' := 76) (i' := 0) dX12_ageOf_194 fr_X12_58 rfl ?_
        refine hJ.iload (pc := 197) dX12_ageOf_197 rfl ?_
        obtain ⟨j23, h24, hF⟩ := bn_some hF
        refine hJ.lialdM (pc := 199) dX12_ageOf_199 al_76 h24 ?_
        refine hJ.aload_n (pc := 200) dX12_ageOf_200 rfl ?_
        refine hJ.gR (pc := 201) (k' := 75) (i' := 0) dX12_ageOf_201 fr_X12_55 rfl ?_
        refine hJ.iload (pc := 204) dX12_ageOf_204 rfl ?_
        refine hJ.lialdM (pc := 206) dX12_ageOf_206 al_75 h24 ?_
        obtain ⟨r27, S26, h25, hF⟩ := bd_some hF
        refine hJ.cV (pc := 207) [vi (S20 76 0 j23), vi (S20 75 0 j23)] [] [vi r27] dX12_ageOf_207 lk_X12_248 (ctX12_runs (S20 76 0 j23) (S20 75 0 j23) _ _ _ _ h25) rfl rfl rfl rfl ?_
        refine hJ.istore (pc := 210) [some (vr 12 0), none, none, none, none, some (vi r27), some (vi x6)] dX12_ageOf_210 (by decide) rfl ?_
        refine hJ.iinc (pc := 212) (x6 + (-1)) [some (vr 12 0), none, none, none, none, some (vi r27), some (vi (x6 + (-1)))] dX12_ageOf_212 (by decide) rfl (congrArg (fun z => x6 + z) ic_m1) rfl ?_
        refine hJ.goto (pc := 215) 178 dX12_ageOf_215 (by decide) ?_
        exact ih r27 (x6 + (-1)) S26 hF
set_option maxRecDepth 100000 in
set_option maxHeartbeats 4000000 in
theorem wX12_ageOf_153 {J : Nat → Lv → List AV → Obs → Lay → Nat → Nat → Mem → Mem → Prop} (hJ : Cl RX12 cX12_ageOf 7 3 68 0 0 none false J) {r : Int32} {Sc S' : Mem} (hR : Rk cX12_ageOf (some .int) (some (vi r)) wl0 L0 0 0 Sc S' J) (x1 : Int32) (x2 : Int32) (y0 : Int32) (y1 : Int32) (S : Mem) (hF : fX12_ageOf_153 x1 x2 y0 y1 S = some (r, S')) : J 153 [some (vr 12 0), some (vi x1), some (vi x2), none, none, none, none] [vi y0, vi y1, vr 81 0] wl0 L0 0 0 Sc S := by
  rw [fX12_ageOf_153] at hF
  obtain ⟨j12, h13, hF⟩ := bn_some hF
  refine hJ.siastM (pc := 153) dX12_ageOf_153 al_81 h13 ?_
  refine hJ.aload_n (pc := 154) dX12_ageOf_154 rfl ?_
  refine hJ.gR (pc := 155) (k' := 81) (i' := 0) dX12_ageOf_155 fr_X12_77 rfl ?_
  refine hJ.bipush (pc := 158) 8 dX12_ageOf_158 bc_8 ?_
  refine hJ.iload_n (pc := 160) dX12_ageOf_160 rfl ?_
  refine hJ.siastM (pc := 161) dX12_ageOf_161 al_81 (show ix 8 9 = some 8 by decide) ?_
  refine hJ.aload_n (pc := 162) dX12_ageOf_162 rfl ?_
  refine hJ.gR (pc := 163) (k' := 68) (i' := 0) dX12_ageOf_163 fr_X12_34 rfl ?_
  refine hJ.iload_n (pc := 166) dX12_ageOf_166 rfl ?_
  obtain ⟨j14, h15, hF⟩ := bn_some hF
  refine hJ.lialdM (pc := 167) dX12_ageOf_167 al_68 h15 ?_
  refine hJ.istore (pc := 168) [some (vr 12 0), some (vi x1), some (vi x2), none, none, some (vi ((up (up S 81 0 j12 y0) 81 0 8 x2) 68 0 j14)), none] dX12_ageOf_168 (by decide) rfl ?_
  refine hJ.aload_n (pc := 170) dX12_ageOf_170 rfl ?_
  refine hJ.gM (pc := 171) dX12_ageOf_171 fi_X12_241 ?_
  refine hJ.iconst (pc := 174) 1 dX12_ageOf_174 ic_1 ?_
  refine hJ.isub (pc := 175) dX12_ageOf_175 ?_
  refine hJ.istore (pc := 176) [some (vr 12 0), some (vi x1), some (vi x2), none, none, some (vi ((up (up S 81 0 j12 y0) 81 0 8 x2) 68 0 j14)), some (vi (((up (up S 81 0 j12 y0) 81 0 8 x2) 12 0 27) - 1))] dX12_ageOf_176 (by decide) rfl ?_
  refine hJ.weak [some (vr 12 0), none, none, none, none, some (vi ((up (up S 81 0 j12 y0) 81 0 8 x2) 68 0 j14)), some (vi (((up (up S 81 0 j12 y0) 81 0 8 x2) 12 0 27) - 1))] ⟨rfl, rfl, rfl, trivial⟩ ?_
  exact wX12_ageOf_178 hJ hR 5000 ((up (up S 81 0 j12 y0) 81 0 8 x2) 68 0 j14) (((up (up S 81 0 j12 y0) 81 0 8 x2) 12 0 27) - 1) (up (up S 81 0 j12 y0) 81 0 8 x2) hF
set_option maxRecDepth 100000 in
set_option maxHeartbeats 4000000 in
theorem wX12_ageOf_152 {J : Nat → Lv → List AV → Obs → Lay → Nat → Nat → Mem → Mem → Prop} (hJ : Cl RX12 cX12_ageOf 7 3 68 0 0 none false J) {r : Int32} {Sc S' : Mem} (hR : Rk cX12_ageOf (some .int) (some (vi r)) wl0 L0 0 0 Sc S' J) (x1 : Int32) (x2 : Int32) (y0 : Int32) (S : Mem) (hF : fX12_ageOf_152 x1 x2 y0 S = some (r, S')) : J 152 [some (vr 12 0), some (vi x1), some (vi x2), none, none, none, none] [vi y0, vr 81 0] wl0 L0 0 0 Sc S := by
  rw [fX12_ageOf_152] at hF
  refine hJ.iconst (pc := 152) 0 dX12_ageOf_152 ic_0 ?_
  exact wX12_ageOf_153 hJ hR x1 x2 0 y0 S hF
set_option maxRecDepth 100000 in
set_option maxHeartbeats 4000000 in
theorem wX12_ageOf_125 {J : Nat → Lv → List AV → Obs → Lay → Nat → Nat → Mem → Mem → Prop} (hJ : Cl RX12 cX12_ageOf 7 3 68 0 0 none false J) {r : Int32} {Sc S' : Mem} (hR : Rk cX12_ageOf (some .int) (some (vi r)) wl0 L0 0 0 Sc S' J) (x1 : Int32) (x2 : Int32) (x3 : Int32) (x4 : Int32) (y0 : Int32) (y1 : Int32) (S : Mem) (hF : fX12_ageOf_125 x1 x2 x3 x4 y0 y1 S = some (r, S')) : J 125 [some (vr 12 0), some (vi x1), some (vi x2), some (vi x3), some (vi x4), none, none] [vi y0, vi y1, vr 81 0] wl0 L0 0 0 Sc S := by
  rw [fX12_ageOf_125] at hF
  obtain ⟨j9, h10, hF⟩ := bn_some hF
  refine hJ.siastM (pc := 125) dX12_ageOf_125 al_81 h10 ?_
  refine hJ.aload_n (pc := 126) dX12_ageOf_126 rfl ?_
  refine hJ.gR (pc := 127) (k' := 81) (i' := 0) dX12_ageOf_127 fr_X12_77 rfl ?_
  refine hJ.bipush (pc := 130) 7 dX12_ageOf_130 bc_7 ?_
  refine hJ.iload (pc := 132) dX12_ageOf_132 rfl ?_
  refine hJ.iconst (pc := 134) (-1) dX12_ageOf_134 ic_m1 ?_
  refine hJ.icmp_eq (pc := 135) 152 dX12_ageOf_135 (by decide) (fun h11 => ?_) (fun h11 => ?_)
  · rw [if_pos h11] at hF
    refine hJ.weak [some (vr 12 0), some (vi x1), some (vi x2), none, none, none, none] ⟨rfl, rfl, rfl, trivial⟩ ?_
    exact wX12_ageOf_152 hJ hR x1 x2 7 (up S 81 0 j9 y0) hF
  · rw [if_neg h11] at hF
    refine hJ.aload_n (pc := 138) dX12_ageOf_138 rfl ?_
    refine hJ.iload (pc := 139) dX12_ageOf_139 rfl ?_
    refine hJ.iload_n (pc := 141) dX12_ageOf_141 rfl ?_
    obtain ⟨r29, h28, hF⟩ := bn_some hF
    refine hJ.cV (pc := 142) [vi x4, vi x3] [vi 7, vr 81 0] [vi r29, vi 7, vr 81 0] dX12_ageOf_142 lk_X12_143 (ctX12_doesLive x4 x3 _ _ _ h28) rfl rfl rfl rfl ?_
    refine hJ.if_eq (pc := 145) 152 dX12_ageOf_145 (by decide) (fun h30 => ?_) (fun h30 => ?_)
    · rw [if_pos h30] at hF
      refine hJ.weak [some (vr 12 0), some (vi x1), some (vi x2), none, none, none, none] ⟨rfl, rfl, rfl, trivial⟩ ?_
      exact wX12_ageOf_152 hJ hR x1 x2 7 (up S 81 0 j9 y0) hF
    · rw [if_neg h30] at hF
      refine hJ.iconst (pc := 148) 1 dX12_ageOf_148 ic_1 ?_
      refine hJ.goto (pc := 149) 153 dX12_ageOf_149 (by decide) ?_
      refine hJ.weak [some (vr 12 0), some (vi x1), some (vi x2), none, none, none, none] ⟨rfl, rfl, rfl, trivial⟩ ?_
      exact wX12_ageOf_153 hJ hR x1 x2 1 7 (up S 81 0 j9 y0) hF
set_option maxRecDepth 100000 in
set_option maxHeartbeats 4000000 in
theorem wX12_ageOf_44 {J : Nat → Lv → List AV → Obs → Lay → Nat → Nat → Mem → Mem → Prop} (hJ : Cl RX12 cX12_ageOf 7 3 68 0 0 none false J) {r : Int32} {Sc S' : Mem} (hR : Rk cX12_ageOf (some .int) (some (vi r)) wl0 L0 0 0 Sc S' J) (x1 : Int32) (x2 : Int32) (x3 : Int32) (x4 : Int32) (y0 : Int32) (y1 : Int32) (S : Mem) (hF : fX12_ageOf_44 x1 x2 x3 x4 y0 y1 S = some (r, S')) : J 44 [some (vr 12 0), some (vi x1), some (vi x2), some (vi x3), some (vi x4), none, none] [vi y0, vi y1, vr 81 0] wl0 L0 0 0 Sc S := by
  rw [fX12_ageOf_44] at hF
  obtain ⟨j4, h5, hF⟩ := bn_some hF
  refine hJ.siastM (pc := 44) dX12_ageOf_44 al_81 h5 ?_
  refine hJ.aload_n (pc := 45) dX12_ageOf_45 rfl ?_
  refine hJ.gR (pc := 46) (k' := 81) (i' := 0) dX12_ageOf_46 fr_X12_77 rfl ?_
  refine hJ.iconst (pc := 49) 2 dX12_ageOf_49 ic_2 ?_
  refine hJ.iload_n (pc := 50) dX12_ageOf_50 rfl ?_
  refine hJ.aload_n (pc := 51) dX12_ageOf_51 rfl ?_
  refine hJ.gR (pc := 52) (k' := 70) (i' := 0) dX12_ageOf_52 fr_X12_40 rfl ?_
  refine hJ.iload_n (pc := 55) dX12_ageOf_55 rfl ?_
  obtain ⟨j6, h7, hF⟩ := bn_some hF
  refine hJ.lialdM (pc := 56) dX12_ageOf_56 al_70 h7 ?_
  refine hJ.isub (pc := 57) dX12_ageOf_57 ?_
  refine hJ.siastM (pc := 58) dX12_ageOf_58 al_81 (show ix 2 9 = some 2 by decide) ?_
  refine hJ.aload_n (pc := 59) dX12_ageOf_59 rfl ?_
  refine hJ.gR (pc := 60) (k' := 81) (i' := 0) dX12_ageOf_60 fr_X12_77 rfl ?_
  refine hJ.iconst (pc := 63) 3 dX12_ageOf_63 ic_3 ?_
  refine hJ.iload_n (pc := 64) dX12_ageOf_64 rfl ?_
  refine hJ.aload_n (pc := 65) dX12_ageOf_65 rfl ?_
  refine hJ.gR (pc := 66) (k' := 66) (i' := 0) dX12_ageOf_66 fr_X12_28 rfl ?_
  refine hJ.iload_n (pc := 69) dX12_ageOf_69 rfl ?_
  refine hJ.lialdM (pc := 70) dX12_ageOf_70 al_66 h7 ?_
  refine hJ.isub (pc := 71) dX12_ageOf_71 ?_
  refine hJ.sipush (pc := 72) 365 dX12_ageOf_72 sc_365 ?_
  refine hJ.idiv (pc := 75) dX12_ageOf_75 (by decide) ?_
  refine hJ.siastM (pc := 76) dX12_ageOf_76 al_81 (show ix 3 9 = some 3 by decide) ?_
  refine hJ.aload_n (pc := 77) dX12_ageOf_77 rfl ?_
  refine hJ.gR (pc := 78) (k' := 81) (i' := 0) dX12_ageOf_78 fr_X12_77 rfl ?_
  refine hJ.iconst (pc := 81) 4 dX12_ageOf_81 ic_4 ?_
  refine hJ.aload_n (pc := 82) dX12_ageOf_82 rfl ?_
  refine hJ.gR (pc := 83) (k' := 69) (i' := 0) dX12_ageOf_83 fr_X12_37 rfl ?_
  refine hJ.iload_n (pc := 86) dX12_ageOf_86 rfl ?_
  refine hJ.lialdM (pc := 87) dX12_ageOf_87 al_69 h7 ?_
  refine hJ.siastM (pc := 88) dX12_ageOf_88 al_81 (show ix 4 9 = some 4 by decide) ?_
  refine hJ.aload_n (pc := 89) dX12_ageOf_89 rfl ?_
  refine hJ.gR (pc := 90) (k' := 81) (i' := 0) dX12_ageOf_90 fr_X12_77 rfl ?_
  refine hJ.iconst (pc := 93) 5 dX12_ageOf_93 ic_5 ?_
  refine hJ.aload_n (pc := 94) dX12_ageOf_94 rfl ?_
  refine hJ.gR (pc := 95) (k' := 65) (i' := 0) dX12_ageOf_95 fr_X12_25 rfl ?_
  refine hJ.iload_n (pc := 98) dX12_ageOf_98 rfl ?_
  refine hJ.lialdM (pc := 99) dX12_ageOf_99 al_65 h7 ?_
  refine hJ.siastM (pc := 100) dX12_ageOf_100 al_81 (show ix 5 9 = some 5 by decide) ?_
  refine hJ.aload_n (pc := 101) dX12_ageOf_101 rfl ?_
  refine hJ.gR (pc := 102) (k' := 81) (i' := 0) dX12_ageOf_102 fr_X12_77 rfl ?_
  refine hJ.bipush (pc := 105) 6 dX12_ageOf_105 bc_6 ?_
  refine hJ.iload (pc := 107) dX12_ageOf_107 rfl ?_
  refine hJ.iconst (pc := 109) (-1) dX12_ageOf_109 ic_m1 ?_
  refine hJ.icmp_ne (pc := 110) 118 dX12_ageOf_110 (by decide) (fun h8 => ?_) (fun h8 => ?_)
  · rw [if_neg h8] at hF
    refine hJ.aload_n (pc := 118) dX12_ageOf_118 rfl ?_
    refine hJ.gR (pc := 119) (k' := 63) (i' := 0) dX12_ageOf_119 fr_X12_19 rfl ?_
    refine hJ.iload (pc := 122) dX12_ageOf_122 rfl ?_
    obtain ⟨j31, h32, hF⟩ := bn_some hF
    refine hJ.lialdM (pc := 124) dX12_ageOf_124 al_63 h32 ?_
    exact wX12_ageOf_125 hJ hR x1 x2 x3 x4 ((up (up (up (up (up S 81 0 j4 y0) 81 0 2 (x3 - ((up S 81 0 j4 y0) 70 0 j6))) 81 0 3 ((x3 - ((up (up S 81 0 j4 y0) 81 0 2 (x3 - ((up S 81 0 j4 y0) 70 0 j6))) 66 0 j6)) / 365)) 81 0 4 ((up (up (up S 81 0 j4 y0) 81 0 2 (x3 - ((up S 81 0 j4 y0) 70 0 j6))) 81 0 3 ((x3 - ((up (up S 81 0 j4 y0) 81 0 2 (x3 - ((up S 81 0 j4 y0) 70 0 j6))) 66 0 j6)) / 365)) 69 0 j6)) 81 0 5 ((up (up (up (up S 81 0 j4 y0) 81 0 2 (x3 - ((up S 81 0 j4 y0) 70 0 j6))) 81 0 3 ((x3 - ((up (up S 81 0 j4 y0) 81 0 2 (x3 - ((up S 81 0 j4 y0) 70 0 j6))) 66 0 j6)) / 365)) 81 0 4 ((up (up (up S 81 0 j4 y0) 81 0 2 (x3 - ((up S 81 0 j4 y0) 70 0 j6))) 81 0 3 ((x3 - ((up (up S 81 0 j4 y0) 81 0 2 (x3 - ((up S 81 0 j4 y0) 70 0 j6))) 66 0 j6)) / 365)) 69 0 j6)) 65 0 j6)) 63 0 j31) 6 (up (up (up (up (up S 81 0 j4 y0) 81 0 2 (x3 - ((up S 81 0 j4 y0) 70 0 j6))) 81 0 3 ((x3 - ((up (up S 81 0 j4 y0) 81 0 2 (x3 - ((up S 81 0 j4 y0) 70 0 j6))) 66 0 j6)) / 365)) 81 0 4 ((up (up (up S 81 0 j4 y0) 81 0 2 (x3 - ((up S 81 0 j4 y0) 70 0 j6))) 81 0 3 ((x3 - ((up (up S 81 0 j4 y0) 81 0 2 (x3 - ((up S 81 0 j4 y0) 70 0 j6))) 66 0 j6)) / 365)) 69 0 j6)) 81 0 5 ((up (up (up (up S 81 0 j4 y0) 81 0 2 (x3 - ((up S 81 0 j4 y0) 70 0 j6))) 81 0 3 ((x3 - ((up (up S 81 0 j4 y0) 81 0 2 (x3 - ((up S 81 0 j4 y0) 70 0 j6))) 66 0 j6)) / 365)) 81 0 4 ((up (up (up S 81 0 j4 y0) 81 0 2 (x3 - ((up S 81 0 j4 y0) 70 0 j6))) 81 0 3 ((x3 - ((up (up S 81 0 j4 y0) 81 0 2 (x3 - ((up S 81 0 j4 y0) 70 0 j6))) 66 0 j6)) / 365)) 69 0 j6)) 65 0 j6)) hF
  · rw [if_pos h8] at hF
    refine hJ.bipush (pc := 113) 9 dX12_ageOf_113 bc_9 ?_
    refine hJ.goto (pc := 115) 125 dX12_ageOf_115 (by decide) ?_
    exact wX12_ageOf_125 hJ hR x1 x2 x3 x4 9 6 (up (up (up (up (up S 81 0 j4 y0) 81 0 2 (x3 - ((up S 81 0 j4 y0) 70 0 j6))) 81 0 3 ((x3 - ((up (up S 81 0 j4 y0) 81 0 2 (x3 - ((up S 81 0 j4 y0) 70 0 j6))) 66 0 j6)) / 365)) 81 0 4 ((up (up (up S 81 0 j4 y0) 81 0 2 (x3 - ((up S 81 0 j4 y0) 70 0 j6))) 81 0 3 ((x3 - ((up (up S 81 0 j4 y0) 81 0 2 (x3 - ((up S 81 0 j4 y0) 70 0 j6))) 66 0 j6)) / 365)) 69 0 j6)) 81 0 5 ((up (up (up (up S 81 0 j4 y0) 81 0 2 (x3 - ((up S 81 0 j4 y0) 70 0 j6))) 81 0 3 ((x3 - ((up (up S 81 0 j4 y0) 81 0 2 (x3 - ((up S 81 0 j4 y0) 70 0 j6))) 66 0 j6)) / 365)) 81 0 4 ((up (up (up S 81 0 j4 y0) 81 0 2 (x3 - ((up S 81 0 j4 y0) 70 0 j6))) 81 0 3 ((x3 - ((up (up S 81 0 j4 y0) 81 0 2 (x3 - ((up S 81 0 j4 y0) 70 0 j6))) 66 0 j6)) / 365)) 69 0 j6)) 65 0 j6)) hF
set_option maxRecDepth 100000 in
set_option maxHeartbeats 4000000 in
theorem ctX12_ageOf (p0 : Int32) (p1 : Int32) (p2 : Int32) (Sc S : Mem) (r : Int32) (S' : Mem) (hF : fX12_ageOf p0 p1 p2 S = some (r, S')) : Ct yX12_ageOf cX12_ageOf 7 (some .int) 3 68 0 0 [vr 12 0, vi p0, vi p1, vi p2] wl0 L0 Sc S (some (vi r)) wl0 L0 Sc S' := by
  refine Ct.of RX12 false (by decide) rfl (fun h => by cases h) (Nat.le_of_ble_eq_true rfl) (fun J hJ hR => ?_)
  rw [fX12_ageOf] at hF
  show J 0 [some (vr 12 0), some (vi p0), some (vi p1), some (vi p2), none, none, none] [] wl0 L0 0 0 Sc S
  refine hJ.aload_n (pc := 0) dX12_ageOf_0 rfl ?_
  refine hJ.gR (pc := 1) (k' := 67) (i' := 0) dX12_ageOf_1 fr_X12_31 rfl ?_
  refine hJ.iload_n (pc := 4) dX12_ageOf_4 rfl ?_
  obtain ⟨j1, h2, hF⟩ := bn_some hF
  refine hJ.lialdM (pc := 5) dX12_ageOf_5 al_67 h2 ?_
  refine hJ.iconst (pc := 6) 1 dX12_ageOf_6 ic_1 ?_
  refine hJ.isub (pc := 7) dX12_ageOf_7 ?_
  refine hJ.istore (pc := 8) [some (vr 12 0), some (vi p0), some (vi p1), some (vi p2), some (vi ((S 67 0 j1) - 1)), none, none] dX12_ageOf_8 (by decide) rfl ?_
  refine hJ.aload_n (pc := 10) dX12_ageOf_10 rfl ?_
  refine hJ.gR (pc := 11) (k' := 81) (i' := 0) dX12_ageOf_11 fr_X12_77 rfl ?_
  refine hJ.iconst (pc := 14) 0 dX12_ageOf_14 ic_0 ?_
  refine hJ.aload_n (pc := 15) dX12_ageOf_15 rfl ?_
  refine hJ.gR (pc := 16) (k' := 68) (i' := 0) dX12_ageOf_16 fr_X12_34 rfl ?_
  refine hJ.iload_n (pc := 19) dX12_ageOf_19 rfl ?_
  refine hJ.lialdM (pc := 20) dX12_ageOf_20 al_68 h2 ?_
  refine hJ.siastM (pc := 21) dX12_ageOf_21 al_81 (show ix 0 9 = some 0 by decide) ?_
  refine hJ.aload_n (pc := 22) dX12_ageOf_22 rfl ?_
  refine hJ.gR (pc := 23) (k' := 81) (i' := 0) dX12_ageOf_23 fr_X12_77 rfl ?_
  refine hJ.iconst (pc := 26) 1 dX12_ageOf_26 ic_1 ?_
  refine hJ.iload (pc := 27) dX12_ageOf_27 rfl ?_
  refine hJ.iconst (pc := 29) (-1) dX12_ageOf_29 ic_m1 ?_
  refine hJ.icmp_ne (pc := 30) 37 dX12_ageOf_30 (by decide) (fun h3 => ?_) (fun h3 => ?_)
  · rw [if_neg h3] at hF
    refine hJ.aload_n (pc := 37) dX12_ageOf_37 rfl ?_
    refine hJ.iload (pc := 38) dX12_ageOf_38 rfl ?_
    refine hJ.iload_n (pc := 40) dX12_ageOf_40 rfl ?_
    obtain ⟨r34, h33, hF⟩ := bn_some hF
    refine hJ.cV (pc := 41) [vi ((S 67 0 j1) - 1), vi p2] [vi 1, vr 81 0] [vi r34, vi 1, vr 81 0] dX12_ageOf_41 lk_X12_251 (ctX12_yearsOf ((S 67 0 j1) - 1) p2 _ _ _ h33) rfl rfl rfl rfl ?_
    exact wX12_ageOf_44 hJ hR p0 p1 p2 ((S 67 0 j1) - 1) r34 1 (up S 81 0 0 (S 68 0 j1)) hF
  · rw [if_pos h3] at hF
    refine hJ.iconst (pc := 33) 0 dX12_ageOf_33 ic_0 ?_
    refine hJ.goto (pc := 34) 44 dX12_ageOf_34 (by decide) ?_
    exact wX12_ageOf_44 hJ hR p0 p1 p2 ((S 67 0 j1) - 1) 0 1 (up S 81 0 0 (S 68 0 j1)) hF
set_option maxRecDepth 100000 in
set_option maxHeartbeats 4000000 in
theorem ctX12_isRead (p0 : Int32) (p1 : Int32) (p2 : Int32) (Sc S : Mem) (S' : Mem) (hF : fX12_isRead p0 p1 p2 S = some (S')) : Ct yX12_isRead cX12_isRead 4 none 1 22 0 0 [vr 12 0, vi p0, vi p1, vi p2] wl0 L0 Sc S none wl0 L0 Sc S' := by
  refine Ct.of RX12 false (by decide) rfl (fun h => by cases h) (Nat.le_of_ble_eq_true rfl) (fun J hJ hR => ?_)
  rw [fX12_isRead] at hF
  show J 0 [some (vr 12 0), some (vi p0), some (vi p1), some (vi p2)] [] wl0 L0 0 0 Sc S
  refine hJ.aload_n (pc := 0) dX12_isRead_0 rfl ?_
  refine hJ.gR (pc := 1) (k' := 67) (i' := 0) dX12_isRead_1 fr_X12_31 rfl ?_
  refine hJ.iload_n (pc := 4) dX12_isRead_4 rfl ?_
  refine hJ.iload_n (pc := 5) dX12_isRead_5 rfl ?_
  refine hJ.iconst (pc := 6) 1 dX12_isRead_6 ic_1 ?_
  refine hJ.iadd (pc := 7) dX12_isRead_7 ?_
  obtain ⟨j1, h2, hF⟩ := bn_some hF
  refine hJ.siastM (pc := 8) dX12_isRead_8 al_67 h2 ?_
  refine hJ.aload_n (pc := 9) dX12_isRead_9 rfl ?_
  refine hJ.gR (pc := 10) (k' := 68) (i' := 0) dX12_isRead_10 fr_X12_34 rfl ?_
  refine hJ.iload_n (pc := 13) dX12_isRead_13 rfl ?_
  refine hJ.aload_n (pc := 14) dX12_isRead_14 rfl ?_
  refine hJ.iload_n (pc := 15) dX12_isRead_15 rfl ?_
  refine hJ.iload_n (pc := 16) dX12_isRead_16 rfl ?_
  obtain ⟨r4, h3, hF⟩ := bn_some hF
  refine hJ.cV (pc := 17) [vi p1, vi p2] [vi p0, vr 68 0] [vi r4, vi p0, vr 68 0] dX12_isRead_17 lk_X12_251 (ctX12_yearsOf p1 p2 _ _ _ h3) rfl rfl rfl rfl ?_
  refine hJ.siastM (pc := 20) dX12_isRead_20 al_68 h2 ?_
  refine hJ.aload_n (pc := 21) dX12_isRead_21 rfl ?_
  refine hJ.gR (pc := 22) (k' := 69) (i' := 0) dX12_isRead_22 fr_X12_37 rfl ?_
  refine hJ.iload_n (pc := 25) dX12_isRead_25 rfl ?_
  refine hJ.aload_n (pc := 26) dX12_isRead_26 rfl ?_
  refine hJ.gR (pc := 27) (k' := 69) (i' := 0) dX12_isRead_27 fr_X12_37 rfl ?_
  refine hJ.iload_n (pc := 30) dX12_isRead_30 rfl ?_
  refine hJ.lialdM (pc := 31) dX12_isRead_31 al_69 h2 ?_
  refine hJ.iconst (pc := 32) 1 dX12_isRead_32 ic_1 ?_
  refine hJ.iadd (pc := 33) dX12_isRead_33 ?_
  refine hJ.siastM (pc := 34) dX12_isRead_34 al_69 h2 ?_
  refine hJ.aload_n (pc := 35) dX12_isRead_35 rfl ?_
  refine hJ.gR (pc := 36) (k' := 70) (i' := 0) dX12_isRead_36 fr_X12_40 rfl ?_
  refine hJ.iload_n (pc := 39) dX12_isRead_39 rfl ?_
  refine hJ.iload_n (pc := 40) dX12_isRead_40 rfl ?_
  refine hJ.siastM (pc := 41) dX12_isRead_41 al_70 h2 ?_
  cases hF
  exact hR.v (pc := 42) dX12_isRead_42
set_option maxRecDepth 100000 in
set_option maxHeartbeats 4000000 in
theorem ctX12_read (p0 : Int32) (p1 : Int32) (Sc S : Mem) (r : Int32) (S' : Mem) (hF : fX12_read p0 p1 S = some (r, S')) : Ct yX12_read cX12_read 5 (some .int) 4 94 0 0 [vr 12 0, vi p0, vi p1] wl0 L0 Sc S (some (vi r)) wl0 L0 Sc S' := by
  refine Ct.of RX12 false (by decide) rfl (fun h => by cases h) (Nat.le_of_ble_eq_true rfl) (fun J hJ hR => ?_)
  rw [fX12_read] at hF
  show J 0 [some (vr 12 0), some (vi p0), some (vi p1), none, none] [] wl0 L0 0 0 Sc S
  refine hJ.aload_n (pc := 0) dX12_read_0 rfl ?_
  refine hJ.iconst (pc := 1) 0 dX12_read_1 ic_0 ?_
  refine hJ.pIM (pc := 2) dX12_read_2 fp_X12_104 ?_
  refine hJ.aload_n (pc := 5) dX12_read_5 rfl ?_
  refine hJ.iload_n (pc := 6) dX12_read_6 rfl ?_
  refine hJ.cV (pc := 7) [vi p0] [] [vi (fX12_isPaper p0 (up S 12 0 0 0))] dX12_read_7 lk_X12_140 (ctX12_isPaper p0 _ _ (fX12_isPaper p0 (up S 12 0 0 0)) rfl) rfl rfl rfl rfl ?_
  refine hJ.if_eq (pc := 10) 33 dX12_read_10 (by decide) (fun h1 => ?_) (fun h1 => ?_)
  · rw [if_pos h1] at hF
    refine hJ.iconst (pc := 33) (-1) dX12_read_33 ic_m1 ?_
    cases hF
    exact hR.i (pc := 34) dX12_read_34
  · rw [if_neg h1] at hF
    refine hJ.aload_n (pc := 13) dX12_read_13 rfl ?_
    refine hJ.iload_n (pc := 14) dX12_read_14 rfl ?_
    refine hJ.cV (pc := 15) [vi p1] [] [vi (fX12_isReader p1 (up S 12 0 0 0))] dX12_read_15 lk_X12_123 (ctX12_isReader p1 _ _ (fX12_isReader p1 (up S 12 0 0 0)) rfl) rfl rfl rfl rfl ?_
    refine hJ.if_eq (pc := 18) 33 dX12_read_18 (by decide) (fun h2 => ?_) (fun h2 => ?_)
    · rw [if_pos h2] at hF
      refine hJ.iconst (pc := 33) (-1) dX12_read_33 ic_m1 ?_
      cases hF
      exact hR.i (pc := 34) dX12_read_34
    · rw [if_neg h2] at hF
      refine hJ.aload_n (pc := 21) dX12_read_21 rfl ?_
      refine hJ.iload_n (pc := 22) dX12_read_22 rfl ?_
      refine hJ.aload_n (pc := 23) dX12_read_23 rfl ?_
      refine hJ.gM (pc := 24) dX12_read_24 fi_X12_127 ?_
      obtain ⟨r4, h3, hF⟩ := bn_some hF
      refine hJ.cV (pc := 27) [vi p1, vi ((up S 12 0 0 0) 12 0 2)] [] [vi r4] dX12_read_27 lk_X12_143 (ctX12_doesLive p1 ((up S 12 0 0 0) 12 0 2) _ _ _ h3) rfl rfl rfl rfl ?_
      refine hJ.if_ne (pc := 30) 35 dX12_read_30 (by decide) (fun h5 => ?_) (fun h5 => ?_)
      · rw [if_neg h5] at hF
        refine hJ.aload_n (pc := 35) dX12_read_35 rfl ?_
        refine hJ.iload_n (pc := 36) dX12_read_36 rfl ?_
        obtain ⟨S7, h6, hF⟩ := bn_some hF
        refine hJ.cV (pc := 37) [vi p0] [] [] dX12_read_37 lk_X12_263 (ctX12_keepsAhead p0 _ _ _ h6) rfl rfl rfl rfl ?_
        refine hJ.aload_n (pc := 40) dX12_read_40 rfl ?_
        refine hJ.iload_n (pc := 41) dX12_read_41 rfl ?_
        refine hJ.iload_n (pc := 42) dX12_read_42 rfl ?_
        refine hJ.aload_n (pc := 43) dX12_read_43 rfl ?_
        refine hJ.gM (pc := 44) dX12_read_44 fi_X12_127 ?_
        obtain ⟨r10, S9, h8, hF⟩ := bd_some hF
        refine hJ.cV (pc := 47) [vi p0, vi p0, vi (S7 12 0 2)] [] [vi r10] dX12_read_47 lk_X12_257 (ctX12_ageOf p0 p0 (S7 12 0 2) _ _ _ _ h8) rfl rfl rfl rfl ?_
        refine hJ.istore_n (pc := 50) [some (vr 12 0), some (vi p0), some (vi p1), some (vi r10), none] dX12_read_50 (by decide) rfl ?_
        refine hJ.aload_n (pc := 51) dX12_read_51 rfl ?_
        refine hJ.iload_n (pc := 52) dX12_read_52 rfl ?_
        refine hJ.iload_n (pc := 53) dX12_read_53 rfl ?_
        refine hJ.aload_n (pc := 54) dX12_read_54 rfl ?_
        refine hJ.gM (pc := 55) dX12_read_55 fi_X12_127 ?_
        obtain ⟨S12, h11, hF⟩ := bn_some hF
        refine hJ.cV (pc := 58) [vi p0, vi p1, vi (S9 12 0 2)] [] [] dX12_read_58 lk_X12_266 (ctX12_isRead p0 p1 (S9 12 0 2) _ _ _ h11) rfl rfl rfl rfl ?_
        refine hJ.aload_n (pc := 61) dX12_read_61 rfl ?_
        refine hJ.iload_n (pc := 62) dX12_read_62 rfl ?_
        refine hJ.iload_n (pc := 63) dX12_read_63 rfl ?_
        refine hJ.aload_n (pc := 64) dX12_read_64 rfl ?_
        refine hJ.gM (pc := 65) dX12_read_65 fi_X12_127 ?_
        obtain ⟨r15, S14, h13, hF⟩ := bd_some hF
        refine hJ.cV (pc := 68) [vi p0, vi p0, vi (S12 12 0 2)] [] [vi r15] dX12_read_68 lk_X12_257 (ctX12_ageOf p0 p0 (S12 12 0 2) _ _ _ _ h13) rfl rfl rfl rfl ?_
        refine hJ.istore (pc := 71) [some (vr 12 0), some (vi p0), some (vi p1), some (vi r10), some (vi r15)] dX12_read_71 (by decide) rfl ?_
        refine hJ.aload_n (pc := 73) dX12_read_73 rfl ?_
        refine hJ.gM (pc := 74) dX12_read_74 fi_X12_260 ?_
        refine hJ.bipush (pc := 77) 120 dX12_read_77 bc_120 ?_
        refine hJ.icmp_ge (pc := 79) 164 dX12_read_79 (by decide) (fun h16 => ?_) (fun h16 => ?_)
        · rw [if_pos h16] at hF
          refine hJ.iload (pc := 164) dX12_read_164 rfl ?_
          cases hF
          exact hR.i (pc := 166) dX12_read_166
        · rw [if_neg h16] at hF
          refine hJ.aload_n (pc := 82) dX12_read_82 rfl ?_
          refine hJ.gR (pc := 83) (k' := 72) (i' := 0) dX12_read_83 fr_X12_46 rfl ?_
          refine hJ.iconst (pc := 86) 5 dX12_read_86 ic_5 ?_
          refine hJ.aload_n (pc := 87) dX12_read_87 rfl ?_
          refine hJ.gM (pc := 88) dX12_read_88 fi_X12_260 ?_
          refine hJ.imul (pc := 91) dX12_read_91 ?_
          refine hJ.iload_n (pc := 92) dX12_read_92 rfl ?_
          obtain ⟨j17, h18, hF⟩ := bn_some hF
          refine hJ.siastM (pc := 93) dX12_read_93 al_72 h18 ?_
          refine hJ.aload_n (pc := 94) dX12_read_94 rfl ?_
          refine hJ.gR (pc := 95) (k' := 72) (i' := 0) dX12_read_95 fr_X12_46 rfl ?_
          refine hJ.iconst (pc := 98) 5 dX12_read_98 ic_5 ?_
          refine hJ.aload_n (pc := 99) dX12_read_99 rfl ?_
          refine hJ.gM (pc := 100) dX12_read_100 fi_X12_260 ?_
          refine hJ.imul (pc := 103) dX12_read_103 ?_
          refine hJ.iconst (pc := 104) 1 dX12_read_104 ic_1 ?_
          refine hJ.iadd (pc := 105) dX12_read_105 ?_
          refine hJ.iload_n (pc := 106) dX12_read_106 rfl ?_
          obtain ⟨j19, h20, hF⟩ := bn_some hF
          refine hJ.siastM (pc := 107) dX12_read_107 al_72 h20 ?_
          refine hJ.aload_n (pc := 108) dX12_read_108 rfl ?_
          refine hJ.gR (pc := 109) (k' := 72) (i' := 0) dX12_read_109 fr_X12_46 rfl ?_
          refine hJ.iconst (pc := 112) 5 dX12_read_112 ic_5 ?_
          refine hJ.aload_n (pc := 113) dX12_read_113 rfl ?_
          refine hJ.gM (pc := 114) dX12_read_114 fi_X12_260 ?_
          refine hJ.imul (pc := 117) dX12_read_117 ?_
          refine hJ.iconst (pc := 118) 2 dX12_read_118 ic_2 ?_
          refine hJ.iadd (pc := 119) dX12_read_119 ?_
          refine hJ.aload_n (pc := 120) dX12_read_120 rfl ?_
          refine hJ.gM (pc := 121) dX12_read_121 fi_X12_127 ?_
          obtain ⟨j21, h22, hF⟩ := bn_some hF
          refine hJ.siastM (pc := 124) dX12_read_124 al_72 h22 ?_
          refine hJ.aload_n (pc := 125) dX12_read_125 rfl ?_
          refine hJ.gR (pc := 126) (k' := 72) (i' := 0) dX12_read_126 fr_X12_46 rfl ?_
          refine hJ.iconst (pc := 129) 5 dX12_read_129 ic_5 ?_
          refine hJ.aload_n (pc := 130) dX12_read_130 rfl ?_
          refine hJ.gM (pc := 131) dX12_read_131 fi_X12_260 ?_
          refine hJ.imul (pc := 134) dX12_read_134 ?_
          refine hJ.iconst (pc := 135) 3 dX12_read_135 ic_3 ?_
          refine hJ.iadd (pc := 136) dX12_read_136 ?_
          refine hJ.iload_n (pc := 137) dX12_read_137 rfl ?_
          obtain ⟨j23, h24, hF⟩ := bn_some hF
          refine hJ.siastM (pc := 138) dX12_read_138 al_72 h24 ?_
          refine hJ.aload_n (pc := 139) dX12_read_139 rfl ?_
          refine hJ.gR (pc := 140) (k' := 72) (i' := 0) dX12_read_140 fr_X12_46 rfl ?_
          refine hJ.iconst (pc := 143) 5 dX12_read_143 ic_5 ?_
          refine hJ.aload_n (pc := 144) dX12_read_144 rfl ?_
          refine hJ.gM (pc := 145) dX12_read_145 fi_X12_260 ?_
          refine hJ.imul (pc := 148) dX12_read_148 ?_
          refine hJ.iconst (pc := 149) 4 dX12_read_149 ic_4 ?_
          refine hJ.iadd (pc := 150) dX12_read_150 ?_
          refine hJ.iload (pc := 151) dX12_read_151 rfl ?_
          obtain ⟨j25, h26, hF⟩ := bn_some hF
          refine hJ.siastM (pc := 153) dX12_read_153 al_72 h26 ?_
          refine hJ.aload_n (pc := 154) dX12_read_154 rfl ?_
          refine hJ.aload_n (pc := 155) dX12_read_155 rfl ?_
          refine hJ.gM (pc := 156) dX12_read_156 fi_X12_260 ?_
          refine hJ.iconst (pc := 159) 1 dX12_read_159 ic_1 ?_
          refine hJ.iadd (pc := 160) dX12_read_160 ?_
          refine hJ.pIM (pc := 161) dX12_read_161 fp_X12_260 ?_
          refine hJ.iload (pc := 164) dX12_read_164 rfl ?_
          cases hF
          exact hR.i (pc := 166) dX12_read_166
      · rw [if_pos h5] at hF
        refine hJ.iconst (pc := 33) (-1) dX12_read_33 ic_m1 ?_
        cases hF
        exact hR.i (pc := 34) dX12_read_34
set_option maxRecDepth 100000 in
set_option maxHeartbeats 4000000 in
theorem wX12_lease_40 {J : Nat → Lv → List AV → Obs → Lay → Nat → Nat → Mem → Mem → Prop} (hJ : Cl RX12 cX12_lease 3 1 22 0 0 none false J) {r : Int32} {Sc S' : Mem} (hR : Rk cX12_lease (some .boolean) (some (vi r)) wl0 L0 0 0 Sc S' J) (x1 : Int32) (x2 : Int32) (S : Mem) (hF : fX12_lease_40 x1 x2 S = some (r, S')) : J 40 [some (vr 12 0), some (vi x1), some (vi x2)] [] wl0 L0 0 0 Sc S := by
  rw [fX12_lease_40] at hF
  refine hJ.aload_n (pc := 40) dX12_lease_40 rfl ?_
  refine hJ.gR (pc := 41) (k' := 71) (i' := 0) dX12_lease_41 fr_X12_43 rfl ?_
  refine hJ.iload_n (pc := 44) dX12_lease_44 rfl ?_
  refine hJ.iload_n (pc := 45) dX12_lease_45 rfl ?_
  obtain ⟨j3, h4, hF⟩ := bn_some hF
  refine hJ.siastM (pc := 46) dX12_lease_46 al_71 h4 ?_
  refine hJ.aload_n (pc := 47) dX12_lease_47 rfl ?_
  refine hJ.iconst (pc := 48) 0 dX12_lease_48 ic_0 ?_
  refine hJ.pIM (pc := 49) dX12_lease_49 fp_X12_120 ?_
  refine hJ.iconst (pc := 52) 1 dX12_lease_52 ic_1 ?_
  cases hF
  exact hR.n (pc := 53) (by decide) dX12_lease_53
set_option maxRecDepth 100000 in
set_option maxHeartbeats 4000000 in
theorem ctX12_lease (p0 : Int32) (p1 : Int32) (Sc S : Mem) (r : Int32) (S' : Mem) (hF : fX12_lease p0 p1 S = some (r, S')) : Ct yX12_lease cX12_lease 3 (some .boolean) 1 22 0 0 [vr 12 0, vi p0, vi p1] wl0 L0 Sc S (some (vi r)) wl0 L0 Sc S' := by
  refine Ct.of RX12 false (by decide) rfl (fun h => by cases h) (Nat.le_of_ble_eq_true rfl) (fun J hJ hR => ?_)
  rw [fX12_lease] at hF
  show J 0 [some (vr 12 0), some (vi p0), some (vi p1)] [] wl0 L0 0 0 Sc S
  refine hJ.aload_n (pc := 0) dX12_lease_0 rfl ?_
  refine hJ.iconst (pc := 1) 0 dX12_lease_1 ic_0 ?_
  refine hJ.pIM (pc := 2) dX12_lease_2 fp_X12_104 ?_
  refine hJ.aload_n (pc := 5) dX12_lease_5 rfl ?_
  refine hJ.iload_n (pc := 6) dX12_lease_6 rfl ?_
  refine hJ.cV (pc := 7) [vi p0] [] [vi (fX12_isPaper p0 (up S 12 0 0 0))] dX12_lease_7 lk_X12_140 (ctX12_isPaper p0 _ _ (fX12_isPaper p0 (up S 12 0 0 0)) rfl) rfl rfl rfl rfl ?_
  refine hJ.if_eq (pc := 10) 38 dX12_lease_10 (by decide) (fun h1 => ?_) (fun h1 => ?_)
  · rw [if_pos h1] at hF
    refine hJ.iconst (pc := 38) 0 dX12_lease_38 ic_0 ?_
    cases hF
    exact hR.n (pc := 39) (by decide) dX12_lease_39
  · rw [if_neg h1] at hF
    refine hJ.iload_n (pc := 13) dX12_lease_13 rfl ?_
    refine hJ.iconst (pc := 14) (-1) dX12_lease_14 ic_m1 ?_
    refine hJ.icmp_eq (pc := 15) 40 dX12_lease_15 (by decide) (fun h2 => ?_) (fun h2 => ?_)
    · rw [if_pos h2] at hF
      exact wX12_lease_40 hJ hR p0 p1 (up S 12 0 0 0) hF
    · rw [if_neg h2] at hF
      refine hJ.aload_n (pc := 18) dX12_lease_18 rfl ?_
      refine hJ.iload_n (pc := 19) dX12_lease_19 rfl ?_
      refine hJ.cV (pc := 20) [vi p1] [] [vi (fX12_isReader p1 (up S 12 0 0 0))] dX12_lease_20 lk_X12_123 (ctX12_isReader p1 _ _ (fX12_isReader p1 (up S 12 0 0 0)) rfl) rfl rfl rfl rfl ?_
      refine hJ.if_eq (pc := 23) 38 dX12_lease_23 (by decide) (fun h5 => ?_) (fun h5 => ?_)
      · rw [if_pos h5] at hF
        refine hJ.iconst (pc := 38) 0 dX12_lease_38 ic_0 ?_
        cases hF
        exact hR.n (pc := 39) (by decide) dX12_lease_39
      · rw [if_neg h5] at hF
        refine hJ.aload_n (pc := 26) dX12_lease_26 rfl ?_
        refine hJ.iload_n (pc := 27) dX12_lease_27 rfl ?_
        refine hJ.aload_n (pc := 28) dX12_lease_28 rfl ?_
        refine hJ.gM (pc := 29) dX12_lease_29 fi_X12_127 ?_
        obtain ⟨r7, h6, hF⟩ := bn_some hF
        refine hJ.cV (pc := 32) [vi p1, vi ((up S 12 0 0 0) 12 0 2)] [] [vi r7] dX12_lease_32 lk_X12_143 (ctX12_doesLive p1 ((up S 12 0 0 0) 12 0 2) _ _ _ h6) rfl rfl rfl rfl ?_
        refine hJ.if_ne (pc := 35) 40 dX12_lease_35 (by decide) (fun h8 => ?_) (fun h8 => ?_)
        · rw [if_neg h8] at hF
          exact wX12_lease_40 hJ hR p0 p1 (up S 12 0 0 0) hF
        · rw [if_pos h8] at hF
          refine hJ.iconst (pc := 38) 0 dX12_lease_38 ic_0 ?_
          cases hF
          exact hR.n (pc := 39) (by decide) dX12_lease_39
set_option maxRecDepth 100000 in
set_option maxHeartbeats 4000000 in
theorem wX12_leasesOf_4 {J : Nat → Lv → List AV → Obs → Lay → Nat → Nat → Mem → Mem → Prop} (hJ : Cl RX12 cX12_leasesOf 4 0 0 0 0 none false J) {r : Int32} {Sc S : Mem} (hR : Rk cX12_leasesOf (some .int) (some (vi r)) wl0 L0 0 0 Sc S J) : ∀ (n : Nat) (x1 : Int32) (x2 : Int32) (x3 : Int32), fX12_leasesOf_4 n x1 x2 x3 S = some r → J 4 [some (vr 12 0), some (vi x1), some (vi x2), some (vi x3)] [] wl0 L0 0 0 Sc S := by
  intro n
  induction n with
  | zero =>
    intro x1 x2 x3 hF
    rw [fX12_leasesOf_4] at hF
    cases hF
  | succ n ih =>
    intro x1 x2 x3 hF
    rw [fX12_leasesOf_4] at hF
    refine hJ.iload_n (pc := 4) dX12_leasesOf_4 rfl ?_
    refine hJ.aload_n (pc := 5) dX12_leasesOf_5 rfl ?_
    refine hJ.gM (pc := 6) dX12_leasesOf_6 fi_X12_130 ?_
    refine hJ.icmp_ge (pc := 9) 32 dX12_leasesOf_9 (by decide) (fun h1 => ?_) (fun h1 => ?_)
    · rw [if_pos h1] at hF
      refine hJ.iload_n (pc := 32) dX12_leasesOf_32 rfl ?_
      cases hF
      exact hR.i (pc := 33) dX12_leasesOf_33
    · rw [if_neg h1] at hF
      refine hJ.aload_n (pc := 12) dX12_leasesOf_12 rfl ?_
      refine hJ.gR (pc := 13) (k' := 71) (i' := 0) dX12_leasesOf_13 fr_X12_43 rfl ?_
      refine hJ.iload_n (pc := 16) dX12_leasesOf_16 rfl ?_
      obtain ⟨j2, h3, hF⟩ := bn_some hF
      refine hJ.lialdM (pc := 17) dX12_leasesOf_17 al_71 h3 ?_
      refine hJ.iload_n (pc := 18) dX12_leasesOf_18 rfl ?_
      refine hJ.icmp_ne (pc := 19) 26 dX12_leasesOf_19 (by decide) (fun h4 => ?_) (fun h4 => ?_)
      · rw [if_neg h4] at hF
        refine hJ.iinc (pc := 26) (x3 + 1) [some (vr 12 0), some (vi x1), some (vi x2), some (vi (x3 + 1))] dX12_leasesOf_26 (by decide) rfl (congrArg (fun z => x3 + z) ic_1) rfl ?_
        refine hJ.goto (pc := 29) 4 dX12_leasesOf_29 (by decide) ?_
        exact ih x1 x2 (x3 + 1) hF
      · rw [if_pos h4] at hF
        refine hJ.iload_n (pc := 22) dX12_leasesOf_22 rfl ?_
        refine hJ.iconst (pc := 23) 1 dX12_leasesOf_23 ic_1 ?_
        refine hJ.iadd (pc := 24) dX12_leasesOf_24 ?_
        refine hJ.istore_n (pc := 25) [some (vr 12 0), some (vi x1), some (vi (x2 + 1)), some (vi x3)] dX12_leasesOf_25 (by decide) rfl ?_
        refine hJ.iinc (pc := 26) (x3 + 1) [some (vr 12 0), some (vi x1), some (vi (x2 + 1)), some (vi (x3 + 1))] dX12_leasesOf_26 (by decide) rfl (congrArg (fun z => x3 + z) ic_1) rfl ?_
        refine hJ.goto (pc := 29) 4 dX12_leasesOf_29 (by decide) ?_
        exact ih x1 (x2 + 1) (x3 + 1) hF
set_option maxRecDepth 100000 in
set_option maxHeartbeats 4000000 in
theorem ctX12_leasesOf (p0 : Int32) (Sc S : Mem) (r : Int32) (hF : fX12_leasesOf p0 S = some r) : Ct yX12_leasesOf cX12_leasesOf 4 (some .int) 0 0 0 0 [vr 12 0, vi p0] wl0 L0 Sc S (some (vi r)) wl0 L0 Sc S := by
  refine Ct.of RX12 false (by decide) rfl (fun h => by cases h) (Nat.le_of_ble_eq_true rfl) (fun J hJ hR => ?_)
  rw [fX12_leasesOf] at hF
  show J 0 [some (vr 12 0), some (vi p0), none, none] [] wl0 L0 0 0 Sc S
  refine hJ.iconst (pc := 0) 0 dX12_leasesOf_0 ic_0 ?_
  refine hJ.istore_n (pc := 1) [some (vr 12 0), some (vi p0), some (vi 0), none] dX12_leasesOf_1 (by decide) rfl ?_
  refine hJ.iconst (pc := 2) 0 dX12_leasesOf_2 ic_0 ?_
  refine hJ.istore_n (pc := 3) [some (vr 12 0), some (vi p0), some (vi 0), some (vi 0)] dX12_leasesOf_3 (by decide) rfl ?_
  exact wX12_leasesOf_4 hJ hR 5000 p0 0 0 hF
set_option maxRecDepth 100000 in
set_option maxHeartbeats 4000000 in
theorem wX12_nextOne_4 {J : Nat → Lv → List AV → Obs → Lay → Nat → Nat → Mem → Mem → Prop} (hJ : Cl RX12 cX12_nextOne 3 1 23 0 0 none false J) {r : Int32} {Sc S : Mem} (hR : Rk cX12_nextOne (some .int) (some (vi r)) wl0 L0 0 0 Sc S J) : ∀ (n : Nat) (x1 : Int32) (x2 : Int32), fX12_nextOne_4 n x1 x2 S = some r → J 4 [some (vr 12 0), some (vi x1), some (vi x2)] [] wl0 L0 0 0 Sc S := by
  intro n
  induction n with
  | zero =>
    intro x1 x2 hF
    rw [fX12_nextOne_4] at hF
    cases hF
  | succ n ih =>
    intro x1 x2 hF
    rw [fX12_nextOne_4] at hF
    refine hJ.iload_n (pc := 4) dX12_nextOne_4 rfl ?_
    refine hJ.aload_n (pc := 5) dX12_nextOne_5 rfl ?_
    refine hJ.gM (pc := 6) dX12_nextOne_6 fi_X12_112 ?_
    refine hJ.icmp_ge (pc := 9) 66 dX12_nextOne_9 (by decide) (fun h1 => ?_) (fun h1 => ?_)
    · rw [if_pos h1] at hF
      refine hJ.iload_n (pc := 66) dX12_nextOne_66 rfl ?_
      cases hF
      exact hR.i (pc := 67) dX12_nextOne_67
    · rw [if_neg h1] at hF
      refine hJ.aload_n (pc := 12) dX12_nextOne_12 rfl ?_
      refine hJ.iload_n (pc := 13) dX12_nextOne_13 rfl ?_
      refine hJ.aload_n (pc := 14) dX12_nextOne_14 rfl ?_
      refine hJ.gM (pc := 15) dX12_nextOne_15 fi_X12_127 ?_
      obtain ⟨r3, h2, hF⟩ := bn_some hF
      refine hJ.cV (pc := 18) [vi x2, vi (S 12 0 2)] [] [vi r3] dX12_nextOne_18 lk_X12_143 (ctX12_doesLive x2 (S 12 0 2) _ _ _ h2) rfl rfl rfl rfl ?_
      refine hJ.if_eq (pc := 21) 60 dX12_nextOne_21 (by decide) (fun h4 => ?_) (fun h4 => ?_)
      · rw [if_pos h4] at hF
        refine hJ.iinc (pc := 60) (x2 + 1) [some (vr 12 0), some (vi x1), some (vi (x2 + 1))] dX12_nextOne_60 (by decide) rfl (congrArg (fun z => x2 + z) ic_1) rfl ?_
        refine hJ.goto (pc := 63) 4 dX12_nextOne_63 (by decide) ?_
        exact ih x1 (x2 + 1) hF
      · rw [if_neg h4] at hF
        refine hJ.aload_n (pc := 24) dX12_nextOne_24 rfl ?_
        refine hJ.iload_n (pc := 25) dX12_nextOne_25 rfl ?_
        obtain ⟨r6, h5, hF⟩ := bn_some hF
        refine hJ.cV (pc := 26) [vi x2] [] [vi r6] dX12_nextOne_26 lk_X12_270 (ctX12_leasesOf x2 _ _ _ h5) rfl rfl rfl rfl ?_
        refine hJ.if_ne (pc := 29) 60 dX12_nextOne_29 (by decide) (fun h7 => ?_) (fun h7 => ?_)
        · rw [if_neg h7] at hF
          refine hJ.iinc (pc := 60) (x2 + 1) [some (vr 12 0), some (vi x1), some (vi (x2 + 1))] dX12_nextOne_60 (by decide) rfl (congrArg (fun z => x2 + z) ic_1) rfl ?_
          refine hJ.goto (pc := 63) 4 dX12_nextOne_63 (by decide) ?_
          exact ih x1 (x2 + 1) hF
        · rw [if_pos h7] at hF
          refine hJ.iload_n (pc := 32) dX12_nextOne_32 rfl ?_
          refine hJ.iconst (pc := 33) (-1) dX12_nextOne_33 ic_m1 ?_
          refine hJ.icmp_eq (pc := 34) 58 dX12_nextOne_34 (by decide) (fun h8 => ?_) (fun h8 => ?_)
          · rw [if_pos h8] at hF
            refine hJ.iload_n (pc := 58) dX12_nextOne_58 rfl ?_
            refine hJ.istore_n (pc := 59) [some (vr 12 0), some (vi x2), some (vi x2)] dX12_nextOne_59 (by decide) rfl ?_
            refine hJ.iinc (pc := 60) (x2 + 1) [some (vr 12 0), some (vi x2), some (vi (x2 + 1))] dX12_nextOne_60 (by decide) rfl (congrArg (fun z => x2 + z) ic_1) rfl ?_
            refine hJ.goto (pc := 63) 4 dX12_nextOne_63 (by decide) ?_
            exact ih x2 (x2 + 1) hF
          · rw [if_neg h8] at hF
            refine hJ.aload_n (pc := 37) dX12_nextOne_37 rfl ?_
            refine hJ.iload_n (pc := 38) dX12_nextOne_38 rfl ?_
            refine hJ.aload_n (pc := 39) dX12_nextOne_39 rfl ?_
            refine hJ.gM (pc := 40) dX12_nextOne_40 fi_X12_127 ?_
            obtain ⟨r10, h9, hF⟩ := bn_some hF
            refine hJ.cV (pc := 43) [vi x2, vi (S 12 0 2)] [] [vi r10] dX12_nextOne_43 lk_X12_251 (ctX12_yearsOf x2 (S 12 0 2) _ _ _ h9) rfl rfl rfl rfl ?_
            refine hJ.aload_n (pc := 46) dX12_nextOne_46 rfl ?_
            refine hJ.iload_n (pc := 47) dX12_nextOne_47 rfl ?_
            refine hJ.aload_n (pc := 48) dX12_nextOne_48 rfl ?_
            refine hJ.gM (pc := 49) dX12_nextOne_49 fi_X12_127 ?_
            obtain ⟨r12, h11, hF⟩ := bn_some hF
            refine hJ.cV (pc := 52) [vi x1, vi (S 12 0 2)] [vi r10] [vi r12, vi r10] dX12_nextOne_52 lk_X12_251 (ctX12_yearsOf x1 (S 12 0 2) _ _ _ h11) rfl rfl rfl rfl ?_
            refine hJ.icmp_le (pc := 55) 60 dX12_nextOne_55 (by decide) (fun h13 => ?_) (fun h13 => ?_)
            · rw [if_pos h13] at hF
              refine hJ.iinc (pc := 60) (x2 + 1) [some (vr 12 0), some (vi x1), some (vi (x2 + 1))] dX12_nextOne_60 (by decide) rfl (congrArg (fun z => x2 + z) ic_1) rfl ?_
              refine hJ.goto (pc := 63) 4 dX12_nextOne_63 (by decide) ?_
              exact ih x1 (x2 + 1) hF
            · rw [if_neg h13] at hF
              refine hJ.iload_n (pc := 58) dX12_nextOne_58 rfl ?_
              refine hJ.istore_n (pc := 59) [some (vr 12 0), some (vi x2), some (vi x2)] dX12_nextOne_59 (by decide) rfl ?_
              refine hJ.iinc (pc := 60) (x2 + 1) [some (vr 12 0), some (vi x2), some (vi (x2 + 1))] dX12_nextOne_60 (by decide) rfl (congrArg (fun z => x2 + z) ic_1) rfl ?_
              refine hJ.goto (pc := 63) 4 dX12_nextOne_63 (by decide) ?_
              exact ih x2 (x2 + 1) hF
set_option maxRecDepth 100000 in
set_option maxHeartbeats 4000000 in
theorem ctX12_nextOne (Sc S : Mem) (r : Int32) (hF : fX12_nextOne S = some r) : Ct yX12_nextOne cX12_nextOne 3 (some .int) 1 23 0 0 [vr 12 0] wl0 L0 Sc S (some (vi r)) wl0 L0 Sc S := by
  refine Ct.of RX12 false (by decide) rfl (fun h => by cases h) (Nat.le_of_ble_eq_true rfl) (fun J hJ hR => ?_)
  rw [fX12_nextOne] at hF
  show J 0 [some (vr 12 0), none, none] [] wl0 L0 0 0 Sc S
  refine hJ.iconst (pc := 0) (-1) dX12_nextOne_0 ic_m1 ?_
  refine hJ.istore_n (pc := 1) [some (vr 12 0), some (vi (-1)), none] dX12_nextOne_1 (by decide) rfl ?_
  refine hJ.iconst (pc := 2) 0 dX12_nextOne_2 ic_0 ?_
  refine hJ.istore_n (pc := 3) [some (vr 12 0), some (vi (-1)), some (vi 0)] dX12_nextOne_3 (by decide) rfl ?_
  exact wX12_nextOne_4 hJ hR 5000 (-1) 0 hF
set_option maxRecDepth 100000 in
set_option maxHeartbeats 4000000 in
theorem ctX12_draw (p0 : Int32) (Sc S : Mem) (r : Int32) (S' : Mem) (hF : fX12_draw p0 S = some (r, S')) : Ct yX12_draw cX12_draw 2 (some .int) 0 0 0 0 [vr 12 0, vi p0] wl0 L0 Sc S (some (vi r)) wl0 L0 Sc S' := by
  refine Ct.of RX12 false (by decide) rfl (fun h => by cases h) (Nat.le_of_ble_eq_true rfl) (fun J hJ hR => ?_)
  rw [fX12_draw] at hF
  show J 0 [some (vr 12 0), some (vi p0)] [] wl0 L0 0 0 Sc S
  refine hJ.aload_n (pc := 0) dX12_draw_0 rfl ?_
  refine hJ.ldc (pc := 1) (v := 1664525) dX12_draw_1 kw_X12_110 ?_
  refine hJ.aload_n (pc := 3) dX12_draw_3 rfl ?_
  refine hJ.gM (pc := 4) dX12_draw_4 fi_X12_107 ?_
  refine hJ.imul (pc := 7) dX12_draw_7 ?_
  refine hJ.ldc (pc := 8) (v := 1013904223) dX12_draw_8 kw_X12_111 ?_
  refine hJ.iadd (pc := 10) dX12_draw_10 ?_
  refine hJ.pIM (pc := 11) dX12_draw_11 fp_X12_107 ?_
  refine hJ.aload_n (pc := 14) dX12_draw_14 rfl ?_
  refine hJ.gM (pc := 15) dX12_draw_15 fi_X12_107 ?_
  refine hJ.bipush (pc := 18) 8 dX12_draw_18 bc_8 ?_
  refine hJ.iushr (pc := 20) dX12_draw_20 ?_
  refine hJ.iload_n (pc := 21) dX12_draw_21 rfl ?_
  obtain ⟨h1, hF⟩ := gn_some hF
  refine hJ.irem (pc := 22) dX12_draw_22 h1 ?_
  cases hF
  exact hR.i (pc := 23) dX12_draw_23
set_option maxRecDepth 100000 in
set_option maxHeartbeats 4000000 in
theorem wX12_ends_88 {J : Nat → Lv → List AV → Obs → Lay → Nat → Nat → Mem → Mem → Prop} (hJ : Cl RX12 cX12_ends 2 2 45 0 0 none false J) {Sc S' : Mem} (hR : Rk cX12_ends none none wl0 L0 0 0 Sc S' J) : ∀ (n : Nat) (x1 : Int32) (S : Mem), fX12_ends_88 n x1 S = some (S') → J 88 [some (vr 12 0), some (vi x1)] [] wl0 L0 0 0 Sc S := by
  intro n
  induction n with
  | zero =>
    intro x1 S hF
    rw [fX12_ends_88] at hF
    cases hF
  | succ n ih =>
    intro x1 S hF
    rw [fX12_ends_88] at hF
    refine hJ.iload_n (pc := 88) dX12_ends_88 rfl ?_
    refine hJ.aload_n (pc := 89) dX12_ends_89 rfl ?_
    refine hJ.gM (pc := 90) dX12_ends_90 fi_X12_130 ?_
    refine hJ.icmp_ge (pc := 93) 139 dX12_ends_93 (by decide) (fun h2 => ?_) (fun h2 => ?_)
    · rw [if_pos h2] at hF
      cases hF
      exact hR.v (pc := 139) dX12_ends_139
    · rw [if_neg h2] at hF
      refine hJ.aload_n (pc := 96) dX12_ends_96 rfl ?_
      refine hJ.gR (pc := 97) (k' := 71) (i' := 0) dX12_ends_97 fr_X12_43 rfl ?_
      refine hJ.iload_n (pc := 100) dX12_ends_100 rfl ?_
      obtain ⟨j3, h4, hF⟩ := bn_some hF
      refine hJ.lialdM (pc := 101) dX12_ends_101 al_71 h4 ?_
      refine hJ.iconst (pc := 102) (-1) dX12_ends_102 ic_m1 ?_
      refine hJ.icmp_eq (pc := 103) 133 dX12_ends_103 (by decide) (fun h5 => ?_) (fun h5 => ?_)
      · rw [if_pos h5] at hF
        refine hJ.iinc (pc := 133) (x1 + 1) [some (vr 12 0), some (vi (x1 + 1))] dX12_ends_133 (by decide) rfl (congrArg (fun z => x1 + z) ic_1) rfl ?_
        refine hJ.goto (pc := 136) 88 dX12_ends_136 (by decide) ?_
        exact ih (x1 + 1) S hF
      · rw [if_neg h5] at hF
        refine hJ.aload_n (pc := 106) dX12_ends_106 rfl ?_
        refine hJ.aload_n (pc := 107) dX12_ends_107 rfl ?_
        refine hJ.gR (pc := 108) (k' := 71) (i' := 0) dX12_ends_108 fr_X12_43 rfl ?_
        refine hJ.iload_n (pc := 111) dX12_ends_111 rfl ?_
        refine hJ.lialdM (pc := 112) dX12_ends_112 al_71 h4 ?_
        refine hJ.aload_n (pc := 113) dX12_ends_113 rfl ?_
        refine hJ.gM (pc := 114) dX12_ends_114 fi_X12_127 ?_
        obtain ⟨r7, h6, hF⟩ := bn_some hF
        refine hJ.cV (pc := 117) [vi (S 71 0 j3), vi (S 12 0 2)] [] [vi r7] dX12_ends_117 lk_X12_143 (ctX12_doesLive (S 71 0 j3) (S 12 0 2) _ _ _ h6) rfl rfl rfl rfl ?_
        refine hJ.if_ne (pc := 120) 133 dX12_ends_120 (by decide) (fun h8 => ?_) (fun h8 => ?_)
        · rw [if_neg h8] at hF
          refine hJ.iinc (pc := 133) (x1 + 1) [some (vr 12 0), some (vi (x1 + 1))] dX12_ends_133 (by decide) rfl (congrArg (fun z => x1 + z) ic_1) rfl ?_
          refine hJ.goto (pc := 136) 88 dX12_ends_136 (by decide) ?_
          exact ih (x1 + 1) S hF
        · rw [if_pos h8] at hF
          refine hJ.aload_n (pc := 123) dX12_ends_123 rfl ?_
          refine hJ.gR (pc := 124) (k' := 71) (i' := 0) dX12_ends_124 fr_X12_43 rfl ?_
          refine hJ.iload_n (pc := 127) dX12_ends_127 rfl ?_
          refine hJ.aload_n (pc := 128) dX12_ends_128 rfl ?_
          obtain ⟨r10, h9, hF⟩ := bn_some hF
          refine hJ.cV (pc := 129) [] [vi x1, vr 71 0] [vi r10, vi x1, vr 71 0] dX12_ends_129 lk_X12_279 (ctX12_nextOne _ _ _ h9) rfl rfl rfl rfl ?_
          refine hJ.siastM (pc := 132) dX12_ends_132 al_71 h4 ?_
          refine hJ.iinc (pc := 133) (x1 + 1) [some (vr 12 0), some (vi (x1 + 1))] dX12_ends_133 (by decide) rfl (congrArg (fun z => x1 + z) ic_1) rfl ?_
          refine hJ.goto (pc := 136) 88 dX12_ends_136 (by decide) ?_
          exact ih (x1 + 1) (up S 71 0 j3 r10) hF
set_option maxRecDepth 100000 in
set_option maxHeartbeats 4000000 in
theorem wX12_ends_12 {J : Nat → Lv → List AV → Obs → Lay → Nat → Nat → Mem → Mem → Prop} (hJ : Cl RX12 cX12_ends 2 2 45 0 0 none false J) {Sc S' : Mem} (hR : Rk cX12_ends none none wl0 L0 0 0 Sc S' J) : ∀ (n : Nat) (x1 : Int32) (S : Mem), fX12_ends_12 n x1 S = some (S') → J 12 [some (vr 12 0), some (vi x1)] [] wl0 L0 0 0 Sc S := by
  intro n
  induction n with
  | zero =>
    intro x1 S hF
    rw [fX12_ends_12] at hF
    cases hF
  | succ n ih =>
    intro x1 S hF
    rw [fX12_ends_12] at hF
    refine hJ.iload_n (pc := 12) dX12_ends_12 rfl ?_
    refine hJ.aload_n (pc := 13) dX12_ends_13 rfl ?_
    refine hJ.gM (pc := 14) dX12_ends_14 fi_X12_112 ?_
    refine hJ.icmp_ge (pc := 17) 86 dX12_ends_17 (by decide) (fun h1 => ?_) (fun h1 => ?_)
    · rw [if_pos h1] at hF
      refine hJ.iconst (pc := 86) 0 dX12_ends_86 ic_0 ?_
      refine hJ.istore_n (pc := 87) [some (vr 12 0), some (vi 0)] dX12_ends_87 (by decide) rfl ?_
      exact wX12_ends_88 hJ hR 5000 0 S hF
    · rw [if_neg h1] at hF
      refine hJ.aload_n (pc := 20) dX12_ends_20 rfl ?_
      refine hJ.gR (pc := 21) (k' := 64) (i' := 0) dX12_ends_21 fr_X12_22 rfl ?_
      refine hJ.iload_n (pc := 24) dX12_ends_24 rfl ?_
      obtain ⟨j11, h12, hF⟩ := bn_some hF
      refine hJ.lialdM (pc := 25) dX12_ends_25 al_64 h12 ?_
      refine hJ.if_eq (pc := 26) 80 dX12_ends_26 (by decide) (fun h13 => ?_) (fun h13 => ?_)
      · rw [if_pos h13] at hF
        refine hJ.iinc (pc := 80) (x1 + 1) [some (vr 12 0), some (vi (x1 + 1))] dX12_ends_80 (by decide) rfl (congrArg (fun z => x1 + z) ic_1) rfl ?_
        refine hJ.goto (pc := 83) 12 dX12_ends_83 (by decide) ?_
        exact ih (x1 + 1) S hF
      · rw [if_neg h13] at hF
        refine hJ.aload_n (pc := 29) dX12_ends_29 rfl ?_
        refine hJ.iload_n (pc := 30) dX12_ends_30 rfl ?_
        refine hJ.aload_n (pc := 31) dX12_ends_31 rfl ?_
        refine hJ.gM (pc := 32) dX12_ends_32 fi_X12_127 ?_
        obtain ⟨r15, h14, hF⟩ := bn_some hF
        refine hJ.cV (pc := 35) [vi x1, vi (S 12 0 2)] [] [vi r15] dX12_ends_35 lk_X12_143 (ctX12_doesLive x1 (S 12 0 2) _ _ _ h14) rfl rfl rfl rfl ?_
        refine hJ.if_eq (pc := 38) 80 dX12_ends_38 (by decide) (fun h16 => ?_) (fun h16 => ?_)
        · rw [if_pos h16] at hF
          refine hJ.iinc (pc := 80) (x1 + 1) [some (vr 12 0), some (vi (x1 + 1))] dX12_ends_80 (by decide) rfl (congrArg (fun z => x1 + z) ic_1) rfl ?_
          refine hJ.goto (pc := 83) 12 dX12_ends_83 (by decide) ?_
          exact ih (x1 + 1) S hF
        · rw [if_neg h16] at hF
          refine hJ.aload_n (pc := 41) dX12_ends_41 rfl ?_
          refine hJ.sipush (pc := 42) 10000 dX12_ends_42 sc_10000 ?_
          obtain ⟨r19, S18, h17, hF⟩ := bd_some hF
          refine hJ.cV (pc := 45) [vi 10000] [] [vi r19] dX12_ends_45 lk_X12_273 (ctX12_draw 10000 _ _ _ _ h17) rfl rfl rfl rfl ?_
          refine hJ.aload_n (pc := 48) dX12_ends_48 rfl ?_
          refine hJ.gR (pc := 49) (k' := 64) (i' := 0) dX12_ends_49 fr_X12_22 rfl ?_
          refine hJ.iload_n (pc := 52) dX12_ends_52 rfl ?_
          refine hJ.lialdM (pc := 53) dX12_ends_53 al_64 h12 ?_
          refine hJ.icmp_lt (pc := 54) 60 dX12_ends_54 (by decide) (fun h20 => ?_) (fun h20 => ?_)
          · rw [if_pos h20] at hF
            refine hJ.aload_n (pc := 60) dX12_ends_60 rfl ?_
            refine hJ.gR (pc := 61) (k' := 61) (i' := 0) dX12_ends_61 fr_X12_13 rfl ?_
            refine hJ.iload_n (pc := 64) dX12_ends_64 rfl ?_
            refine hJ.aload_n (pc := 65) dX12_ends_65 rfl ?_
            refine hJ.gM (pc := 66) dX12_ends_66 fi_X12_127 ?_
            refine hJ.siastM (pc := 69) dX12_ends_69 al_61 h12 ?_
            refine hJ.aload_n (pc := 70) dX12_ends_70 rfl ?_
            refine hJ.aload_n (pc := 71) dX12_ends_71 rfl ?_
            refine hJ.gM (pc := 72) dX12_ends_72 fi_X12_276 ?_
            refine hJ.iconst (pc := 75) 1 dX12_ends_75 ic_1 ?_
            refine hJ.iadd (pc := 76) dX12_ends_76 ?_
            refine hJ.pIM (pc := 77) dX12_ends_77 fp_X12_276 ?_
            refine hJ.iinc (pc := 80) (x1 + 1) [some (vr 12 0), some (vi (x1 + 1))] dX12_ends_80 (by decide) rfl (congrArg (fun z => x1 + z) ic_1) rfl ?_
            refine hJ.goto (pc := 83) 12 dX12_ends_83 (by decide) ?_
            exact ih (x1 + 1) (up (up S18 61 0 j11 (S18 12 0 2)) 12 0 9 (((up S18 61 0 j11 (S18 12 0 2)) 12 0 9) + 1)) hF
          · rw [if_neg h20] at hF
            refine hJ.goto (pc := 57) 80 dX12_ends_57 (by decide) ?_
            refine hJ.iinc (pc := 80) (x1 + 1) [some (vr 12 0), some (vi (x1 + 1))] dX12_ends_80 (by decide) rfl (congrArg (fun z => x1 + z) ic_1) rfl ?_
            refine hJ.goto (pc := 83) 12 dX12_ends_83 (by decide) ?_
            exact ih (x1 + 1) S18 hF
set_option maxRecDepth 100000 in
set_option maxHeartbeats 4000000 in
theorem ctX12_ends (Sc S : Mem) (S' : Mem) (hF : fX12_ends S = some (S')) : Ct yX12_ends cX12_ends 2 none 2 45 0 0 [vr 12 0] wl0 L0 Sc S none wl0 L0 Sc S' := by
  refine Ct.of RX12 false (by decide) rfl (fun h => by cases h) (Nat.le_of_ble_eq_true rfl) (fun J hJ hR => ?_)
  rw [fX12_ends] at hF
  show J 0 [some (vr 12 0), none] [] wl0 L0 0 0 Sc S
  refine hJ.aload_n (pc := 0) dX12_ends_0 rfl ?_
  refine hJ.aload_n (pc := 1) dX12_ends_1 rfl ?_
  refine hJ.gM (pc := 2) dX12_ends_2 fi_X12_127 ?_
  refine hJ.iconst (pc := 5) 1 dX12_ends_5 ic_1 ?_
  refine hJ.iadd (pc := 6) dX12_ends_6 ?_
  refine hJ.pIM (pc := 7) dX12_ends_7 fp_X12_127 ?_
  refine hJ.iconst (pc := 10) 0 dX12_ends_10 ic_0 ?_
  refine hJ.istore_n (pc := 11) [some (vr 12 0), some (vi 0)] dX12_ends_11 (by decide) rfl ?_
  exact wX12_ends_12 hJ hR 5000 0 (up S 12 0 2 ((S 12 0 2) + 1)) hF
set_option maxRecDepth 100000 in
set_option maxHeartbeats 4000000 in
theorem wX12_days_38 {J : Nat → Lv → List AV → Obs → Lay → Nat → Nat → Mem → Mem → Prop} (hJ : Cl RX12 cX12_days 4 3 66 0 0 none false J) {r : Int32} {Sc S' : Mem} (hR : Rk cX12_days (some .int) (some (vi r)) wl0 L0 0 0 Sc S' J) : ∀ (n : Nat) (x1 : Int32) (x2 : Int32) (x3 : Int32) (S : Mem), fX12_days_38 n x1 x2 x3 S = some (r, S') → J 38 [some (vr 12 0), some (vi x1), some (vi x2), some (vi x3)] [] wl0 L0 0 0 Sc S := by
  intro n
  induction n with
  | zero =>
    intro x1 x2 x3 S hF
    rw [fX12_days_38] at hF
    cases hF
  | succ n ih =>
    intro x1 x2 x3 S hF
    rw [fX12_days_38] at hF
    refine hJ.iload_n (pc := 38) dX12_days_38 rfl ?_
    refine hJ.iload_n (pc := 39) dX12_days_39 rfl ?_
    refine hJ.icmp_ge (pc := 40) 53 dX12_days_40 (by decide) (fun h3 => ?_) (fun h3 => ?_)
    · rw [if_pos h3] at hF
      refine hJ.aload_n (pc := 53) dX12_days_53 rfl ?_
      refine hJ.iconst (pc := 54) 0 dX12_days_54 ic_0 ?_
      refine hJ.pIM (pc := 55) dX12_days_55 fp_X12_120 ?_
      refine hJ.aload_n (pc := 58) dX12_days_58 rfl ?_
      refine hJ.gM (pc := 59) dX12_days_59 fi_X12_276 ?_
      refine hJ.iload_n (pc := 62) dX12_days_62 rfl ?_
      refine hJ.isub (pc := 63) dX12_days_63 ?_
      cases hF
      exact hR.i (pc := 64) dX12_days_64
    · rw [if_neg h3] at hF
      refine hJ.aload_n (pc := 43) dX12_days_43 rfl ?_
      obtain ⟨S5, h4, hF⟩ := bn_some hF
      refine hJ.cV (pc := 44) [] [] [] dX12_days_44 lk_X12_282 (ctX12_ends _ _ _ h4) rfl rfl rfl rfl ?_
      refine hJ.iinc (pc := 47) (x3 + 1) [some (vr 12 0), some (vi x1), some (vi x2), some (vi (x3 + 1))] dX12_days_47 (by decide) rfl (congrArg (fun z => x3 + z) ic_1) rfl ?_
      refine hJ.goto (pc := 50) 38 dX12_days_50 (by decide) ?_
      exact ih x1 x2 (x3 + 1) S5 hF
set_option maxRecDepth 100000 in
set_option maxHeartbeats 4000000 in
theorem ctX12_days (p0 : Int32) (Sc S : Mem) (r : Int32) (S' : Mem) (hF : fX12_days p0 S = some (r, S')) : Ct yX12_days cX12_days 4 (some .int) 3 66 0 0 [vr 12 0, vi p0] wl0 L0 Sc S (some (vi r)) wl0 L0 Sc S' := by
  refine Ct.of RX12 false (by decide) rfl (fun h => by cases h) (Nat.le_of_ble_eq_true rfl) (fun J hJ hR => ?_)
  rw [fX12_days] at hF
  show J 0 [some (vr 12 0), some (vi p0), none, none] [] wl0 L0 0 0 Sc S
  refine hJ.aload_n (pc := 0) dX12_days_0 rfl ?_
  refine hJ.iconst (pc := 1) 0 dX12_days_1 ic_0 ?_
  refine hJ.pIM (pc := 2) dX12_days_2 fp_X12_104 ?_
  refine hJ.aload_n (pc := 5) dX12_days_5 rfl ?_
  refine hJ.iload_n (pc := 6) dX12_days_6 rfl ?_
  refine hJ.iconst (pc := 7) 1 dX12_days_7 ic_1 ?_
  refine hJ.sipush (pc := 8) 400 dX12_days_8 sc_400 ?_
  refine hJ.cV (pc := 11) [vi p0, vi 1, vi 400] [] [vi (fX12_isIn p0 1 400)] dX12_days_11 lk_X12_116 (ctX12_isIn p0 1 400 _ _ (fX12_isIn p0 1 400) rfl) rfl rfl rfl rfl ?_
  refine hJ.if_eq (pc := 14) 29 dX12_days_14 (by decide) (fun h1 => ?_) (fun h1 => ?_)
  · rw [if_pos h1] at hF
    refine hJ.iconst (pc := 29) (-1) dX12_days_29 ic_m1 ?_
    cases hF
    exact hR.i (pc := 30) dX12_days_30
  · rw [if_neg h1] at hF
    refine hJ.aload_n (pc := 17) dX12_days_17 rfl ?_
    refine hJ.gM (pc := 18) dX12_days_18 fi_X12_127 ?_
    refine hJ.iload_n (pc := 21) dX12_days_21 rfl ?_
    refine hJ.iadd (pc := 22) dX12_days_22 ?_
    refine hJ.sipush (pc := 23) 9999 dX12_days_23 sc_9999 ?_
    refine hJ.icmp_le (pc := 26) 31 dX12_days_26 (by decide) (fun h2 => ?_) (fun h2 => ?_)
    · rw [if_pos h2] at hF
      refine hJ.aload_n (pc := 31) dX12_days_31 rfl ?_
      refine hJ.gM (pc := 32) dX12_days_32 fi_X12_276 ?_
      refine hJ.istore_n (pc := 35) [some (vr 12 0), some (vi p0), some (vi ((up S 12 0 0 0) 12 0 9)), none] dX12_days_35 (by decide) rfl ?_
      refine hJ.iconst (pc := 36) 0 dX12_days_36 ic_0 ?_
      refine hJ.istore_n (pc := 37) [some (vr 12 0), some (vi p0), some (vi ((up S 12 0 0 0) 12 0 9)), some (vi 0)] dX12_days_37 (by decide) rfl ?_
      exact wX12_days_38 hJ hR 5000 p0 ((up S 12 0 0 0) 12 0 9) 0 (up S 12 0 0 0) hF
    · rw [if_neg h2] at hF
      refine hJ.iconst (pc := 29) (-1) dX12_days_29 ic_m1 ?_
      cases hF
      exact hR.i (pc := 30) dX12_days_30
set_option maxRecDepth 100000 in
set_option maxHeartbeats 4000000 in
theorem wX12_types_3 {J : Nat → Lv → List AV → Obs → Lay → Nat → Nat → Mem → Mem → Prop} (hJ : Cl RX12 cX12_types 3 0 0 0 0 none false J) {Sc S' : Mem} (hR : Rk cX12_types none none wl0 L0 0 0 Sc S' J) : ∀ (n : Nat) (x1 : Int32) (x2 : Int32) (S : Mem), fX12_types_3 n x1 x2 S = some (S') → J 3 [some (vr 12 0), some (vi x1), some (vi x2)] [] wl0 L0 0 0 Sc S := by
  intro n
  induction n with
  | zero =>
    intro x1 x2 S hF
    rw [fX12_types_3] at hF
    cases hF
  | succ n ih =>
    intro x1 x2 S hF
    rw [fX12_types_3] at hF
    refine hJ.iload_n (pc := 3) dX12_types_3 rfl ?_
    refine hJ.if_lt (pc := 4) 39 dX12_types_4 (by decide) (fun h1 => ?_) (fun h1 => ?_)
    · rw [if_pos h1] at hF
      cases hF
      exact hR.v (pc := 39) dX12_types_39
    · rw [if_neg h1] at hF
      refine hJ.aload_n (pc := 7) dX12_types_7 rfl ?_
      refine hJ.gR (pc := 8) (k' := 73) (i' := 0) dX12_types_8 fr_X12_49 rfl ?_
      refine hJ.aload_n (pc := 11) dX12_types_11 rfl ?_
      refine hJ.gM (pc := 12) dX12_types_12 fi_X12_147 ?_
      refine hJ.iload_n (pc := 15) dX12_types_15 rfl ?_
      refine hJ.iload_n (pc := 16) dX12_types_16 rfl ?_
      refine hJ.ishr (pc := 17) dX12_types_17 ?_
      refine hJ.sipush (pc := 18) 255 dX12_types_18 sc_255 ?_
      refine hJ.iand (pc := 21) dX12_types_21 ?_
      obtain ⟨j2, h3, hF⟩ := bn_some hF
      refine hJ.siastM (pc := 22) dX12_types_22 al_73 h3 ?_
      refine hJ.aload_n (pc := 23) dX12_types_23 rfl ?_
      refine hJ.aload_n (pc := 24) dX12_types_24 rfl ?_
      refine hJ.gM (pc := 25) dX12_types_25 fi_X12_147 ?_
      refine hJ.iconst (pc := 28) 1 dX12_types_28 ic_1 ?_
      refine hJ.iadd (pc := 29) dX12_types_29 ?_
      refine hJ.pIM (pc := 30) dX12_types_30 fp_X12_147 ?_
      refine hJ.iinc (pc := 33) (x2 + (-8)) [some (vr 12 0), some (vi x1), some (vi (x2 + (-8)))] dX12_types_33 (by decide) rfl (congrArg (fun z => x2 + z) ic_m8) rfl ?_
      refine hJ.goto (pc := 36) 3 dX12_types_36 (by decide) ?_
      exact ih x1 (x2 + (-8)) (up (up S 73 0 j2 ((x1 >>> (x2 &&& 31)) &&& 255)) 12 0 21 (((up S 73 0 j2 ((x1 >>> (x2 &&& 31)) &&& 255)) 12 0 21) + 1)) hF
set_option maxRecDepth 100000 in
set_option maxHeartbeats 4000000 in
theorem ctX12_types (p0 : Int32) (Sc S : Mem) (S' : Mem) (hF : fX12_types p0 S = some (S')) : Ct yX12_types cX12_types 3 none 0 0 0 0 [vr 12 0, vi p0] wl0 L0 Sc S none wl0 L0 Sc S' := by
  refine Ct.of RX12 false (by decide) rfl (fun h => by cases h) (Nat.le_of_ble_eq_true rfl) (fun J hJ hR => ?_)
  rw [fX12_types] at hF
  show J 0 [some (vr 12 0), some (vi p0), none] [] wl0 L0 0 0 Sc S
  refine hJ.bipush (pc := 0) 24 dX12_types_0 bc_24 ?_
  refine hJ.istore_n (pc := 2) [some (vr 12 0), some (vi p0), some (vi 24)] dX12_types_2 (by decide) rfl ?_
  exact wX12_types_3 hJ hR 5000 p0 24 S hF
set_option maxRecDepth 100000 in
set_option maxHeartbeats 4000000 in
theorem ctX12_feed (p0 : Int32) (p1 : Int32) (p2 : Int32) (p3 : Int32) (p4 : Int32) (Sc S : Mem) (r : Int32) (S' : Mem) (hF : fX12_feed p0 p1 p2 p3 p4 S = some (r, S')) : Ct yX12_feed cX12_feed 6 (some .int) 1 22 0 0 [vr 12 0, vi p0, vi p1, vi p2, vi p3, vi p4] wl0 L0 Sc S (some (vi r)) wl0 L0 Sc S' := by
  refine Ct.of RX12 false (by decide) rfl (fun h => by cases h) (Nat.le_of_ble_eq_true rfl) (fun J hJ hR => ?_)
  rw [fX12_feed] at hF
  show J 0 [some (vr 12 0), some (vi p0), some (vi p1), some (vi p2), some (vi p3), some (vi p4)] [] wl0 L0 0 0 Sc S
  refine hJ.aload_n (pc := 0) dX12_feed_0 rfl ?_
  refine hJ.iconst (pc := 1) 0 dX12_feed_1 ic_0 ?_
  refine hJ.pIM (pc := 2) dX12_feed_2 fp_X12_104 ?_
  refine hJ.aload_n (pc := 5) dX12_feed_5 rfl ?_
  refine hJ.gM (pc := 6) dX12_feed_6 fi_X12_147 ?_
  refine hJ.sipush (pc := 9) 380 dX12_feed_9 sc_380 ?_
  refine hJ.icmp_le (pc := 12) 17 dX12_feed_12 (by decide) (fun h1 => ?_) (fun h1 => ?_)
  · rw [if_pos h1] at hF
    refine hJ.aload_n (pc := 17) dX12_feed_17 rfl ?_
    refine hJ.iload_n (pc := 18) dX12_feed_18 rfl ?_
    obtain ⟨S3, h2, hF⟩ := bn_some hF
    refine hJ.cV (pc := 19) [vi p0] [] [] dX12_feed_19 lk_X12_150 (ctX12_types p0 _ _ _ h2) rfl rfl rfl rfl ?_
    refine hJ.aload_n (pc := 22) dX12_feed_22 rfl ?_
    refine hJ.iload_n (pc := 23) dX12_feed_23 rfl ?_
    obtain ⟨S5, h4, hF⟩ := bn_some hF
    refine hJ.cV (pc := 24) [vi p1] [] [] dX12_feed_24 lk_X12_150 (ctX12_types p1 _ _ _ h4) rfl rfl rfl rfl ?_
    refine hJ.aload_n (pc := 27) dX12_feed_27 rfl ?_
    refine hJ.iload_n (pc := 28) dX12_feed_28 rfl ?_
    obtain ⟨S7, h6, hF⟩ := bn_some hF
    refine hJ.cV (pc := 29) [vi p2] [] [] dX12_feed_29 lk_X12_150 (ctX12_types p2 _ _ _ h6) rfl rfl rfl rfl ?_
    refine hJ.aload_n (pc := 32) dX12_feed_32 rfl ?_
    refine hJ.iload (pc := 33) dX12_feed_33 rfl ?_
    obtain ⟨S9, h8, hF⟩ := bn_some hF
    refine hJ.cV (pc := 35) [vi p3] [] [] dX12_feed_35 lk_X12_150 (ctX12_types p3 _ _ _ h8) rfl rfl rfl rfl ?_
    refine hJ.aload_n (pc := 38) dX12_feed_38 rfl ?_
    refine hJ.iload (pc := 39) dX12_feed_39 rfl ?_
    obtain ⟨S11, h10, hF⟩ := bn_some hF
    refine hJ.cV (pc := 41) [vi p4] [] [] dX12_feed_41 lk_X12_150 (ctX12_types p4 _ _ _ h10) rfl rfl rfl rfl ?_
    refine hJ.aload_n (pc := 44) dX12_feed_44 rfl ?_
    refine hJ.gM (pc := 45) dX12_feed_45 fi_X12_147 ?_
    cases hF
    exact hR.i (pc := 48) dX12_feed_48
  · rw [if_neg h1] at hF
    refine hJ.iconst (pc := 15) (-1) dX12_feed_15 ic_m1 ?_
    cases hF
    exact hR.i (pc := 16) dX12_feed_16
set_option maxRecDepth 100000 in
set_option maxHeartbeats 4000000 in
theorem ctX12_end (p0 : Int32) (Sc S : Mem) (r : Int32) (S' : Mem) (hF : fX12_end p0 S = (r, S')) : Ct yX12_end cX12_end 2 (some .boolean) 1 23 0 0 [vr 12 0, vi p0] wl0 L0 Sc S (some (vi r)) wl0 L0 Sc S' := by
  refine Ct.of RX12 false (by decide) rfl (fun h => by cases h) (Nat.le_of_ble_eq_true rfl) (fun J hJ hR => ?_)
  rw [fX12_end] at hF
  show J 0 [some (vr 12 0), some (vi p0)] [] wl0 L0 0 0 Sc S
  refine hJ.aload_n (pc := 0) dX12_end_0 rfl ?_
  refine hJ.iconst (pc := 1) 0 dX12_end_1 ic_0 ?_
  refine hJ.pIM (pc := 2) dX12_end_2 fp_X12_104 ?_
  refine hJ.aload_n (pc := 5) dX12_end_5 rfl ?_
  refine hJ.iload_n (pc := 6) dX12_end_6 rfl ?_
  refine hJ.iconst (pc := 7) 0 dX12_end_7 ic_0 ?_
  refine hJ.aload_n (pc := 8) dX12_end_8 rfl ?_
  refine hJ.gM (pc := 9) dX12_end_9 fi_X12_147 ?_
  refine hJ.cV (pc := 12) [vi p0, vi 0, vi ((up S 12 0 0 0) 12 0 21)] [] [vi (fX12_isIn p0 0 ((up S 12 0 0 0) 12 0 21))] dX12_end_12 lk_X12_116 (ctX12_isIn p0 0 ((up S 12 0 0 0) 12 0 21) _ _ (fX12_isIn p0 0 ((up S 12 0 0 0) 12 0 21)) rfl) rfl rfl rfl rfl ?_
  refine hJ.if_ne (pc := 15) 20 dX12_end_15 (by decide) (fun h1 => ?_) (fun h1 => ?_)
  · rw [if_neg h1] at hF
    refine hJ.aload_n (pc := 20) dX12_end_20 rfl ?_
    refine hJ.iload_n (pc := 21) dX12_end_21 rfl ?_
    refine hJ.pIM (pc := 22) dX12_end_22 fp_X12_147 ?_
    refine hJ.iconst (pc := 25) 1 dX12_end_25 ic_1 ?_
    cases hF
    exact hR.n (pc := 26) (by decide) dX12_end_26
  · rw [if_pos h1] at hF
    refine hJ.iconst (pc := 18) 0 dX12_end_18 ic_0 ?_
    cases hF
    exact hR.n (pc := 19) (by decide) dX12_end_19
set_option maxRecDepth 100000 in
set_option maxHeartbeats 4000000 in
theorem ctX12_raw (p0 : Int32) (Sc S : Mem) (r : Int32) (hF : fX12_raw p0 S = some r) : Ct yX12_raw cX12_raw 2 (some .int) 0 0 0 0 [vr 12 0, vi p0] wl0 L0 Sc S (some (vi r)) wl0 L0 Sc S := by
  refine Ct.of RX12 false (by decide) rfl (fun h => by cases h) (Nat.le_of_ble_eq_true rfl) (fun J hJ hR => ?_)
  rw [fX12_raw] at hF
  show J 0 [some (vr 12 0), some (vi p0)] [] wl0 L0 0 0 Sc S
  refine hJ.iload_n (pc := 0) dX12_raw_0 rfl ?_
  refine hJ.aload_n (pc := 1) dX12_raw_1 rfl ?_
  refine hJ.gM (pc := 2) dX12_raw_2 fi_X12_147 ?_
  refine hJ.icmp_ge (pc := 5) 17 dX12_raw_5 (by decide) (fun h1 => ?_) (fun h1 => ?_)
  · rw [if_pos h1] at hF
    refine hJ.iconst (pc := 17) (-1) dX12_raw_17 ic_m1 ?_
    cases hF
    exact hR.i (pc := 18) dX12_raw_18
  · rw [if_neg h1] at hF
    refine hJ.aload_n (pc := 8) dX12_raw_8 rfl ?_
    refine hJ.gR (pc := 9) (k' := 73) (i' := 0) dX12_raw_9 fr_X12_49 rfl ?_
    refine hJ.iload_n (pc := 12) dX12_raw_12 rfl ?_
    obtain ⟨j2, h3, hF⟩ := bn_some hF
    refine hJ.lialdM (pc := 13) dX12_raw_13 al_73 h3 ?_
    refine hJ.goto (pc := 14) 18 dX12_raw_14 (by decide) ?_
    cases hF
    exact hR.i (pc := 18) dX12_raw_18
set_option maxRecDepth 100000 in
set_option maxHeartbeats 4000000 in
theorem ctX12_isLetter (p0 : Int32) (Sc Sm : Mem) (r : Int32) (hF : fX12_isLetter p0 = r) : Ct yX12_isLetter cX12_isLetter 2 (some .boolean) 1 23 0 0 [vr 12 0, vi p0] wl0 L0 Sc Sm (some (vi r)) wl0 L0 Sc Sm := by
  refine Ct.of RX12 false (by decide) rfl (fun h => by cases h) (Nat.le_of_ble_eq_true rfl) (fun J hJ hR => ?_)
  rw [fX12_isLetter] at hF
  show J 0 [some (vr 12 0), some (vi p0)] [] wl0 L0 0 0 Sc Sm
  refine hJ.aload_n (pc := 0) dX12_isLetter_0 rfl ?_
  refine hJ.iload_n (pc := 1) dX12_isLetter_1 rfl ?_
  refine hJ.bipush (pc := 2) 97 dX12_isLetter_2 bc_97 ?_
  refine hJ.bipush (pc := 4) 122 dX12_isLetter_4 bc_122 ?_
  refine hJ.cV (pc := 6) [vi p0, vi 97, vi 122] [] [vi (fX12_isIn p0 97 122)] dX12_isLetter_6 lk_X12_116 (ctX12_isIn p0 97 122 _ _ (fX12_isIn p0 97 122) rfl) rfl rfl rfl rfl ?_
  refine hJ.if_ne (pc := 9) 24 dX12_isLetter_9 (by decide) (fun h1 => ?_) (fun h1 => ?_)
  · rw [if_neg h1] at hF
    refine hJ.iconst (pc := 24) 1 dX12_isLetter_24 ic_1 ?_
    refine hJ.goto (pc := 25) 29 dX12_isLetter_25 (by decide) ?_
    cases hF
    exact hR.n (pc := 29) (by decide) dX12_isLetter_29
  · rw [if_pos h1] at hF
    refine hJ.aload_n (pc := 12) dX12_isLetter_12 rfl ?_
    refine hJ.iload_n (pc := 13) dX12_isLetter_13 rfl ?_
    refine hJ.bipush (pc := 14) 65 dX12_isLetter_14 bc_65 ?_
    refine hJ.bipush (pc := 16) 90 dX12_isLetter_16 bc_90 ?_
    refine hJ.cV (pc := 18) [vi p0, vi 65, vi 90] [] [vi (fX12_isIn p0 65 90)] dX12_isLetter_18 lk_X12_116 (ctX12_isIn p0 65 90 _ _ (fX12_isIn p0 65 90) rfl) rfl rfl rfl rfl ?_
    refine hJ.if_eq (pc := 21) 28 dX12_isLetter_21 (by decide) (fun h2 => ?_) (fun h2 => ?_)
    · rw [if_pos h2] at hF
      refine hJ.iconst (pc := 28) 0 dX12_isLetter_28 ic_0 ?_
      cases hF
      exact hR.n (pc := 29) (by decide) dX12_isLetter_29
    · rw [if_neg h2] at hF
      refine hJ.iconst (pc := 24) 1 dX12_isLetter_24 ic_1 ?_
      refine hJ.goto (pc := 25) 29 dX12_isLetter_25 (by decide) ?_
      cases hF
      exact hR.n (pc := 29) (by decide) dX12_isLetter_29
set_option maxRecDepth 100000 in
set_option maxHeartbeats 4000000 in
theorem ctX12_isDigit (p0 : Int32) (Sc Sm : Mem) (r : Int32) (hF : fX12_isDigit p0 = r) : Ct yX12_isDigit cX12_isDigit 2 (some .boolean) 1 23 0 0 [vr 12 0, vi p0] wl0 L0 Sc Sm (some (vi r)) wl0 L0 Sc Sm := by
  refine Ct.of RX12 false (by decide) rfl (fun h => by cases h) (Nat.le_of_ble_eq_true rfl) (fun J hJ hR => ?_)
  rw [fX12_isDigit] at hF
  show J 0 [some (vr 12 0), some (vi p0)] [] wl0 L0 0 0 Sc Sm
  refine hJ.aload_n (pc := 0) dX12_isDigit_0 rfl ?_
  refine hJ.iload_n (pc := 1) dX12_isDigit_1 rfl ?_
  refine hJ.bipush (pc := 2) 48 dX12_isDigit_2 bc_48 ?_
  refine hJ.bipush (pc := 4) 57 dX12_isDigit_4 bc_57 ?_
  refine hJ.cV (pc := 6) [vi p0, vi 48, vi 57] [] [vi (fX12_isIn p0 48 57)] dX12_isDigit_6 lk_X12_116 (ctX12_isIn p0 48 57 _ _ (fX12_isIn p0 48 57) rfl) rfl rfl rfl rfl ?_
  cases hF
  exact hR.n (pc := 9) (bool_nar (zX12_isIn _ _ _ )).1 dX12_isDigit_9
set_option maxRecDepth 100000 in
set_option maxHeartbeats 4000000 in
theorem ctX12_isMarkSign (p0 : Int32) (Sc Sm : Mem) (r : Int32) (hF : fX12_isMarkSign p0 = r) : Ct yX12_isMarkSign cX12_isMarkSign 2 (some .boolean) 0 0 0 0 [vr 12 0, vi p0] wl0 L0 Sc Sm (some (vi r)) wl0 L0 Sc Sm := by
  refine Ct.of RX12 false (by decide) rfl (fun h => by cases h) (Nat.le_of_ble_eq_true rfl) (fun J hJ hR => ?_)
  rw [fX12_isMarkSign] at hF
  show J 0 [some (vr 12 0), some (vi p0)] [] wl0 L0 0 0 Sc Sm
  refine hJ.iload_n (pc := 0) dX12_isMarkSign_0 rfl ?_
  refine hJ.bipush (pc := 1) 59 dX12_isMarkSign_1 bc_59 ?_
  refine hJ.icmp_eq (pc := 3) 60 dX12_isMarkSign_3 (by decide) (fun h1 => ?_) (fun h1 => ?_)
  · rw [if_pos h1] at hF
    refine hJ.iconst (pc := 60) 1 dX12_isMarkSign_60 ic_1 ?_
    refine hJ.goto (pc := 61) 65 dX12_isMarkSign_61 (by decide) ?_
    cases hF
    exact hR.n (pc := 65) (by decide) dX12_isMarkSign_65
  · rw [if_neg h1] at hF
    refine hJ.iload_n (pc := 6) dX12_isMarkSign_6 rfl ?_
    refine hJ.bipush (pc := 7) 43 dX12_isMarkSign_7 bc_43 ?_
    refine hJ.icmp_eq (pc := 9) 60 dX12_isMarkSign_9 (by decide) (fun h2 => ?_) (fun h2 => ?_)
    · rw [if_pos h2] at hF
      refine hJ.iconst (pc := 60) 1 dX12_isMarkSign_60 ic_1 ?_
      refine hJ.goto (pc := 61) 65 dX12_isMarkSign_61 (by decide) ?_
      cases hF
      exact hR.n (pc := 65) (by decide) dX12_isMarkSign_65
    · rw [if_neg h2] at hF
      refine hJ.iload_n (pc := 12) dX12_isMarkSign_12 rfl ?_
      refine hJ.bipush (pc := 13) 45 dX12_isMarkSign_13 bc_45 ?_
      refine hJ.icmp_eq (pc := 15) 60 dX12_isMarkSign_15 (by decide) (fun h3 => ?_) (fun h3 => ?_)
      · rw [if_pos h3] at hF
        refine hJ.iconst (pc := 60) 1 dX12_isMarkSign_60 ic_1 ?_
        refine hJ.goto (pc := 61) 65 dX12_isMarkSign_61 (by decide) ?_
        cases hF
        exact hR.n (pc := 65) (by decide) dX12_isMarkSign_65
      · rw [if_neg h3] at hF
        refine hJ.iload_n (pc := 18) dX12_isMarkSign_18 rfl ?_
        refine hJ.bipush (pc := 19) 42 dX12_isMarkSign_19 bc_42 ?_
        refine hJ.icmp_eq (pc := 21) 60 dX12_isMarkSign_21 (by decide) (fun h4 => ?_) (fun h4 => ?_)
        · rw [if_pos h4] at hF
          refine hJ.iconst (pc := 60) 1 dX12_isMarkSign_60 ic_1 ?_
          refine hJ.goto (pc := 61) 65 dX12_isMarkSign_61 (by decide) ?_
          cases hF
          exact hR.n (pc := 65) (by decide) dX12_isMarkSign_65
        · rw [if_neg h4] at hF
          refine hJ.iload_n (pc := 24) dX12_isMarkSign_24 rfl ?_
          refine hJ.bipush (pc := 25) 47 dX12_isMarkSign_25 bc_47 ?_
          refine hJ.icmp_eq (pc := 27) 60 dX12_isMarkSign_27 (by decide) (fun h5 => ?_) (fun h5 => ?_)
          · rw [if_pos h5] at hF
            refine hJ.iconst (pc := 60) 1 dX12_isMarkSign_60 ic_1 ?_
            refine hJ.goto (pc := 61) 65 dX12_isMarkSign_61 (by decide) ?_
            cases hF
            exact hR.n (pc := 65) (by decide) dX12_isMarkSign_65
          · rw [if_neg h5] at hF
            refine hJ.iload_n (pc := 30) dX12_isMarkSign_30 rfl ?_
            refine hJ.bipush (pc := 31) 40 dX12_isMarkSign_31 bc_40 ?_
            refine hJ.icmp_eq (pc := 33) 60 dX12_isMarkSign_33 (by decide) (fun h6 => ?_) (fun h6 => ?_)
            · rw [if_pos h6] at hF
              refine hJ.iconst (pc := 60) 1 dX12_isMarkSign_60 ic_1 ?_
              refine hJ.goto (pc := 61) 65 dX12_isMarkSign_61 (by decide) ?_
              cases hF
              exact hR.n (pc := 65) (by decide) dX12_isMarkSign_65
            · rw [if_neg h6] at hF
              refine hJ.iload_n (pc := 36) dX12_isMarkSign_36 rfl ?_
              refine hJ.bipush (pc := 37) 41 dX12_isMarkSign_37 bc_41 ?_
              refine hJ.icmp_eq (pc := 39) 60 dX12_isMarkSign_39 (by decide) (fun h7 => ?_) (fun h7 => ?_)
              · rw [if_pos h7] at hF
                refine hJ.iconst (pc := 60) 1 dX12_isMarkSign_60 ic_1 ?_
                refine hJ.goto (pc := 61) 65 dX12_isMarkSign_61 (by decide) ?_
                cases hF
                exact hR.n (pc := 65) (by decide) dX12_isMarkSign_65
              · rw [if_neg h7] at hF
                refine hJ.iload_n (pc := 42) dX12_isMarkSign_42 rfl ?_
                refine hJ.bipush (pc := 43) 60 dX12_isMarkSign_43 bc_60 ?_
                refine hJ.icmp_eq (pc := 45) 60 dX12_isMarkSign_45 (by decide) (fun h8 => ?_) (fun h8 => ?_)
                · rw [if_pos h8] at hF
                  refine hJ.iconst (pc := 60) 1 dX12_isMarkSign_60 ic_1 ?_
                  refine hJ.goto (pc := 61) 65 dX12_isMarkSign_61 (by decide) ?_
                  cases hF
                  exact hR.n (pc := 65) (by decide) dX12_isMarkSign_65
                · rw [if_neg h8] at hF
                  refine hJ.iload_n (pc := 48) dX12_isMarkSign_48 rfl ?_
                  refine hJ.bipush (pc := 49) 61 dX12_isMarkSign_49 bc_61 ?_
                  refine hJ.icmp_eq (pc := 51) 60 dX12_isMarkSign_51 (by decide) (fun h9 => ?_) (fun h9 => ?_)
                  · rw [if_pos h9] at hF
                    refine hJ.iconst (pc := 60) 1 dX12_isMarkSign_60 ic_1 ?_
                    refine hJ.goto (pc := 61) 65 dX12_isMarkSign_61 (by decide) ?_
                    cases hF
                    exact hR.n (pc := 65) (by decide) dX12_isMarkSign_65
                  · rw [if_neg h9] at hF
                    refine hJ.iload_n (pc := 54) dX12_isMarkSign_54 rfl ?_
                    refine hJ.bipush (pc := 55) 62 dX12_isMarkSign_55 bc_62 ?_
                    refine hJ.icmp_ne (pc := 57) 64 dX12_isMarkSign_57 (by decide) (fun h10 => ?_) (fun h10 => ?_)
                    · rw [if_neg h10] at hF
                      refine hJ.iconst (pc := 64) 0 dX12_isMarkSign_64 ic_0 ?_
                      cases hF
                      exact hR.n (pc := 65) (by decide) dX12_isMarkSign_65
                    · rw [if_pos h10] at hF
                      refine hJ.iconst (pc := 60) 1 dX12_isMarkSign_60 ic_1 ?_
                      refine hJ.goto (pc := 61) 65 dX12_isMarkSign_61 (by decide) ?_
                      cases hF
                      exact hR.n (pc := 65) (by decide) dX12_isMarkSign_65
set_option maxRecDepth 100000 in
set_option maxHeartbeats 4000000 in
theorem wX12_wordAt_19 {J : Nat → Lv → List AV → Obs → Lay → Nat → Nat → Mem → Mem → Prop} (hJ : Cl RX12 cX12_wordAt 6 0 0 0 0 none false J) {Sc : Mem} : ∀ (n : Nat) (x1 : Int32) (x2 : Int32) (x3 : Int32) (x4 : Int32) (x5 : Int32) (S : Mem) {v5 : Int32}, fX12_wordAt_19 n x1 x2 x3 x4 x5 S = some v5 → J 60 [some (vr 12 0), some (vi x1), some (vi x2), some (vi x3), some (vi x4), some (vi v5)] [] wl0 L0 0 0 Sc S → J 19 [some (vr 12 0), some (vi x1), some (vi x2), some (vi x3), some (vi x4), some (vi x5)] [] wl0 L0 0 0 Sc S := by
  intro n
  induction n with
  | zero =>
    intro x1 x2 x3 x4 x5 S v5 hF hK
    rw [fX12_wordAt_19] at hF
    cases hF
  | succ n ih =>
    intro x1 x2 x3 x4 x5 S v5 hF hK
    rw [fX12_wordAt_19] at hF
    refine hJ.iload_n (pc := 19) dX12_wordAt_19 rfl ?_
    refine hJ.iload (pc := 20) dX12_wordAt_20 rfl ?_
    refine hJ.iadd (pc := 22) dX12_wordAt_22 ?_
    refine hJ.iload_n (pc := 23) dX12_wordAt_23 rfl ?_
    refine hJ.icmp_ge (pc := 24) 60 dX12_wordAt_24 (by decide) (fun h2 => ?_) (fun h2 => ?_)
    · rw [if_pos h2] at hF
      cases hF
      exact hK
    · rw [if_neg h2] at hF
      refine hJ.aload_n (pc := 27) dX12_wordAt_27 rfl ?_
      refine hJ.gR (pc := 28) (k' := 74) (i' := 0) dX12_wordAt_28 fr_X12_52 rfl ?_
      refine hJ.iload (pc := 31) dX12_wordAt_31 rfl ?_
      refine hJ.iconst (pc := 33) 1 dX12_wordAt_33 ic_1 ?_
      refine hJ.iadd (pc := 34) dX12_wordAt_34 ?_
      refine hJ.iload (pc := 35) dX12_wordAt_35 rfl ?_
      refine hJ.iadd (pc := 37) dX12_wordAt_37 ?_
      obtain ⟨j3, h4, hF⟩ := bn_some hF
      refine hJ.lialdM (pc := 38) dX12_wordAt_38 al_74 h4 ?_
      refine hJ.aload_n (pc := 39) dX12_wordAt_39 rfl ?_
      refine hJ.gR (pc := 40) (k' := 73) (i' := 0) dX12_wordAt_40 fr_X12_49 rfl ?_
      refine hJ.iload_n (pc := 43) dX12_wordAt_43 rfl ?_
      refine hJ.iload (pc := 44) dX12_wordAt_44 rfl ?_
      refine hJ.iadd (pc := 46) dX12_wordAt_46 ?_
      obtain ⟨j5, h6, hF⟩ := bn_some hF
      refine hJ.lialdM (pc := 47) dX12_wordAt_47 al_73 h6 ?_
      refine hJ.icmp_ne (pc := 48) 60 dX12_wordAt_48 (by decide) (fun h7 => ?_) (fun h7 => ?_)
      · rw [if_neg h7] at hF
        cases hF
        exact hK
      · rw [if_pos h7] at hF
        refine hJ.iload (pc := 51) dX12_wordAt_51 rfl ?_
        refine hJ.iconst (pc := 53) 1 dX12_wordAt_53 ic_1 ?_
        refine hJ.iadd (pc := 54) dX12_wordAt_54 ?_
        refine hJ.istore (pc := 55) [some (vr 12 0), some (vi x1), some (vi x2), some (vi x3), some (vi x4), some (vi (x5 + 1))] dX12_wordAt_55 (by decide) rfl ?_
        refine hJ.goto (pc := 57) 19 dX12_wordAt_57 (by decide) ?_
        exact ih x1 x2 x3 x4 (x5 + 1) S hF hK
set_option maxRecDepth 100000 in
set_option maxHeartbeats 4000000 in
theorem wX12_wordAt_93 {J : Nat → Lv → List AV → Obs → Lay → Nat → Nat → Mem → Mem → Prop} (hJ : Cl RX12 cX12_wordAt 6 0 0 0 0 none false J) {Sc : Mem} : ∀ (n : Nat) (x1 : Int32) (x2 : Int32) (x3 : Int32) (x4 : Int32) (S : Mem) {v4 : Int32}, fX12_wordAt_93 n x1 x2 x3 x4 S = some v4 → J 114 [some (vr 12 0), some (vi x1), some (vi x2), some (vi x3), some (vi v4), none] [] wl0 L0 0 0 Sc S → J 93 [some (vr 12 0), some (vi x1), some (vi x2), some (vi x3), some (vi x4), none] [] wl0 L0 0 0 Sc S := by
  intro n
  induction n with
  | zero =>
    intro x1 x2 x3 x4 S v4 hF hK
    rw [fX12_wordAt_93] at hF
    cases hF
  | succ n ih =>
    intro x1 x2 x3 x4 S v4 hF hK
    rw [fX12_wordAt_93] at hF
    refine hJ.aload_n (pc := 93) dX12_wordAt_93 rfl ?_
    refine hJ.gR (pc := 94) (k' := 74) (i' := 0) dX12_wordAt_94 fr_X12_52 rfl ?_
    refine hJ.iload (pc := 97) dX12_wordAt_97 rfl ?_
    obtain ⟨j13, h14, hF⟩ := bn_some hF
    refine hJ.lialdM (pc := 99) dX12_wordAt_99 al_74 h14 ?_
    refine hJ.bipush (pc := 100) 32 dX12_wordAt_100 bc_32 ?_
    refine hJ.icmp_eq (pc := 102) 114 dX12_wordAt_102 (by decide) (fun h15 => ?_) (fun h15 => ?_)
    · rw [if_pos h15] at hF
      cases hF
      exact hK
    · rw [if_neg h15] at hF
      refine hJ.iload (pc := 105) dX12_wordAt_105 rfl ?_
      refine hJ.iconst (pc := 107) 1 dX12_wordAt_107 ic_1 ?_
      refine hJ.iadd (pc := 108) dX12_wordAt_108 ?_
      refine hJ.istore (pc := 109) [some (vr 12 0), some (vi x1), some (vi x2), some (vi x3), some (vi (x4 + 1)), none] dX12_wordAt_109 (by decide) rfl ?_
      refine hJ.goto (pc := 111) 93 dX12_wordAt_111 (by decide) ?_
      exact ih x1 x2 x3 (x4 + 1) S hF hK
set_option maxRecDepth 100000 in
set_option maxHeartbeats 4000000 in
theorem wX12_wordAt_5 {J : Nat → Lv → List AV → Obs → Lay → Nat → Nat → Mem → Mem → Prop} (hJ : Cl RX12 cX12_wordAt 6 0 0 0 0 none false J) {r : Int32} {Sc S : Mem} (hR : Rk cX12_wordAt (some .int) (some (vi r)) wl0 L0 0 0 Sc S J) : ∀ (n : Nat) (x1 : Int32) (x2 : Int32) (x3 : Int32) (x4 : Int32), fX12_wordAt_5 n x1 x2 x3 x4 S = some r → J 5 [some (vr 12 0), some (vi x1), some (vi x2), some (vi x3), some (vi x4), none] [] wl0 L0 0 0 Sc S := by
  intro n
  induction n with
  | zero =>
    intro x1 x2 x3 x4 hF
    rw [fX12_wordAt_5] at hF
    cases hF
  | succ n ih =>
    intro x1 x2 x3 x4 hF
    rw [fX12_wordAt_5] at hF
    refine hJ.iload (pc := 5) dX12_wordAt_5 rfl ?_
    refine hJ.bipush (pc := 7) 66 dX12_wordAt_7 bc_66 ?_
    refine hJ.icmp_ge (pc := 9) 117 dX12_wordAt_9 (by decide) (fun h1 => ?_) (fun h1 => ?_)
    · rw [if_pos h1] at hF
      refine hJ.iconst (pc := 117) (-1) dX12_wordAt_117 ic_m1 ?_
      cases hF
      exact hR.i (pc := 118) dX12_wordAt_118
    · rw [if_neg h1] at hF
      refine hJ.iconst (pc := 12) 0 dX12_wordAt_12 ic_0 ?_
      refine hJ.istore (pc := 13) [some (vr 12 0), some (vi x1), some (vi x2), some (vi x3), some (vi x4), some (vi 0)] dX12_wordAt_13 (by decide) rfl ?_
      refine hJ.iload_n (pc := 15) dX12_wordAt_15 rfl ?_
      refine hJ.iconst (pc := 16) 1 dX12_wordAt_16 ic_1 ?_
      refine hJ.iadd (pc := 17) dX12_wordAt_17 ?_
      refine hJ.istore_n (pc := 18) [some (vr 12 0), some (vi x1), some (vi x2), some (vi (x3 + 1)), some (vi x4), some (vi 0)] dX12_wordAt_18 (by decide) rfl ?_
      obtain ⟨v8, h20, hF⟩ := bn_some hF
      refine wX12_wordAt_19 hJ 5000 x1 x2 (x3 + 1) x4 0 S h20 ?_
      refine hJ.iload_n (pc := 60) dX12_wordAt_60 rfl ?_
      refine hJ.iload (pc := 61) dX12_wordAt_61 rfl ?_
      refine hJ.iadd (pc := 63) dX12_wordAt_63 ?_
      refine hJ.iload_n (pc := 64) dX12_wordAt_64 rfl ?_
      refine hJ.icmp_ne (pc := 65) 87 dX12_wordAt_65 (by decide) (fun h9 => ?_) (fun h9 => ?_)
      · rw [if_neg h9] at hF
        refine hJ.iload (pc := 87) dX12_wordAt_87 rfl ?_
        refine hJ.iconst (pc := 89) 1 dX12_wordAt_89 ic_1 ?_
        refine hJ.iadd (pc := 90) dX12_wordAt_90 ?_
        refine hJ.istore (pc := 91) [some (vr 12 0), some (vi x1), some (vi x2), some (vi (x3 + 1)), some (vi (x4 + 1)), some (vi v8)] dX12_wordAt_91 (by decide) rfl ?_
        obtain ⟨v18, h19, hF⟩ := bn_some hF
        refine hJ.weak [some (vr 12 0), some (vi x1), some (vi x2), some (vi (x3 + 1)), some (vi (x4 + 1)), none] ⟨rfl, rfl, rfl, rfl, rfl, trivial⟩ ?_
        refine wX12_wordAt_93 hJ 5000 x1 x2 (x3 + 1) (x4 + 1) S h19 ?_
        refine hJ.goto (pc := 114) 5 dX12_wordAt_114 (by decide) ?_
        exact ih x1 x2 (x3 + 1) v18 hF
      · rw [if_pos h9] at hF
        refine hJ.aload_n (pc := 68) dX12_wordAt_68 rfl ?_
        refine hJ.gR (pc := 69) (k' := 74) (i' := 0) dX12_wordAt_69 fr_X12_52 rfl ?_
        refine hJ.iload (pc := 72) dX12_wordAt_72 rfl ?_
        refine hJ.iconst (pc := 74) 1 dX12_wordAt_74 ic_1 ?_
        refine hJ.iadd (pc := 75) dX12_wordAt_75 ?_
        refine hJ.iload (pc := 76) dX12_wordAt_76 rfl ?_
        refine hJ.iadd (pc := 78) dX12_wordAt_78 ?_
        obtain ⟨j10, h11, hF⟩ := bn_some hF
        refine hJ.lialdM (pc := 79) dX12_wordAt_79 al_74 h11 ?_
        refine hJ.bipush (pc := 80) 32 dX12_wordAt_80 bc_32 ?_
        refine hJ.icmp_ne (pc := 82) 87 dX12_wordAt_82 (by decide) (fun h12 => ?_) (fun h12 => ?_)
        · rw [if_neg h12] at hF
          refine hJ.iload (pc := 87) dX12_wordAt_87 rfl ?_
          refine hJ.iconst (pc := 89) 1 dX12_wordAt_89 ic_1 ?_
          refine hJ.iadd (pc := 90) dX12_wordAt_90 ?_
          refine hJ.istore (pc := 91) [some (vr 12 0), some (vi x1), some (vi x2), some (vi (x3 + 1)), some (vi (x4 + 1)), some (vi v8)] dX12_wordAt_91 (by decide) rfl ?_
          obtain ⟨v16, h17, hF⟩ := bn_some hF
          refine hJ.weak [some (vr 12 0), some (vi x1), some (vi x2), some (vi (x3 + 1)), some (vi (x4 + 1)), none] ⟨rfl, rfl, rfl, rfl, rfl, trivial⟩ ?_
          refine wX12_wordAt_93 hJ 5000 x1 x2 (x3 + 1) (x4 + 1) S h17 ?_
          refine hJ.goto (pc := 114) 5 dX12_wordAt_114 (by decide) ?_
          exact ih x1 x2 (x3 + 1) v16 hF
        · rw [if_pos h12] at hF
          refine hJ.iload_n (pc := 85) dX12_wordAt_85 rfl ?_
          cases hF
          exact hR.i (pc := 86) dX12_wordAt_86
set_option maxRecDepth 100000 in
set_option maxHeartbeats 4000000 in
theorem ctX12_wordAt (p0 : Int32) (p1 : Int32) (Sc S : Mem) (r : Int32) (hF : fX12_wordAt p0 p1 S = some r) : Ct yX12_wordAt cX12_wordAt 6 (some .int) 0 0 0 0 [vr 12 0, vi p0, vi p1] wl0 L0 Sc S (some (vi r)) wl0 L0 Sc S := by
  refine Ct.of RX12 false (by decide) rfl (fun h => by cases h) (Nat.le_of_ble_eq_true rfl) (fun J hJ hR => ?_)
  rw [fX12_wordAt] at hF
  show J 0 [some (vr 12 0), some (vi p0), some (vi p1), none, none, none] [] wl0 L0 0 0 Sc S
  refine hJ.iconst (pc := 0) (-1) dX12_wordAt_0 ic_m1 ?_
  refine hJ.istore_n (pc := 1) [some (vr 12 0), some (vi p0), some (vi p1), some (vi (-1)), none, none] dX12_wordAt_1 (by decide) rfl ?_
  refine hJ.iconst (pc := 2) 0 dX12_wordAt_2 ic_0 ?_
  refine hJ.istore (pc := 3) [some (vr 12 0), some (vi p0), some (vi p1), some (vi (-1)), some (vi 0), none] dX12_wordAt_3 (by decide) rfl ?_
  exact wX12_wordAt_5 hJ hR 5000 p0 p1 (-1) 0 hF
