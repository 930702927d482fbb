set_option maxRecDepth 100000 in
set_option maxHeartbeats 4000000 in
theorem wX9_takeWord_53 {J : Nat → Lv → List AV → Obs → Lay → Nat → Nat → Mem → Mem → Prop} (hJ : Cl RX9 cX9_takeWord 7 4 85 0 0 none false J) {Sm S' : Mem} (hR : Rk cX9_takeWord none none wl0 L0 0 0 S' Sm J) : ∀ (n : Nat) (x2 : Int32) (x3 : Int32) (x4 : Int32) (x5 : Int32) (S : Mem), fX9_takeWord_53 n x2 x3 x4 x5 S = some (S') → J 53 [some (vr 9 0), some (vr 7 0), some (vi x2), some (vi x3), some (vi x4), some (vi x5), none] [] wl0 L0 0 0 S Sm := by
  intro n
  induction n with
  | zero =>
    intro x2 x3 x4 x5 S hF
    rw [fX9_takeWord_53] at hF
    cases hF
  | succ n ih =>
    intro x2 x3 x4 x5 S hF
    rw [fX9_takeWord_53] at hF
    refine hJ.iload (pc := 53) dX9_takeWord_53 rfl ?_
    refine hJ.ldcS (pc := 55) (i := 0) (by decide) dX9_takeWord_55 ?_
    refine hJ.cT (pc := 57) [] [vi x5] [vi (fJ0_length_8abf5 0), vi x5] (by decide) dX9_takeWord_57 lk_X9_56 (ctJ0_length_8abf5 0 (by decide) _ _ (fJ0_length_8abf5 0) rfl) rfl rfl rfl rfl ?_
    refine hJ.icmp_ge (pc := 60) 173 dX9_takeWord_60 (by decide) (fun h2 => ?_) (fun h2 => ?_)
    · rw [if_pos h2] at hF
      cases hF
      exact hR.v (pc := 173) dX9_takeWord_173
    · rw [if_neg h2] at hF
      refine hJ.aload_n (pc := 63) dX9_takeWord_63 rfl ?_
      refine hJ.gI (pc := 64) dX9_takeWord_64 fi_X9_18 ?_
      refine hJ.iconst (pc := 67) 1 dX9_takeWord_67 ic_1 ?_
      refine hJ.icmp_ne (pc := 68) 173 dX9_takeWord_68 (by decide) (fun h3 => ?_) (fun h3 => ?_)
      · rw [if_neg h3] at hF
        cases hF
        exact hR.v (pc := 173) dX9_takeWord_173
      · rw [if_pos h3] at hF
        refine hJ.ldcS (pc := 71) (i := 0) (by decide) dX9_takeWord_71 ?_
        refine hJ.iload (pc := 73) dX9_takeWord_73 rfl ?_
        obtain ⟨r5, h4, hF⟩ := bn_some hF
        refine hJ.cT (pc := 75) [vi x5] [] [vi r5] (by decide) dX9_takeWord_75 lk_X9_62 (ctJ0_charAt_5068e 0 x5 (by decide) _ _ _ h4) rfl rfl rfl rfl ?_
        refine hJ.istore (pc := 78) [some (vr 9 0), some (vr 7 0), some (vi x2), some (vi x3), some (vi x4), some (vi x5), some (vi r5)] dX9_takeWord_78 (by decide) rfl ?_
        refine hJ.iload (pc := 80) dX9_takeWord_80 rfl ?_
        refine hJ.bipush (pc := 82) 32 dX9_takeWord_82 bc_32 ?_
        refine hJ.icmp_eq (pc := 84) 133 dX9_takeWord_84 (by decide) (fun h6 => ?_) (fun h6 => ?_)
        · rw [if_pos h6] at hF
          refine hJ.iload (pc := 133) dX9_takeWord_133 rfl ?_
          refine hJ.if_eq (pc := 135) 159 dX9_takeWord_135 (by decide) (fun h7 => ?_) (fun h7 => ?_)
          · rw [if_pos h7] at hF
            refine hJ.iinc (pc := 159) (x2 + 1) [some (vr 9 0), some (vr 7 0), some (vi (x2 + 1)), some (vi x3), some (vi x4), some (vi x5), some (vi r5)] dX9_takeWord_159 (by decide) rfl (congrArg (fun z => x2 + z) ic_1) rfl ?_
            refine hJ.iconst (pc := 162) 0 dX9_takeWord_162 ic_0 ?_
            refine hJ.istore_n (pc := 163) [some (vr 9 0), some (vr 7 0), some (vi (x2 + 1)), some (vi 0), some (vi x4), some (vi x5), some (vi r5)] dX9_takeWord_163 (by decide) rfl ?_
            refine hJ.iconst (pc := 164) 1 dX9_takeWord_164 ic_1 ?_
            refine hJ.istore (pc := 165) [some (vr 9 0), some (vr 7 0), some (vi (x2 + 1)), some (vi 0), some (vi 1), some (vi x5), some (vi r5)] dX9_takeWord_165 (by decide) rfl ?_
            refine hJ.iinc (pc := 167) (x5 + 1) [some (vr 9 0), some (vr 7 0), some (vi (x2 + 1)), some (vi 0), some (vi 1), some (vi (x5 + 1)), some (vi r5)] dX9_takeWord_167 (by decide) rfl (congrArg (fun z => x5 + z) ic_1) rfl ?_
            refine hJ.goto (pc := 170) 53 dX9_takeWord_170 (by decide) ?_
            refine hJ.weak [some (vr 9 0), some (vr 7 0), some (vi (x2 + 1)), some (vi 0), some (vi 1), some (vi (x5 + 1)), none] ⟨rfl, rfl, rfl, rfl, rfl, rfl, trivial⟩ ?_
            exact ih (x2 + 1) 0 1 (x5 + 1) S hF
          · rw [if_neg h7] at hF
            refine hJ.aload_n (pc := 138) dX9_takeWord_138 rfl ?_
            refine hJ.gI (pc := 139) dX9_takeWord_139 fi_X9_11 ?_
            refine hJ.iload_n (pc := 142) dX9_takeWord_142 rfl ?_
            refine hJ.iadd (pc := 143) dX9_takeWord_143 ?_
            refine hJ.aload_n (pc := 144) dX9_takeWord_144 rfl ?_
            refine hJ.gI (pc := 145) dX9_takeWord_145 fi_X9_15 ?_
            refine hJ.icmp_ne (pc := 148) 159 dX9_takeWord_148 (by decide) (fun h8 => ?_) (fun h8 => ?_)
            · rw [if_neg h8] at hF
              refine hJ.iinc (pc := 159) (x2 + 1) [some (vr 9 0), some (vr 7 0), some (vi (x2 + 1)), some (vi x3), some (vi x4), some (vi x5), some (vi r5)] dX9_takeWord_159 (by decide) rfl (congrArg (fun z => x2 + z) ic_1) rfl ?_
              refine hJ.iconst (pc := 162) 0 dX9_takeWord_162 ic_0 ?_
              refine hJ.istore_n (pc := 163) [some (vr 9 0), some (vr 7 0), some (vi (x2 + 1)), some (vi 0), some (vi x4), some (vi x5), some (vi r5)] dX9_takeWord_163 (by decide) rfl ?_
              refine hJ.iconst (pc := 164) 1 dX9_takeWord_164 ic_1 ?_
              refine hJ.istore (pc := 165) [some (vr 9 0), some (vr 7 0), some (vi (x2 + 1)), some (vi 0), some (vi 1), some (vi x5), some (vi r5)] dX9_takeWord_165 (by decide) rfl ?_
              refine hJ.iinc (pc := 167) (x5 + 1) [some (vr 9 0), some (vr 7 0), some (vi (x2 + 1)), some (vi 0), some (vi 1), some (vi (x5 + 1)), some (vi r5)] dX9_takeWord_167 (by decide) rfl (congrArg (fun z => x5 + z) ic_1) rfl ?_
              refine hJ.goto (pc := 170) 53 dX9_takeWord_170 (by decide) ?_
              refine hJ.weak [some (vr 9 0), some (vr 7 0), some (vi (x2 + 1)), some (vi 0), some (vi 1), some (vi (x5 + 1)), none] ⟨rfl, rfl, rfl, rfl, rfl, rfl, trivial⟩ ?_
              exact ih (x2 + 1) 0 1 (x5 + 1) S hF
            · rw [if_pos h8] at hF
              refine hJ.aload_n (pc := 151) dX9_takeWord_151 rfl ?_
              refine hJ.iload_n (pc := 152) dX9_takeWord_152 rfl ?_
              refine hJ.pI (pc := 153) dX9_takeWord_153 fp_X9_18 ?_
              refine hJ.goto (pc := 156) 167 dX9_takeWord_156 (by decide) ?_
              refine hJ.iinc (pc := 167) (x5 + 1) [some (vr 9 0), some (vr 7 0), some (vi x2), some (vi x3), some (vi x4), some (vi (x5 + 1)), some (vi r5)] dX9_takeWord_167 (by decide) rfl (congrArg (fun z => x5 + z) ic_1) rfl ?_
              refine hJ.goto (pc := 170) 53 dX9_takeWord_170 (by decide) ?_
              refine hJ.weak [some (vr 9 0), some (vr 7 0), some (vi x2), some (vi x3), some (vi x4), some (vi (x5 + 1)), none] ⟨rfl, rfl, rfl, rfl, rfl, rfl, trivial⟩ ?_
              exact ih x2 x3 x4 (x5 + 1) (up S 9 0 2 x2) hF
        · rw [if_neg h6] at hF
          refine hJ.iload (pc := 87) dX9_takeWord_87 rfl ?_
          refine hJ.if_eq (pc := 89) 124 dX9_takeWord_89 (by decide) (fun h9 => ?_) (fun h9 => ?_)
          · rw [if_pos h9] at hF
            refine hJ.iconst (pc := 124) 0 dX9_takeWord_124 ic_0 ?_
            refine hJ.istore (pc := 125) [some (vr 9 0), some (vr 7 0), some (vi x2), some (vi x3), some (vi 0), some (vi x5), some (vi r5)] dX9_takeWord_125 (by decide) rfl ?_
            refine hJ.iinc (pc := 127) (x3 + 1) [some (vr 9 0), some (vr 7 0), some (vi x2), some (vi (x3 + 1)), some (vi 0), some (vi x5), some (vi r5)] dX9_takeWord_127 (by decide) rfl (congrArg (fun z => x3 + z) ic_1) rfl ?_
            refine hJ.goto (pc := 130) 167 dX9_takeWord_130 (by decide) ?_
            refine hJ.iinc (pc := 167) (x5 + 1) [some (vr 9 0), some (vr 7 0), some (vi x2), some (vi (x3 + 1)), some (vi 0), some (vi (x5 + 1)), some (vi r5)] dX9_takeWord_167 (by decide) rfl (congrArg (fun z => x5 + z) ic_1) rfl ?_
            refine hJ.goto (pc := 170) 53 dX9_takeWord_170 (by decide) ?_
            refine hJ.weak [some (vr 9 0), some (vr 7 0), some (vi x2), some (vi (x3 + 1)), some (vi 0), some (vi (x5 + 1)), none] ⟨rfl, rfl, rfl, rfl, rfl, rfl, trivial⟩ ?_
            exact ih x2 (x3 + 1) 0 (x5 + 1) S hF
          · rw [if_neg h9] at hF
            refine hJ.aload_n (pc := 92) dX9_takeWord_92 rfl ?_
            refine hJ.gI (pc := 93) dX9_takeWord_93 fi_X9_11 ?_
            refine hJ.iload_n (pc := 96) dX9_takeWord_96 rfl ?_
            refine hJ.iadd (pc := 97) dX9_takeWord_97 ?_
            refine hJ.aload_n (pc := 98) dX9_takeWord_98 rfl ?_
            refine hJ.gI (pc := 99) dX9_takeWord_99 fi_X9_15 ?_
            refine hJ.icmp_ge (pc := 102) 124 dX9_takeWord_102 (by decide) (fun h10 => ?_) (fun h10 => ?_)
            · rw [if_pos h10] at hF
              refine hJ.iconst (pc := 124) 0 dX9_takeWord_124 ic_0 ?_
              refine hJ.istore (pc := 125) [some (vr 9 0), some (vr 7 0), some (vi x2), some (vi x3), some (vi 0), some (vi x5), some (vi r5)] dX9_takeWord_125 (by decide) rfl ?_
              refine hJ.iinc (pc := 127) (x3 + 1) [some (vr 9 0), some (vr 7 0), some (vi x2), some (vi (x3 + 1)), some (vi 0), some (vi x5), some (vi r5)] dX9_takeWord_127 (by decide) rfl (congrArg (fun z => x3 + z) ic_1) rfl ?_
              refine hJ.goto (pc := 130) 167 dX9_takeWord_130 (by decide) ?_
              refine hJ.iinc (pc := 167) (x5 + 1) [some (vr 9 0), some (vr 7 0), some (vi x2), some (vi (x3 + 1)), some (vi 0), some (vi (x5 + 1)), some (vi r5)] dX9_takeWord_167 (by decide) rfl (congrArg (fun z => x5 + z) ic_1) rfl ?_
              refine hJ.goto (pc := 170) 53 dX9_takeWord_170 (by decide) ?_
              refine hJ.weak [some (vr 9 0), some (vr 7 0), some (vi x2), some (vi (x3 + 1)), some (vi 0), some (vi (x5 + 1)), none] ⟨rfl, rfl, rfl, rfl, rfl, rfl, trivial⟩ ?_
              exact ih x2 (x3 + 1) 0 (x5 + 1) S hF
            · rw [if_neg h10] at hF
              refine hJ.aload_n (pc := 105) dX9_takeWord_105 rfl ?_
              refine hJ.aload_n (pc := 106) dX9_takeWord_106 rfl ?_
              refine hJ.gI (pc := 107) dX9_takeWord_107 fi_X9_11 ?_
              refine hJ.iload_n (pc := 110) dX9_takeWord_110 rfl ?_
              refine hJ.iadd (pc := 111) dX9_takeWord_111 ?_
              obtain ⟨r12, h11, hF⟩ := bn_some hF
              refine hJ.cV (pc := 112) [vi ((S 9 0 0) + x3)] [] [vi r12] dX9_takeWord_112 lk_X9_29 (ctX7_signAt ((S 9 0 0) + x3) _ _ _ h11) rfl rfl rfl rfl ?_
              refine hJ.iload (pc := 115) dX9_takeWord_115 rfl ?_
              refine hJ.icmp_ne (pc := 117) 124 dX9_takeWord_117 (by decide) (fun h13 => ?_) (fun h13 => ?_)
              · rw [if_neg h13] at hF
                refine hJ.iconst (pc := 124) 0 dX9_takeWord_124 ic_0 ?_
                refine hJ.istore (pc := 125) [some (vr 9 0), some (vr 7 0), some (vi x2), some (vi x3), some (vi 0), some (vi x5), some (vi r5)] dX9_takeWord_125 (by decide) rfl ?_
                refine hJ.iinc (pc := 127) (x3 + 1) [some (vr 9 0), some (vr 7 0), some (vi x2), some (vi (x3 + 1)), some (vi 0), some (vi x5), some (vi r5)] dX9_takeWord_127 (by decide) rfl (congrArg (fun z => x3 + z) ic_1) rfl ?_
                refine hJ.goto (pc := 130) 167 dX9_takeWord_130 (by decide) ?_
                refine hJ.iinc (pc := 167) (x5 + 1) [some (vr 9 0), some (vr 7 0), some (vi x2), some (vi (x3 + 1)), some (vi 0), some (vi (x5 + 1)), some (vi r5)] dX9_takeWord_167 (by decide) rfl (congrArg (fun z => x5 + z) ic_1) rfl ?_
                refine hJ.goto (pc := 170) 53 dX9_takeWord_170 (by decide) ?_
                refine hJ.weak [some (vr 9 0), some (vr 7 0), some (vi x2), some (vi (x3 + 1)), some (vi 0), some (vi (x5 + 1)), none] ⟨rfl, rfl, rfl, rfl, rfl, rfl, trivial⟩ ?_
                exact ih x2 (x3 + 1) 0 (x5 + 1) S hF
              · rw [if_pos h13] at hF
                refine hJ.iconst (pc := 120) 1 dX9_takeWord_120 ic_1 ?_
                refine hJ.goto (pc := 121) 125 dX9_takeWord_121 (by decide) ?_
                refine hJ.istore (pc := 125) [some (vr 9 0), some (vr 7 0), some (vi x2), some (vi x3), some (vi 1), some (vi x5), some (vi r5)] dX9_takeWord_125 (by decide) rfl ?_
                refine hJ.iinc (pc := 127) (x3 + 1) [some (vr 9 0), some (vr 7 0), some (vi x2), some (vi (x3 + 1)), some (vi 1), some (vi x5), some (vi r5)] dX9_takeWord_127 (by decide) rfl (congrArg (fun z => x3 + z) ic_1) rfl ?_
                refine hJ.goto (pc := 130) 167 dX9_takeWord_130 (by decide) ?_
                refine hJ.iinc (pc := 167) (x5 + 1) [some (vr 9 0), some (vr 7 0), some (vi x2), some (vi (x3 + 1)), some (vi 1), some (vi (x5 + 1)), some (vi r5)] dX9_takeWord_167 (by decide) rfl (congrArg (fun z => x5 + z) ic_1) rfl ?_
                refine hJ.goto (pc := 170) 53 dX9_takeWord_170 (by decide) ?_
                refine hJ.weak [some (vr 9 0), some (vr 7 0), some (vi x2), some (vi (x3 + 1)), some (vi 1), some (vi (x5 + 1)), none] ⟨rfl, rfl, rfl, rfl, rfl, rfl, trivial⟩ ?_
                exact ih x2 (x3 + 1) 1 (x5 + 1) S hF
set_option maxRecDepth 100000 in
set_option maxHeartbeats 4000000 in
theorem wX9_takeWord_38 {J : Nat → Lv → List AV → Obs → Lay → Nat → Nat → Mem → Mem → Prop} (hJ : Cl RX9 cX9_takeWord 7 4 85 0 0 none false J) {Sm S' : Mem} (hR : Rk cX9_takeWord none none wl0 L0 0 0 S' Sm J) (S : Mem) (hF : fX9_takeWord_38 S = some (S')) : J 38 [some (vr 9 0), some (vr 7 0), none, none, none, none, none] [] wl0 L0 0 0 S Sm := by
  rw [fX9_takeWord_38] at hF
  refine hJ.aload_n (pc := 38) dX9_takeWord_38 rfl ?_
  refine hJ.iconst (pc := 39) 1 dX9_takeWord_39 ic_1 ?_
  refine hJ.pI (pc := 40) dX9_takeWord_40 fp_X9_18 ?_
  refine hJ.iconst (pc := 43) 3 dX9_takeWord_43 ic_3 ?_
  refine hJ.istore_n (pc := 44) [some (vr 9 0), some (vr 7 0), some (vi 3), none, none, none, none] dX9_takeWord_44 (by decide) rfl ?_
  refine hJ.iconst (pc := 45) 0 dX9_takeWord_45 ic_0 ?_
  refine hJ.istore_n (pc := 46) [some (vr 9 0), some (vr 7 0), some (vi 3), some (vi 0), none, none, none] dX9_takeWord_46 (by decide) rfl ?_
  refine hJ.iconst (pc := 47) 1 dX9_takeWord_47 ic_1 ?_
  refine hJ.istore (pc := 48) [some (vr 9 0), some (vr 7 0), some (vi 3), some (vi 0), some (vi 1), none, none] dX9_takeWord_48 (by decide) rfl ?_
  refine hJ.iconst (pc := 50) 0 dX9_takeWord_50 ic_0 ?_
  refine hJ.istore (pc := 51) [some (vr 9 0), some (vr 7 0), some (vi 3), some (vi 0), some (vi 1), some (vi 0), none] dX9_takeWord_51 (by decide) rfl ?_
  exact wX9_takeWord_53 hJ hR 5000 3 0 1 0 (up S 9 0 2 1) hF
set_option maxRecDepth 100000 in
set_option maxHeartbeats 4000000 in
theorem wX9_takeWord_0 {J : Nat → Lv → List AV → Obs → Lay → Nat → Nat → Mem → Mem → Prop} (hJ : Cl RX9 cX9_takeWord 7 4 85 0 0 none false J) {Sm S' : Mem} (hR : Rk cX9_takeWord none none wl0 L0 0 0 S' Sm J) : ∀ (n : Nat) (S : Mem), fX9_takeWord_0 n S = some (S') → J 0 [some (vr 9 0), some (vr 7 0), none, none, none, none, none] [] wl0 L0 0 0 S Sm := by
  intro n
  induction n with
  | zero =>
    intro  S hF
    rw [fX9_takeWord_0] at hF
    cases hF
  | succ n ih =>
    intro  S hF
    rw [fX9_takeWord_0] at hF
    refine hJ.aload_n (pc := 0) dX9_takeWord_0 rfl ?_
    refine hJ.gI (pc := 1) dX9_takeWord_1 fi_X9_15 ?_
    refine hJ.aload_n (pc := 4) dX9_takeWord_4 rfl ?_
    refine hJ.gI (pc := 5) dX9_takeWord_5 fi_X9_24 ?_
    refine hJ.icmp_ge (pc := 8) 38 dX9_takeWord_8 (by decide) (fun h1 => ?_) (fun h1 => ?_)
    · rw [if_pos h1] at hF
      exact wX9_takeWord_38 hJ hR S hF
    · rw [if_neg h1] at hF
      refine hJ.aload_n (pc := 11) dX9_takeWord_11 rfl ?_
      refine hJ.aload_n (pc := 12) dX9_takeWord_12 rfl ?_
      refine hJ.gI (pc := 13) dX9_takeWord_13 fi_X9_15 ?_
      obtain ⟨r15, h14, hF⟩ := bn_some hF
      refine hJ.cV (pc := 16) [vi (S 9 0 1)] [] [vi r15] dX9_takeWord_16 lk_X9_29 (ctX7_signAt (S 9 0 1) _ _ _ h14) rfl rfl rfl rfl ?_
      refine hJ.cS (pc := 19) [vi r15] [] [vi (fX9_isLetter r15)] dX9_takeWord_19 lk_X9_37 (ctX9_isLetter r15 _ _ (fX9_isLetter r15) rfl) rfl rfl rfl rfl ?_
      refine hJ.if_eq (pc := 22) 38 dX9_takeWord_22 (by decide) (fun h16 => ?_) (fun h16 => ?_)
      · rw [if_pos h16] at hF
        exact wX9_takeWord_38 hJ hR S hF
      · rw [if_neg h16] at hF
        refine hJ.aload_n (pc := 25) dX9_takeWord_25 rfl ?_
        refine hJ.dup (pc := 26) dX9_takeWord_26 ?_
        refine hJ.gI (pc := 27) dX9_takeWord_27 fi_X9_15 ?_
        refine hJ.iconst (pc := 30) 1 dX9_takeWord_30 ic_1 ?_
        refine hJ.iadd (pc := 31) dX9_takeWord_31 ?_
        refine hJ.pI (pc := 32) dX9_takeWord_32 fp_X9_15 ?_
        refine hJ.goto (pc := 35) 0 dX9_takeWord_35 (by decide) ?_
        exact ih (up S 9 0 1 ((S 9 0 1) + 1)) hF
set_option maxRecDepth 100000 in
set_option maxHeartbeats 4000000 in
theorem ctX9_takeWord (S Sm : Mem) (S' : Mem) (hF : fX9_takeWord S = some (S')) : Ct yX9_takeWord cX9_takeWord 7 none 4 85 0 0 [vr 9 0, vr 7 0] wl0 L0 S Sm none wl0 L0 S' Sm := by
  refine Ct.of RX9 false (by decide) rfl (fun h => by cases h) (Nat.le_of_ble_eq_true rfl) (fun J hJ hR => ?_)
  rw [fX9_takeWord] at hF
  show J 0 [some (vr 9 0), some (vr 7 0), none, none, none, none, none] [] wl0 L0 0 0 S Sm
  exact wX9_takeWord_0 hJ hR 5000 S hF
set_option maxRecDepth 100000 in
set_option maxHeartbeats 4000000 in
theorem ctX9_isBlank (p0 : Int32) (Sc Sm : Mem) (r : Int32) (hF : fX9_isBlank p0 = r) : Ct yX9_isBlank cX9_isBlank 1 (some .boolean) 0 0 0 0 [vi p0] wl0 L0 Sc Sm (some (vi r)) wl0 L0 Sc Sm := by
  refine Ct.of RX9 false (by decide) rfl (fun h => by cases h) (Nat.le_of_ble_eq_true rfl) (fun J hJ hR => ?_)
  rw [fX9_isBlank] at hF
  show J 0 [some (vi p0)] [] wl0 L0 0 0 Sc Sm
  refine hJ.iload_n (pc := 0) dX9_isBlank_0 rfl ?_
  refine hJ.bipush (pc := 1) 32 dX9_isBlank_1 bc_32 ?_
  refine hJ.icmp_eq (pc := 3) 12 dX9_isBlank_3 (by decide) (fun h1 => ?_) (fun h1 => ?_)
  · rw [if_pos h1] at hF
    refine hJ.iconst (pc := 12) 1 dX9_isBlank_12 ic_1 ?_
    refine hJ.goto (pc := 13) 17 dX9_isBlank_13 (by decide) ?_
    cases hF
    exact hR.n (pc := 17) (by decide) dX9_isBlank_17
  · rw [if_neg h1] at hF
    refine hJ.iload_n (pc := 6) dX9_isBlank_6 rfl ?_
    refine hJ.bipush (pc := 7) 10 dX9_isBlank_7 bc_10 ?_
    refine hJ.icmp_ne (pc := 9) 16 dX9_isBlank_9 (by decide) (fun h2 => ?_) (fun h2 => ?_)
    · rw [if_neg h2] at hF
      refine hJ.iconst (pc := 16) 0 dX9_isBlank_16 ic_0 ?_
      cases hF
      exact hR.n (pc := 17) (by decide) dX9_isBlank_17
    · rw [if_pos h2] at hF
      refine hJ.iconst (pc := 12) 1 dX9_isBlank_12 ic_1 ?_
      refine hJ.goto (pc := 13) 17 dX9_isBlank_13 (by decide) ?_
      cases hF
      exact hR.n (pc := 17) (by decide) dX9_isBlank_17
set_option maxRecDepth 100000 in
set_option maxHeartbeats 4000000 in
theorem wX9_advance_46 {J : Nat → Lv → List AV → Obs → Lay → Nat → Nat → Mem → Mem → Prop} (hJ : Cl RX9 cX9_advance 3 5 113 0 0 none false J) {Sm S' : Mem} (hR : Rk cX9_advance none none wl0 L0 0 0 S' Sm J) (S : Mem) (hF : fX9_advance_46 S = some (S')) : J 46 [some (vr 9 0), some (vr 7 0), none] [] wl0 L0 0 0 S Sm := by
  rw [fX9_advance_46] at hF
  refine hJ.aload_n (pc := 46) dX9_advance_46 rfl ?_
  refine hJ.aload_n (pc := 47) dX9_advance_47 rfl ?_
  refine hJ.gI (pc := 48) dX9_advance_48 fi_X9_11 ?_
  refine hJ.pI (pc := 51) dX9_advance_51 fp_X9_15 ?_
  refine hJ.aload_n (pc := 54) dX9_advance_54 rfl ?_
  refine hJ.aload_n (pc := 55) dX9_advance_55 rfl ?_
  refine hJ.gI (pc := 56) dX9_advance_56 fi_X9_11 ?_
  obtain ⟨r3, h2, hF⟩ := bn_some hF
  refine hJ.cV (pc := 59) [vi ((up S 9 0 1 (S 9 0 0)) 9 0 0)] [] [vi r3] dX9_advance_59 lk_X9_29 (ctX7_signAt ((up S 9 0 1 (S 9 0 0)) 9 0 0) _ _ _ h2) rfl rfl rfl rfl ?_
  refine hJ.istore_n (pc := 62) [some (vr 9 0), some (vr 7 0), some (vi r3)] dX9_advance_62 (by decide) rfl ?_
  refine hJ.iload_n (pc := 63) dX9_advance_63 rfl ?_
  refine hJ.iconst (pc := 64) (-1) dX9_advance_64 ic_m1 ?_
  refine hJ.icmp_ne (pc := 65) 76 dX9_advance_65 (by decide) (fun h4 => ?_) (fun h4 => ?_)
  · rw [if_neg h4] at hF
    refine hJ.iload_n (pc := 76) dX9_advance_76 rfl ?_
    refine hJ.cS (pc := 77) [vi r3] [] [vi (fX9_isLetter r3)] dX9_advance_77 lk_X9_37 (ctX9_isLetter r3 _ _ (fX9_isLetter r3) rfl) rfl rfl rfl rfl ?_
    refine hJ.if_eq (pc := 80) 91 dX9_advance_80 (by decide) (fun h5 => ?_) (fun h5 => ?_)
    · rw [if_pos h5] at hF
      refine hJ.iload_n (pc := 91) dX9_advance_91 rfl ?_
      refine hJ.cS (pc := 92) [vi r3] [] [vi (fX9_isDigit r3)] dX9_advance_92 lk_X9_44 (ctX9_isDigit r3 _ _ (fX9_isDigit r3) rfl) rfl rfl rfl rfl ?_
      refine hJ.if_eq (pc := 95) 106 dX9_advance_95 (by decide) (fun h6 => ?_) (fun h6 => ?_)
      · rw [if_pos h6] at hF
        refine hJ.aload_n (pc := 106) dX9_advance_106 rfl ?_
        refine hJ.iload_n (pc := 107) dX9_advance_107 rfl ?_
        obtain ⟨S8, h7, hF⟩ := bn_some hF
        refine hJ.cV (pc := 108) [vi r3] [] [] dX9_advance_108 lk_X9_50 (ctX9_takeSign r3 _ _ _ h7) rfl rfl rfl rfl ?_
        cases hF
        exact hR.v (pc := 111) dX9_advance_111
      · rw [if_neg h6] at hF
        refine hJ.aload_n (pc := 98) dX9_advance_98 rfl ?_
        refine hJ.aload_n (pc := 99) dX9_advance_99 rfl ?_
        obtain ⟨S10, h9, hF⟩ := bn_some hF
        refine hJ.cV (pc := 100) [vr 7 0] [] [] dX9_advance_100 lk_X9_47 (ctX9_takeNumber _ _ _ h9) rfl rfl rfl rfl ?_
        refine hJ.goto (pc := 103) 111 dX9_advance_103 (by decide) ?_
        cases hF
        exact hR.v (pc := 111) dX9_advance_111
    · rw [if_neg h5] at hF
      refine hJ.aload_n (pc := 83) dX9_advance_83 rfl ?_
      refine hJ.aload_n (pc := 84) dX9_advance_84 rfl ?_
      obtain ⟨S12, h11, hF⟩ := bn_some hF
      refine hJ.cV (pc := 85) [vr 7 0] [] [] dX9_advance_85 lk_X9_40 (ctX9_takeWord _ _ _ h11) rfl rfl rfl rfl ?_
      refine hJ.goto (pc := 88) 111 dX9_advance_88 (by decide) ?_
      cases hF
      exact hR.v (pc := 111) dX9_advance_111
  · rw [if_pos h4] at hF
    refine hJ.aload_n (pc := 68) dX9_advance_68 rfl ?_
    refine hJ.iconst (pc := 69) 0 dX9_advance_69 ic_0 ?_
    refine hJ.pI (pc := 70) dX9_advance_70 fp_X9_18 ?_
    refine hJ.goto (pc := 73) 111 dX9_advance_73 (by decide) ?_
    cases hF
    exact hR.v (pc := 111) dX9_advance_111
set_option maxRecDepth 100000 in
set_option maxHeartbeats 4000000 in
theorem wX9_advance_8 {J : Nat → Lv → List AV → Obs → Lay → Nat → Nat → Mem → Mem → Prop} (hJ : Cl RX9 cX9_advance 3 5 113 0 0 none false J) {Sm S' : Mem} (hR : Rk cX9_advance none none wl0 L0 0 0 S' Sm J) : ∀ (n : Nat) (S : Mem), fX9_advance_8 n S = some (S') → J 8 [some (vr 9 0), some (vr 7 0), none] [] wl0 L0 0 0 S Sm := by
  intro n
  induction n with
  | zero =>
    intro  S hF
    rw [fX9_advance_8] at hF
    cases hF
  | succ n ih =>
    intro  S hF
    rw [fX9_advance_8] at hF
    refine hJ.aload_n (pc := 8) dX9_advance_8 rfl ?_
    refine hJ.gI (pc := 9) dX9_advance_9 fi_X9_11 ?_
    refine hJ.aload_n (pc := 12) dX9_advance_12 rfl ?_
    refine hJ.gI (pc := 13) dX9_advance_13 fi_X9_24 ?_
    refine hJ.icmp_ge (pc := 16) 46 dX9_advance_16 (by decide) (fun h1 => ?_) (fun h1 => ?_)
    · rw [if_pos h1] at hF
      exact wX9_advance_46 hJ hR S hF
    · rw [if_neg h1] at hF
      refine hJ.aload_n (pc := 19) dX9_advance_19 rfl ?_
      refine hJ.aload_n (pc := 20) dX9_advance_20 rfl ?_
      refine hJ.gI (pc := 21) dX9_advance_21 fi_X9_11 ?_
      obtain ⟨r14, h13, hF⟩ := bn_some hF
      refine hJ.cV (pc := 24) [vi (S 9 0 0)] [] [vi r14] dX9_advance_24 lk_X9_29 (ctX7_signAt (S 9 0 0) _ _ _ h13) rfl rfl rfl rfl ?_
      refine hJ.cS (pc := 27) [vi r14] [] [vi (fX9_isBlank r14)] dX9_advance_27 lk_X9_33 (ctX9_isBlank r14 _ _ (fX9_isBlank r14) rfl) rfl rfl rfl rfl ?_
      refine hJ.if_eq (pc := 30) 46 dX9_advance_30 (by decide) (fun h15 => ?_) (fun h15 => ?_)
      · rw [if_pos h15] at hF
        exact wX9_advance_46 hJ hR S hF
      · rw [if_neg h15] at hF
        refine hJ.aload_n (pc := 33) dX9_advance_33 rfl ?_
        refine hJ.dup (pc := 34) dX9_advance_34 ?_
        refine hJ.gI (pc := 35) dX9_advance_35 fi_X9_11 ?_
        refine hJ.iconst (pc := 38) 1 dX9_advance_38 ic_1 ?_
        refine hJ.iadd (pc := 39) dX9_advance_39 ?_
        refine hJ.pI (pc := 40) dX9_advance_40 fp_X9_11 ?_
        refine hJ.goto (pc := 43) 8 dX9_advance_43 (by decide) ?_
        exact ih (up S 9 0 0 ((S 9 0 0) + 1)) hF
set_option maxRecDepth 100000 in
set_option maxHeartbeats 4000000 in
theorem ctX9_advance (S Sm : Mem) (S' : Mem) (hF : fX9_advance S = some (S')) : Ct yX9_advance cX9_advance 3 none 5 113 0 0 [vr 9 0, vr 7 0] wl0 L0 S Sm none wl0 L0 S' Sm := by
  refine Ct.of RX9 false (by decide) rfl (fun h => by cases h) (Nat.le_of_ble_eq_true rfl) (fun J hJ hR => ?_)
  rw [fX9_advance] at hF
  show J 0 [some (vr 9 0), some (vr 7 0), none] [] wl0 L0 0 0 S Sm
  refine hJ.aload_n (pc := 0) dX9_advance_0 rfl ?_
  refine hJ.aload_n (pc := 1) dX9_advance_1 rfl ?_
  refine hJ.gI (pc := 2) dX9_advance_2 fi_X9_15 ?_
  refine hJ.pI (pc := 5) dX9_advance_5 fp_X9_11 ?_
  exact wX9_advance_8 hJ hR 5000 (up S 9 0 0 (S 9 0 1)) hF
set_option maxRecDepth 100000 in
set_option maxHeartbeats 4000000 in
theorem ctX3_isFull (S Sm : Mem) (r : Int32) (hF : fX3_isFull S = r) : Ct yX3_isFull cX3_isFull 1 (some .boolean) 0 0 0 0 [vr 3 2] wl0 L0 S Sm (some (vi r)) wl0 L0 S Sm := by
  refine Ct.of RX3 false (by decide) rfl (fun h => by cases h) (Nat.le_of_ble_eq_true rfl) (fun J hJ hR => ?_)
  rw [fX3_isFull] at hF
  show J 0 [some (vr 3 2)] [] wl0 L0 0 0 S Sm
  refine hJ.aload_n (pc := 0) dX3_isFull_0 rfl ?_
  refine hJ.gI (pc := 1) dX3_isFull_1 fi_X3_33 ?_
  refine hJ.bipush (pc := 4) 16 dX3_isFull_4 bc_16 ?_
  refine hJ.icmp_lt (pc := 6) 13 dX3_isFull_6 (by decide) (fun h1 => ?_) (fun h1 => ?_)
  · rw [if_pos h1] at hF
    refine hJ.iconst (pc := 13) 0 dX3_isFull_13 ic_0 ?_
    cases hF
    exact hR.n (pc := 14) (by decide) dX3_isFull_14
  · rw [if_neg h1] at hF
    refine hJ.iconst (pc := 9) 1 dX3_isFull_9 ic_1 ?_
    refine hJ.goto (pc := 10) 14 dX3_isFull_10 (by decide) ?_
    cases hF
    exact hR.n (pc := 14) (by decide) dX3_isFull_14
set_option maxRecDepth 100000 in
set_option maxHeartbeats 4000000 in
theorem ctX3_startLine (S Sm : Mem) (S' : Mem) (hF : fX3_startLine S = some (S')) : Ct yX3_startLine cX3_startLine 1 none 1 20 0 0 [vr 3 2] wl0 L0 S Sm none wl0 L0 S' Sm := by
  refine Ct.of RX3 false (by decide) rfl (fun h => by cases h) (Nat.le_of_ble_eq_true rfl) (fun J hJ hR => ?_)
  rw [fX3_startLine] at hF
  show J 0 [some (vr 3 2)] [] wl0 L0 0 0 S Sm
  refine hJ.aload_n (pc := 0) dX3_startLine_0 rfl ?_
  refine hJ.cV (pc := 1) [] [] [vi (fX3_isFull S)] dX3_startLine_1 lk_X3_36 (ctX3_isFull _ _ (fX3_isFull S) rfl) rfl rfl rfl rfl ?_
  refine hJ.if_ne (pc := 4) 20 dX3_startLine_4 (by decide) (fun h1 => ?_) (fun h1 => ?_)
  · rw [if_neg h1] at hF
    cases hF
    exact hR.v (pc := 20) dX3_startLine_20
  · rw [if_pos h1] at hF
    refine hJ.aload_n (pc := 7) dX3_startLine_7 rfl ?_
    refine hJ.gR (pc := 8) (k' := 22) (i' := 2) dX3_startLine_8 fr_X3_17 rfl ?_
    refine hJ.aload_n (pc := 11) dX3_startLine_11 rfl ?_
    refine hJ.gI (pc := 12) dX3_startLine_12 fi_X3_33 ?_
    refine hJ.aload_n (pc := 15) dX3_startLine_15 rfl ?_
    refine hJ.gI (pc := 16) dX3_startLine_16 fi_X3_29 ?_
    obtain ⟨j2, h3, hF⟩ := bn_some hF
    refine hJ.siast (pc := 19) dX3_startLine_19 al_22 h3 ?_
    cases hF
    exact hR.v (pc := 20) dX3_startLine_20
set_option maxRecDepth 100000 in
set_option maxHeartbeats 4000000 in
theorem ctX4_refuse (p0 : Int32) (S Sm : Mem) (S' : Mem) (hF : fX4_refuse p0 S = S') : Ct yX4_refuse cX4_refuse 2 none 0 0 0 0 [vr 4 0, vi p0] wl0 L0 S Sm none wl0 L0 S' Sm := by
  refine Ct.of RX4 false (by decide) rfl (fun h => by cases h) (Nat.le_of_ble_eq_true rfl) (fun J hJ hR => ?_)
  rw [fX4_refuse] at hF
  show J 0 [some (vr 4 0), some (vi p0)] [] wl0 L0 0 0 S Sm
  refine hJ.aload_n (pc := 0) dX4_refuse_0 rfl ?_
  refine hJ.iload_n (pc := 1) dX4_refuse_1 rfl ?_
  refine hJ.pI (pc := 2) dX4_refuse_2 fp_X4_43 ?_
  refine hJ.aload_n (pc := 5) dX4_refuse_5 rfl ?_
  refine hJ.aload_n (pc := 6) dX4_refuse_6 rfl ?_
  refine hJ.gR (pc := 7) (k' := 9) (i' := 0) dX4_refuse_7 fr_X4_21 rfl ?_
  refine hJ.gI (pc := 10) dX4_refuse_10 fi_X4_84 ?_
  refine hJ.pI (pc := 13) dX4_refuse_13 fp_X4_46 ?_
  refine hJ.aload_n (pc := 16) dX4_refuse_16 rfl ?_
  refine hJ.iconst (pc := 17) 1 dX4_refuse_17 ic_1 ?_
  refine hJ.pZ (pc := 18) dX4_refuse_18 fp_X4_39 (by decide) ?_
  cases hF
  exact hR.v (pc := 21) dX4_refuse_21
set_option maxRecDepth 100000 in
set_option maxHeartbeats 4000000 in
theorem ctX4_takeLine (p0 : Int32) (S Sm : Mem) (S' : Mem) (hF : fX4_takeLine p0 S = some (S')) : Ct yX4_takeLine cX4_takeLine 2 none 2 40 0 0 [vr 4 0, vi p0] wl0 L0 S Sm none wl0 L0 S' Sm := by
  refine Ct.of RX4 false (by decide) rfl (fun h => by cases h) (Nat.le_of_ble_eq_true rfl) (fun J hJ hR => ?_)
  rw [fX4_takeLine] at hF
  show J 0 [some (vr 4 0), some (vi p0)] [] wl0 L0 0 0 S Sm
  refine hJ.iload_n (pc := 0) dX4_takeLine_0 rfl ?_
  refine hJ.if_ne (pc := 1) 12 dX4_takeLine_1 (by decide) (fun h1 => ?_) (fun h1 => ?_)
  · rw [if_neg h1] at hF
    refine hJ.iload_n (pc := 12) dX4_takeLine_12 rfl ?_
    refine hJ.iconst (pc := 13) 3 dX4_takeLine_13 ic_3 ?_
    refine hJ.icmp_eq (pc := 14) 25 dX4_takeLine_14 (by decide) (fun h2 => ?_) (fun h2 => ?_)
    · rw [if_pos h2] at hF
      refine hJ.aload_n (pc := 25) dX4_takeLine_25 rfl ?_
      refine hJ.gR (pc := 26) (k' := 3) (i' := 2) dX4_takeLine_26 fr_X4_12 rfl ?_
      refine hJ.cV (pc := 29) [] [] [vi (fX3_isFull S)] dX4_takeLine_29 lk_X4_90 (ctX3_isFull _ _ (fX3_isFull S) rfl) rfl rfl rfl rfl ?_
      refine hJ.if_eq (pc := 32) 43 dX4_takeLine_32 (by decide) (fun h3 => ?_) (fun h3 => ?_)
      · rw [if_pos h3] at hF
        refine hJ.aload_n (pc := 43) dX4_takeLine_43 rfl ?_
        refine hJ.gR (pc := 44) (k' := 3) (i' := 2) dX4_takeLine_44 fr_X4_12 rfl ?_
        obtain ⟨S5, h4, hF⟩ := bn_some hF
        refine hJ.cV (pc := 47) [] [] [] dX4_takeLine_47 lk_X4_94 (ctX3_startLine _ _ _ h4) rfl rfl rfl rfl ?_
        refine hJ.aload_n (pc := 50) dX4_takeLine_50 rfl ?_
        refine hJ.iconst (pc := 51) 0 dX4_takeLine_51 ic_0 ?_
        refine hJ.pI (pc := 52) dX4_takeLine_52 fp_X4_36 ?_
        refine hJ.aload_n (pc := 55) dX4_takeLine_55 rfl ?_
        refine hJ.iconst (pc := 56) 1 dX4_takeLine_56 ic_1 ?_
        refine hJ.pI (pc := 57) dX4_takeLine_57 fp_X4_33 ?_
        cases hF
        exact hR.v (pc := 60) dX4_takeLine_60
      · rw [if_neg h3] at hF
        refine hJ.aload_n (pc := 35) dX4_takeLine_35 rfl ?_
        refine hJ.iconst (pc := 36) 3 dX4_takeLine_36 ic_3 ?_
        refine hJ.cV (pc := 37) [vi 3] [] [] dX4_takeLine_37 lk_X4_87 (ctX4_refuse 3 _ _ (fX4_refuse 3 S) rfl) rfl rfl rfl rfl ?_
        refine hJ.goto (pc := 40) 60 dX4_takeLine_40 (by decide) ?_
        cases hF
        exact hR.v (pc := 60) dX4_takeLine_60
    · rw [if_neg h2] at hF
      refine hJ.aload_n (pc := 17) dX4_takeLine_17 rfl ?_
      refine hJ.iconst (pc := 18) 1 dX4_takeLine_18 ic_1 ?_
      refine hJ.cV (pc := 19) [vi 1] [] [] dX4_takeLine_19 lk_X4_87 (ctX4_refuse 1 _ _ (fX4_refuse 1 S) rfl) rfl rfl rfl rfl ?_
      refine hJ.goto (pc := 22) 60 dX4_takeLine_22 (by decide) ?_
      cases hF
      exact hR.v (pc := 60) dX4_takeLine_60
  · rw [if_pos h1] at hF
    refine hJ.aload_n (pc := 4) dX4_takeLine_4 rfl ?_
    refine hJ.iconst (pc := 5) 1 dX4_takeLine_5 ic_1 ?_
    refine hJ.pZ (pc := 6) dX4_takeLine_6 fp_X4_39 (by decide) ?_
    refine hJ.goto (pc := 9) 60 dX4_takeLine_9 (by decide) ?_
    cases hF
    exact hR.v (pc := 60) dX4_takeLine_60
set_option maxRecDepth 100000 in
set_option maxHeartbeats 4000000 in
theorem ctX3_add (p0 : Int32) (S Sm : Mem) (S' : Mem) (hF : fX3_add p0 S = some (S')) : Ct yX3_add cX3_add 2 none 0 0 0 0 [vr 3 2, vi p0] wl0 L0 S Sm none wl0 L0 S' Sm := by
  refine Ct.of RX3 false (by decide) rfl (fun h => by cases h) (Nat.le_of_ble_eq_true rfl) (fun J hJ hR => ?_)
  rw [fX3_add] at hF
  show J 0 [some (vr 3 2), some (vi p0)] [] wl0 L0 0 0 S Sm
  refine hJ.aload_n (pc := 0) dX3_add_0 rfl ?_
  refine hJ.gI (pc := 1) dX3_add_1 fi_X3_29 ?_
  refine hJ.sipush (pc := 4) 400 dX3_add_4 sc_400 ?_
  refine hJ.icmp_ge (pc := 7) 30 dX3_add_7 (by decide) (fun h1 => ?_) (fun h1 => ?_)
  · rw [if_pos h1] at hF
    cases hF
    exact hR.v (pc := 30) dX3_add_30
  · rw [if_neg h1] at hF
    refine hJ.aload_n (pc := 10) dX3_add_10 rfl ?_
    refine hJ.gR (pc := 11) (k' := 21) (i' := 2) dX3_add_11 fr_X3_11 rfl ?_
    refine hJ.aload_n (pc := 14) dX3_add_14 rfl ?_
    refine hJ.gI (pc := 15) dX3_add_15 fi_X3_29 ?_
    refine hJ.iload_n (pc := 18) dX3_add_18 rfl ?_
    obtain ⟨j2, h3, hF⟩ := bn_some hF
    refine hJ.siast (pc := 19) dX3_add_19 al_21 h3 ?_
    refine hJ.aload_n (pc := 20) dX3_add_20 rfl ?_
    refine hJ.dup (pc := 21) dX3_add_21 ?_
    refine hJ.gI (pc := 22) dX3_add_22 fi_X3_29 ?_
    refine hJ.iconst (pc := 25) 1 dX3_add_25 ic_1 ?_
    refine hJ.iadd (pc := 26) dX3_add_26 ?_
    refine hJ.pI (pc := 27) dX3_add_27 fp_X3_29 ?_
    cases hF
    exact hR.v (pc := 30) dX3_add_30
set_option maxRecDepth 100000 in
set_option maxHeartbeats 4000000 in
theorem ctX9_isFact (p0 : Int32) (Sc Sm : Mem) (r : Int32) (hF : fX9_isFact p0 = r) : Ct yX9_isFact cX9_isFact 1 (some .boolean) 1 22 0 0 [vi p0] wl0 L0 Sc Sm (some (vi r)) wl0 L0 Sc Sm := by
  refine Ct.of RX9 false (by decide) rfl (fun h => by cases h) (Nat.le_of_ble_eq_true rfl) (fun J hJ hR => ?_)
  rw [fX9_isFact] at hF
  show J 0 [some (vi p0)] [] wl0 L0 0 0 Sc Sm
  refine hJ.iload_n (pc := 0) dX9_isFact_0 rfl ?_
  refine hJ.bipush (pc := 1) 8 dX9_isFact_1 bc_8 ?_
  refine hJ.bipush (pc := 3) 16 dX9_isFact_3 bc_16 ?_
  refine hJ.cSN (pc := 5) [vi p0, vi 8, vi 16] [] [vi (fX11_within p0 8 16)] dX9_isFact_5 lk_X9_71 (ctX11_within p0 8 16 _ _ (fX11_within p0 8 16) rfl) rfl rfl rfl rfl ?_
  cases hF
  exact hR.n (pc := 8) (bool_nar (zX11_within _ _ _ )).1 dX9_isFact_8
set_option maxRecDepth 100000 in
set_option maxHeartbeats 4000000 in
theorem ctX3_addFact (p0 : Int32) (S Sm : Mem) (S' : Mem) (hF : fX3_addFact p0 S = some (S')) : Ct yX3_addFact cX3_addFact 2 none 1 21 0 0 [vr 3 2, vi p0] wl0 L0 S Sm none wl0 L0 S' Sm := by
  refine Ct.of RX3 false (by decide) rfl (fun h => by cases h) (Nat.le_of_ble_eq_true rfl) (fun J hJ hR => ?_)
  rw [fX3_addFact] at hF
  show J 0 [some (vr 3 2), some (vi p0)] [] wl0 L0 0 0 S Sm
  refine hJ.aload_n (pc := 0) dX3_addFact_0 rfl ?_
  refine hJ.sipush (pc := 1) 10000 dX3_addFact_1 sc_10000 ?_
  refine hJ.iload_n (pc := 4) dX3_addFact_4 rfl ?_
  refine hJ.iadd (pc := 5) dX3_addFact_5 ?_
  refine hJ.bipush (pc := 6) 8 dX3_addFact_6 bc_8 ?_
  refine hJ.isub (pc := 8) dX3_addFact_8 ?_
  obtain ⟨S2, h1, hF⟩ := bn_some hF
  refine hJ.cV (pc := 9) [vi ((10000 + p0) - 8)] [] [] dX3_addFact_9 lk_X3_42 (ctX3_add ((10000 + p0) - 8) _ _ _ h1) rfl rfl rfl rfl ?_
  cases hF
  exact hR.v (pc := 12) dX3_addFact_12
set_option maxRecDepth 100000 in
set_option maxHeartbeats 4000000 in
theorem ctX4_takeUnit (p0 : Int32) (S Sm : Mem) (S' : Mem) (hF : fX4_takeUnit p0 S = some (S')) : Ct yX4_takeUnit cX4_takeUnit 2 none 2 42 0 0 [vr 4 0, vi p0] wl0 L0 S Sm none wl0 L0 S' Sm := by
  refine Ct.of RX4 false (by decide) rfl (fun h => by cases h) (Nat.le_of_ble_eq_true rfl) (fun J hJ hR => ?_)
  rw [fX4_takeUnit] at hF
  show J 0 [some (vr 4 0), some (vi p0)] [] wl0 L0 0 0 S Sm
  refine hJ.aload_n (pc := 0) dX4_takeUnit_0 rfl ?_
  refine hJ.iconst (pc := 1) 4 dX4_takeUnit_1 ic_4 ?_
  refine hJ.pI (pc := 2) dX4_takeUnit_2 fp_X4_33 ?_
  refine hJ.iload_n (pc := 5) dX4_takeUnit_5 rfl ?_
  refine hJ.iconst (pc := 6) 2 dX4_takeUnit_6 ic_2 ?_
  refine hJ.icmp_ne (pc := 7) 27 dX4_takeUnit_7 (by decide) (fun h1 => ?_) (fun h1 => ?_)
  · rw [if_neg h1] at hF
    refine hJ.iload_n (pc := 27) dX4_takeUnit_27 rfl ?_
    refine hJ.cS (pc := 28) [vi p0] [] [vi (fX9_isFact p0)] dX4_takeUnit_28 lk_X4_103 (ctX9_isFact p0 _ _ (fX9_isFact p0) rfl) rfl rfl rfl rfl ?_
    refine hJ.if_eq (pc := 31) 45 dX4_takeUnit_31 (by decide) (fun h4 => ?_) (fun h4 => ?_)
    · rw [if_pos h4] at hF
      refine hJ.aload_n (pc := 45) dX4_takeUnit_45 rfl ?_
      refine hJ.iconst (pc := 46) 1 dX4_takeUnit_46 ic_1 ?_
      refine hJ.cV (pc := 47) [vi 1] [] [] dX4_takeUnit_47 lk_X4_87 (ctX4_refuse 1 _ _ (fX4_refuse 1 (up S 4 0 4 4)) rfl) rfl rfl rfl rfl ?_
      cases hF
      exact hR.v (pc := 50) dX4_takeUnit_50
    · rw [if_neg h4] at hF
      refine hJ.aload_n (pc := 34) dX4_takeUnit_34 rfl ?_
      refine hJ.gR (pc := 35) (k' := 3) (i' := 2) dX4_takeUnit_35 fr_X4_12 rfl ?_
      refine hJ.iload_n (pc := 38) dX4_takeUnit_38 rfl ?_
      obtain ⟨S6, h5, hF⟩ := bn_some hF
      refine hJ.cV (pc := 39) [vi p0] [] [] dX4_takeUnit_39 lk_X4_107 (ctX3_addFact p0 _ _ _ h5) rfl rfl rfl rfl ?_
      refine hJ.goto (pc := 42) 50 dX4_takeUnit_42 (by decide) ?_
      cases hF
      exact hR.v (pc := 50) dX4_takeUnit_50
  · rw [if_pos h1] at hF
    refine hJ.aload_n (pc := 10) dX4_takeUnit_10 rfl ?_
    refine hJ.gR (pc := 11) (k' := 3) (i' := 2) dX4_takeUnit_11 fr_X4_12 rfl ?_
    refine hJ.aload_n (pc := 14) dX4_takeUnit_14 rfl ?_
    refine hJ.gR (pc := 15) (k' := 9) (i' := 0) dX4_takeUnit_15 fr_X4_21 rfl ?_
    refine hJ.gI (pc := 18) dX4_takeUnit_18 fi_X4_97 ?_
    obtain ⟨S3, h2, hF⟩ := bn_some hF
    refine hJ.cV (pc := 21) [vi ((up S 4 0 4 4) 9 0 3)] [] [] dX4_takeUnit_21 lk_X4_100 (ctX3_add ((up S 4 0 4 4) 9 0 3) _ _ _ h2) rfl rfl rfl rfl ?_
    refine hJ.goto (pc := 24) 50 dX4_takeUnit_24 (by decide) ?_
    cases hF
    exact hR.v (pc := 50) dX4_takeUnit_50
set_option maxRecDepth 100000 in
set_option maxHeartbeats 4000000 in
theorem ctX4_takeDivisor (p0 : Int32) (S Sm : Mem) (S' : Mem) (hF : fX4_takeDivisor p0 S = some (S')) : Ct yX4_takeDivisor cX4_takeDivisor 2 none 1 21 0 0 [vr 4 0, vi p0] wl0 L0 S Sm none wl0 L0 S' Sm := by
  refine Ct.of RX4 false (by decide) rfl (fun h => by cases h) (Nat.le_of_ble_eq_true rfl) (fun J hJ hR => ?_)
  rw [fX4_takeDivisor] at hF
  show J 0 [some (vr 4 0), some (vi p0)] [] wl0 L0 0 0 S Sm
  refine hJ.iload_n (pc := 0) dX4_takeDivisor_0 rfl ?_
  refine hJ.iconst (pc := 1) 2 dX4_takeDivisor_1 ic_2 ?_
  refine hJ.icmp_eq (pc := 2) 13 dX4_takeDivisor_2 (by decide) (fun h1 => ?_) (fun h1 => ?_)
  · rw [if_pos h1] at hF
    refine hJ.aload_n (pc := 13) dX4_takeDivisor_13 rfl ?_
    refine hJ.gR (pc := 14) (k' := 9) (i' := 0) dX4_takeDivisor_14 fr_X4_21 rfl ?_
    refine hJ.gI (pc := 17) dX4_takeDivisor_17 fi_X4_97 ?_
    refine hJ.if_ne (pc := 20) 31 dX4_takeDivisor_20 (by decide) (fun h2 => ?_) (fun h2 => ?_)
    · rw [if_neg h2] at hF
      refine hJ.aload_n (pc := 31) dX4_takeDivisor_31 rfl ?_
      refine hJ.gR (pc := 32) (k' := 3) (i' := 2) dX4_takeDivisor_32 fr_X4_12 rfl ?_
      refine hJ.aload_n (pc := 35) dX4_takeDivisor_35 rfl ?_
      refine hJ.gR (pc := 36) (k' := 9) (i' := 0) dX4_takeDivisor_36 fr_X4_21 rfl ?_
      refine hJ.gI (pc := 39) dX4_takeDivisor_39 fi_X4_97 ?_
      obtain ⟨S4, h3, hF⟩ := bn_some hF
      refine hJ.cV (pc := 42) [vi (S 9 0 3)] [] [] dX4_takeDivisor_42 lk_X4_100 (ctX3_add (S 9 0 3) _ _ _ h3) rfl rfl rfl rfl ?_
      refine hJ.aload_n (pc := 45) dX4_takeDivisor_45 rfl ?_
      refine hJ.iconst (pc := 46) 4 dX4_takeDivisor_46 ic_4 ?_
      refine hJ.pI (pc := 47) dX4_takeDivisor_47 fp_X4_33 ?_
      cases hF
      exact hR.v (pc := 50) dX4_takeDivisor_50
    · rw [if_pos h2] at hF
      refine hJ.aload_n (pc := 23) dX4_takeDivisor_23 rfl ?_
      refine hJ.iconst (pc := 24) 2 dX4_takeDivisor_24 ic_2 ?_
      refine hJ.cV (pc := 25) [vi 2] [] [] dX4_takeDivisor_25 lk_X4_87 (ctX4_refuse 2 _ _ (fX4_refuse 2 S) rfl) rfl rfl rfl rfl ?_
      refine hJ.goto (pc := 28) 50 dX4_takeDivisor_28 (by decide) ?_
      cases hF
      exact hR.v (pc := 50) dX4_takeDivisor_50
  · rw [if_neg h1] at hF
    refine hJ.aload_n (pc := 5) dX4_takeDivisor_5 rfl ?_
    refine hJ.iconst (pc := 6) 1 dX4_takeDivisor_6 ic_1 ?_
    refine hJ.cV (pc := 7) [vi 1] [] [] dX4_takeDivisor_7 lk_X4_87 (ctX4_refuse 1 _ _ (fX4_refuse 1 S) rfl) rfl rfl rfl rfl ?_
    refine hJ.goto (pc := 10) 50 dX4_takeDivisor_10 (by decide) ?_
    cases hF
    exact hR.v (pc := 50) dX4_takeDivisor_50
set_option maxRecDepth 100000 in
set_option maxHeartbeats 4000000 in
theorem wX4_countWaiting_4 {J : Nat → Lv → List AV → Obs → Lay → Nat → Nat → Mem → Mem → Prop} (hJ : Cl RX4 cX4_countWaiting 4 0 0 0 0 none false J) {r : Int32} {Sm S : Mem} (hR : Rk cX4_countWaiting (some .int) (some (vi r)) wl0 L0 0 0 S Sm J) : ∀ (n : Nat) (x1 : Int32) (x2 : Int32) (x3 : Int32), fX4_countWaiting_4 n x1 x2 x3 S = some r → J 4 [some (vr 4 0), some (vi x1), some (vi x2), some (vi x3)] [] wl0 L0 0 0 S Sm := by
  intro n
  induction n with
  | zero =>
    intro x1 x2 x3 hF
    rw [fX4_countWaiting_4] at hF
    cases hF
  | succ n ih =>
    intro x1 x2 x3 hF
    rw [fX4_countWaiting_4] at hF
    refine hJ.iload_n (pc := 4) dX4_countWaiting_4 rfl ?_
    refine hJ.aload_n (pc := 5) dX4_countWaiting_5 rfl ?_
    refine hJ.gI (pc := 6) dX4_countWaiting_6 fi_X4_29 ?_
    refine hJ.icmp_ge (pc := 9) 31 dX4_countWaiting_9 (by decide) (fun h1 => ?_) (fun h1 => ?_)
    · rw [if_pos h1] at hF
      refine hJ.iload_n (pc := 31) dX4_countWaiting_31 rfl ?_
      cases hF
      exact hR.i (pc := 32) dX4_countWaiting_32
    · rw [if_neg h1] at hF
      refine hJ.aload_n (pc := 12) dX4_countWaiting_12 rfl ?_
      refine hJ.gR (pc := 13) (k' := 26) (i' := 0) dX4_countWaiting_13 fr_X4_25 rfl ?_
      refine hJ.iload_n (pc := 16) dX4_countWaiting_16 rfl ?_
      obtain ⟨j2, h3, hF⟩ := bn_some hF
      refine hJ.liald (pc := 17) dX4_countWaiting_17 al_26 h3 ?_
      refine hJ.iload_n (pc := 18) dX4_countWaiting_18 rfl ?_
      refine hJ.icmp_ne (pc := 19) 25 dX4_countWaiting_19 (by decide) (fun h4 => ?_) (fun h4 => ?_)
      · rw [if_neg h4] at hF
        refine hJ.iinc (pc := 25) (x3 + 1) [some (vr 4 0), some (vi x1), some (vi x2), some (vi (x3 + 1))] dX4_countWaiting_25 (by decide) rfl (congrArg (fun z => x3 + z) ic_1) rfl ?_
        refine hJ.goto (pc := 28) 4 dX4_countWaiting_28 (by decide) ?_
        exact ih x1 x2 (x3 + 1) hF
      · rw [if_pos h4] at hF
        refine hJ.iinc (pc := 22) (x2 + 1) [some (vr 4 0), some (vi x1), some (vi (x2 + 1)), some (vi x3)] dX4_countWaiting_22 (by decide) rfl (congrArg (fun z => x2 + z) ic_1) rfl ?_
        refine hJ.iinc (pc := 25) (x3 + 1) [some (vr 4 0), some (vi x1), some (vi (x2 + 1)), some (vi (x3 + 1))] dX4_countWaiting_25 (by decide) rfl (congrArg (fun z => x3 + z) ic_1) rfl ?_
        refine hJ.goto (pc := 28) 4 dX4_countWaiting_28 (by decide) ?_
        exact ih x1 (x2 + 1) (x3 + 1) hF
set_option maxRecDepth 100000 in
set_option maxHeartbeats 4000000 in
theorem ctX4_countWaiting (p0 : Int32) (S Sm : Mem) (r : Int32) (hF : fX4_countWaiting p0 S = some r) : Ct yX4_countWaiting cX4_countWaiting 4 (some .int) 0 0 0 0 [vr 4 0, vi p0] wl0 L0 S Sm (some (vi r)) wl0 L0 S Sm := by
  refine Ct.of RX4 false (by decide) rfl (fun h => by cases h) (Nat.le_of_ble_eq_true rfl) (fun J hJ hR => ?_)
  rw [fX4_countWaiting] at hF
  show J 0 [some (vr 4 0), some (vi p0), none, none] [] wl0 L0 0 0 S Sm
  refine hJ.iconst (pc := 0) 0 dX4_countWaiting_0 ic_0 ?_
  refine hJ.istore_n (pc := 1) [some (vr 4 0), some (vi p0), some (vi 0), none] dX4_countWaiting_1 (by decide) rfl ?_
  refine hJ.iconst (pc := 2) 0 dX4_countWaiting_2 ic_0 ?_
  refine hJ.istore_n (pc := 3) [some (vr 4 0), some (vi p0), some (vi 0), some (vi 0)] dX4_countWaiting_3 (by decide) rfl ?_
  exact wX4_countWaiting_4 hJ hR 5000 p0 0 0 hF
set_option maxRecDepth 100000 in
set_option maxHeartbeats 4000000 in
theorem ctX4_putSign (p0 : Int32) (S Sm : Mem) (S' : Mem) (hF : fX4_putSign p0 S = some (S')) : Ct yX4_putSign cX4_putSign 2 none 0 0 0 0 [vr 4 0, vi p0] wl0 L0 S Sm none wl0 L0 S' Sm := by
  refine Ct.of RX4 false (by decide) rfl (fun h => by cases h) (Nat.le_of_ble_eq_true rfl) (fun J hJ hR => ?_)
  rw [fX4_putSign] at hF
  show J 0 [some (vr 4 0), some (vi p0)] [] wl0 L0 0 0 S Sm
  refine hJ.aload_n (pc := 0) dX4_putSign_0 rfl ?_
  refine hJ.gI (pc := 1) dX4_putSign_1 fi_X4_29 ?_
  refine hJ.bipush (pc := 4) 40 dX4_putSign_4 bc_40 ?_
  refine hJ.icmp_ge (pc := 6) 29 dX4_putSign_6 (by decide) (fun h1 => ?_) (fun h1 => ?_)
  · rw [if_pos h1] at hF
    cases hF
    exact hR.v (pc := 29) dX4_putSign_29
  · rw [if_neg h1] at hF
    refine hJ.aload_n (pc := 9) dX4_putSign_9 rfl ?_
    refine hJ.gR (pc := 10) (k' := 26) (i' := 0) dX4_putSign_10 fr_X4_25 rfl ?_
    refine hJ.aload_n (pc := 13) dX4_putSign_13 rfl ?_
    refine hJ.gI (pc := 14) dX4_putSign_14 fi_X4_29 ?_
    refine hJ.iload_n (pc := 17) dX4_putSign_17 rfl ?_
    obtain ⟨j2, h3, hF⟩ := bn_some hF
    refine hJ.siast (pc := 18) dX4_putSign_18 al_26 h3 ?_
    refine hJ.aload_n (pc := 19) dX4_putSign_19 rfl ?_
    refine hJ.dup (pc := 20) dX4_putSign_20 ?_
    refine hJ.gI (pc := 21) dX4_putSign_21 fi_X4_29 ?_
    refine hJ.iconst (pc := 24) 1 dX4_putSign_24 ic_1 ?_
    refine hJ.iadd (pc := 25) dX4_putSign_25 ?_
    refine hJ.pI (pc := 26) dX4_putSign_26 fp_X4_29 ?_
    cases hF
    exact hR.v (pc := 29) dX4_putSign_29
set_option maxRecDepth 100000 in
set_option maxHeartbeats 4000000 in
theorem wX4_takeTest_25 {J : Nat → Lv → List AV → Obs → Lay → Nat → Nat → Mem → Mem → Prop} (hJ : Cl RX4 cX4_takeTest 2 3 63 0 0 none false J) {Sm S' : Mem} (hR : Rk cX4_takeTest none none wl0 L0 0 0 S' Sm J) (x1 : Int32) (S : Mem) (hF : fX4_takeTest_25 x1 S = some (S')) : J 25 [some (vr 4 0), some (vi x1)] [] wl0 L0 0 0 S Sm := by
  rw [fX4_takeTest_25] at hF
  refine hJ.aload_n (pc := 25) dX4_takeTest_25 rfl ?_
  refine hJ.bipush (pc := 26) 7 dX4_takeTest_26 bc_7 ?_
  obtain ⟨r3, h2, hF⟩ := bn_some hF
  refine hJ.cV (pc := 28) [vi 7] [] [vi r3] dX4_takeTest_28 lk_X4_110 (ctX4_countWaiting 7 _ _ _ h2) rfl rfl rfl rfl ?_
  refine hJ.aload_n (pc := 31) dX4_takeTest_31 rfl ?_
  refine hJ.bipush (pc := 32) 22 dX4_takeTest_32 bc_22 ?_
  obtain ⟨r5, h4, hF⟩ := bn_some hF
  refine hJ.cV (pc := 34) [vi 22] [vi r3] [vi r5, vi r3] dX4_takeTest_34 lk_X4_110 (ctX4_countWaiting 22 _ _ _ h4) rfl rfl rfl rfl ?_
  refine hJ.iadd (pc := 37) dX4_takeTest_37 ?_
  refine hJ.bipush (pc := 38) 8 dX4_takeTest_38 bc_8 ?_
  refine hJ.icmp_lt (pc := 40) 51 dX4_takeTest_40 (by decide) (fun h6 => ?_) (fun h6 => ?_)
  · rw [if_pos h6] at hF
    refine hJ.aload_n (pc := 51) dX4_takeTest_51 rfl ?_
    refine hJ.iload_n (pc := 52) dX4_takeTest_52 rfl ?_
    obtain ⟨S8, h7, hF⟩ := bn_some hF
    refine hJ.cV (pc := 53) [vi x1] [] [] dX4_takeTest_53 lk_X4_114 (ctX4_putSign x1 _ _ _ h7) rfl rfl rfl rfl ?_
    cases hF
    exact hR.v (pc := 56) dX4_takeTest_56
  · rw [if_neg h6] at hF
    refine hJ.aload_n (pc := 43) dX4_takeTest_43 rfl ?_
    refine hJ.iconst (pc := 44) 3 dX4_takeTest_44 ic_3 ?_
    refine hJ.cV (pc := 45) [vi 3] [] [] dX4_takeTest_45 lk_X4_87 (ctX4_refuse 3 _ _ (fX4_refuse 3 S) rfl) rfl rfl rfl rfl ?_
    refine hJ.goto (pc := 48) 56 dX4_takeTest_48 (by decide) ?_
    cases hF
    exact hR.v (pc := 56) dX4_takeTest_56
set_option maxRecDepth 100000 in
set_option maxHeartbeats 4000000 in
theorem ctX4_takeTest (p0 : Int32) (S Sm : Mem) (S' : Mem) (hF : fX4_takeTest p0 S = some (S')) : Ct yX4_takeTest cX4_takeTest 2 none 3 63 0 0 [vr 4 0, vi p0] wl0 L0 S Sm none wl0 L0 S' Sm := by
  refine Ct.of RX4 false (by decide) rfl (fun h => by cases h) (Nat.le_of_ble_eq_true rfl) (fun J hJ hR => ?_)
  rw [fX4_takeTest] at hF
  show J 0 [some (vr 4 0), some (vi p0)] [] wl0 L0 0 0 S Sm
  refine hJ.iload_n (pc := 0) dX4_takeTest_0 rfl ?_
  refine hJ.bipush (pc := 1) 7 dX4_takeTest_1 bc_7 ?_
  refine hJ.icmp_eq (pc := 3) 25 dX4_takeTest_3 (by decide) (fun h1 => ?_) (fun h1 => ?_)
  · rw [if_pos h1] at hF
    exact wX4_takeTest_25 hJ hR p0 S hF
  · rw [if_neg h1] at hF
    refine hJ.iload_n (pc := 6) dX4_takeTest_6 rfl ?_
    refine hJ.bipush (pc := 7) 22 dX4_takeTest_7 bc_22 ?_
    refine hJ.icmp_eq (pc := 9) 25 dX4_takeTest_9 (by decide) (fun h9 => ?_) (fun h9 => ?_)
    · rw [if_pos h9] at hF
      exact wX4_takeTest_25 hJ hR p0 S hF
    · rw [if_neg h9] at hF
      refine hJ.aload_n (pc := 12) dX4_takeTest_12 rfl ?_
      refine hJ.iconst (pc := 13) 1 dX4_takeTest_13 ic_1 ?_
      refine hJ.pI (pc := 14) dX4_takeTest_14 fp_X4_36 ?_
      refine hJ.aload_n (pc := 17) dX4_takeTest_17 rfl ?_
      refine hJ.iload_n (pc := 18) dX4_takeTest_18 rfl ?_
      obtain ⟨S11, h10, hF⟩ := bn_some hF
      refine hJ.cV (pc := 19) [vi p0] [] [] dX4_takeTest_19 lk_X4_65 (ctX4_takeUnit p0 _ _ _ h10) rfl rfl rfl rfl ?_
      refine hJ.goto (pc := 22) 56 dX4_takeTest_22 (by decide) ?_
      cases hF
      exact hR.v (pc := 56) dX4_takeTest_56
set_option maxRecDepth 100000 in
set_option maxHeartbeats 4000000 in
theorem ctX9_isArithmetic (p0 : Int32) (Sc Sm : Mem) (r : Int32) (hF : fX9_isArithmetic p0 = r) : Ct yX9_isArithmetic cX9_isArithmetic 1 (some .boolean) 1 22 0 0 [vi p0] wl0 L0 Sc Sm (some (vi r)) wl0 L0 Sc Sm := by
  refine Ct.of RX9 false (by decide) rfl (fun h => by cases h) (Nat.le_of_ble_eq_true rfl) (fun J hJ hR => ?_)
  rw [fX9_isArithmetic] at hF
  show J 0 [some (vi p0)] [] wl0 L0 0 0 Sc Sm
  refine hJ.iload_n (pc := 0) dX9_isArithmetic_0 rfl ?_
  refine hJ.bipush (pc := 1) 18 dX9_isArithmetic_1 bc_18 ?_
  refine hJ.bipush (pc := 3) 21 dX9_isArithmetic_3 bc_21 ?_
  refine hJ.cSN (pc := 5) [vi p0, vi 18, vi 21] [] [vi (fX11_within p0 18 21)] dX9_isArithmetic_5 lk_X9_71 (ctX11_within p0 18 21 _ _ (fX11_within p0 18 21) rfl) rfl rfl rfl rfl ?_
  cases hF
  exact hR.n (pc := 8) (bool_nar (zX11_within _ _ _ )).1 dX9_isArithmetic_8
set_option maxRecDepth 100000 in
set_option maxHeartbeats 4000000 in
theorem ctX9_isComparison (p0 : Int32) (Sc Sm : Mem) (r : Int32) (hF : fX9_isComparison p0 = r) : Ct yX9_isComparison cX9_isComparison 1 (some .boolean) 1 22 0 0 [vi p0] wl0 L0 Sc Sm (some (vi r)) wl0 L0 Sc Sm := by
  refine Ct.of RX9 false (by decide) rfl (fun h => by cases h) (Nat.le_of_ble_eq_true rfl) (fun J hJ hR => ?_)
  rw [fX9_isComparison] at hF
  show J 0 [some (vi p0)] [] wl0 L0 0 0 Sc Sm
  refine hJ.iload_n (pc := 0) dX9_isComparison_0 rfl ?_
  refine hJ.bipush (pc := 1) 24 dX9_isComparison_1 bc_24 ?_
  refine hJ.bipush (pc := 3) 26 dX9_isComparison_3 bc_26 ?_
  refine hJ.cSN (pc := 5) [vi p0, vi 24, vi 26] [] [vi (fX11_within p0 24 26)] dX9_isComparison_5 lk_X9_71 (ctX11_within p0 24 26 _ _ (fX11_within p0 24 26) rfl) rfl rfl rfl rfl ?_
  cases hF
  exact hR.n (pc := 8) (bool_nar (zX11_within _ _ _ )).1 dX9_isComparison_8
set_option maxRecDepth 100000 in
set_option maxHeartbeats 4000000 in
theorem ctX9_bindingOf (p0 : Int32) (Sc Sm : Mem) (r : Int32) (hF : fX9_bindingOf p0 = r) : Ct yX9_bindingOf cX9_bindingOf 1 (some .int) 0 0 0 0 [vi p0] wl0 L0 Sc Sm (some (vi r)) wl0 L0 Sc Sm := by
  refine Ct.of RX9 false (by decide) rfl (fun h => by cases h) (Nat.le_of_ble_eq_true rfl) (fun J hJ hR => ?_)
  rw [fX9_bindingOf] at hF
  show J 0 [some (vi p0)] [] wl0 L0 0 0 Sc Sm
  refine hJ.iload_n (pc := 0) dX9_bindingOf_0 rfl ?_
  by_cases h1 : p0 = 5
  · rw [if_pos h1] at hF
    refine hJ.tswIn (pc := 1) (off := (89)) 90 dX9_bindingOf_1 (by rw [h1]; decide) (by rw [h1]; decide) (by rw [h1]; decide) (by decide) ?_
    refine hJ.iconst (pc := 90) 1 dX9_bindingOf_90 ic_1 ?_
    cases hF
    exact hR.i (pc := 91) dX9_bindingOf_91
  · rw [if_neg h1] at hF
    by_cases h2 : p0 = 6
    · rw [if_pos h2] at hF
      refine hJ.tswIn (pc := 1) (off := (91)) 92 dX9_bindingOf_1 (by rw [h2]; decide) (by rw [h2]; decide) (by rw [h2]; decide) (by decide) ?_
      refine hJ.iconst (pc := 92) 2 dX9_bindingOf_92 ic_2 ?_
      cases hF
      exact hR.i (pc := 93) dX9_bindingOf_93
    · rw [if_neg h2] at hF
      by_cases h3 : p0 = 7
      · rw [if_pos h3] at hF
        refine hJ.tswIn (pc := 1) (off := (93)) 94 dX9_bindingOf_1 (by rw [h3]; decide) (by rw [h3]; decide) (by rw [h3]; decide) (by decide) ?_
        refine hJ.iconst (pc := 94) 3 dX9_bindingOf_94 ic_3 ?_
        cases hF
        exact hR.i (pc := 95) dX9_bindingOf_95
      · rw [if_neg h3] at hF
        by_cases h4 : p0 = 18
        · rw [if_pos h4] at hF
          refine hJ.tswIn (pc := 1) (off := (95)) 96 dX9_bindingOf_1 (by rw [h4]; decide) (by rw [h4]; decide) (by rw [h4]; decide) (by decide) ?_
          refine hJ.iconst (pc := 96) 5 dX9_bindingOf_96 ic_5 ?_
          cases hF
          exact hR.i (pc := 97) dX9_bindingOf_97
        · rw [if_neg h4] at hF
          by_cases h5 : p0 = 19
          · rw [if_pos h5] at hF
            refine hJ.tswIn (pc := 1) (off := (95)) 96 dX9_bindingOf_1 (by rw [h5]; decide) (by rw [h5]; decide) (by rw [h5]; decide) (by decide) ?_
            refine hJ.iconst (pc := 96) 5 dX9_bindingOf_96 ic_5 ?_
            cases hF
            exact hR.i (pc := 97) dX9_bindingOf_97
          · rw [if_neg h5] at hF
            by_cases h6 : p0 = 20
            · rw [if_pos h6] at hF
              refine hJ.tswIn (pc := 1) (off := (97)) 98 dX9_bindingOf_1 (by rw [h6]; decide) (by rw [h6]; decide) (by rw [h6]; decide) (by decide) ?_
              refine hJ.bipush (pc := 98) 6 dX9_bindingOf_98 bc_6 ?_
              cases hF
              exact hR.i (pc := 100) dX9_bindingOf_100
            · rw [if_neg h6] at hF
              by_cases h7 : p0 = 21
              · rw [if_pos h7] at hF
                refine hJ.tswIn (pc := 1) (off := (97)) 98 dX9_bindingOf_1 (by rw [h7]; decide) (by rw [h7]; decide) (by rw [h7]; decide) (by decide) ?_
                refine hJ.bipush (pc := 98) 6 dX9_bindingOf_98 bc_6 ?_
                cases hF
                exact hR.i (pc := 100) dX9_bindingOf_100
              · rw [if_neg h7] at hF
                by_cases h8 : p0 = 22
                · rw [if_pos h8] at hF
                  refine hJ.tswIn (pc := 1) (off := (87)) 88 dX9_bindingOf_1 (by rw [h8]; decide) (by rw [h8]; decide) (by rw [h8]; decide) (by decide) ?_
                  refine hJ.iconst (pc := 88) 0 dX9_bindingOf_88 ic_0 ?_
                  cases hF
                  exact hR.i (pc := 89) dX9_bindingOf_89
                · rw [if_neg h8] at hF
                  refine hJ.tswD (pc := 1) 101 [5, 6, 7, 18, 19, 20, 21, 22] dX9_bindingOf_1 (List.forall_mem_cons.mpr ⟨lv_neT (k := 5) (a := (5)) h1 (by decide), List.forall_mem_cons.mpr ⟨lv_neT (k := 6) (a := (6)) h2 (by decide), List.forall_mem_cons.mpr ⟨lv_neT (k := 7) (a := (7)) h3 (by decide), List.forall_mem_cons.mpr ⟨lv_neT (k := 18) (a := (18)) h4 (by decide), List.forall_mem_cons.mpr ⟨lv_neT (k := 19) (a := (19)) h5 (by decide), List.forall_mem_cons.mpr ⟨lv_neT (k := 20) (a := (20)) h6 (by decide), List.forall_mem_cons.mpr ⟨lv_neT (k := 21) (a := (21)) h7 (by decide), List.forall_mem_cons.mpr ⟨lv_neT (k := 22) (a := (22)) h8 (by decide), List.forall_mem_nil _⟩⟩⟩⟩⟩⟩⟩⟩) (by decide) (by decide) ?_
                  refine hJ.iconst (pc := 101) 4 dX9_bindingOf_101 ic_4 ?_
                  cases hF
                  exact hR.i (pc := 102) dX9_bindingOf_102
set_option maxRecDepth 100000 in
set_option maxHeartbeats 4000000 in
theorem wX4_releaseFrom_0 {J : Nat → Lv → List AV → Obs → Lay → Nat → Nat → Mem → Mem → Prop} (hJ : Cl RX4 cX4_releaseFrom 2 1 21 0 0 none false J) {Sm S' : Mem} (hR : Rk cX4_releaseFrom none none wl0 L0 0 0 S' Sm J) : ∀ (n : Nat) (x1 : Int32) (S : Mem), fX4_releaseFrom_0 n x1 S = some (S') → J 0 [some (vr 4 0), some (vi x1)] [] wl0 L0 0 0 S Sm := by
  intro n
  induction n with
  | zero =>
    intro x1 S hF
    rw [fX4_releaseFrom_0] at hF
    cases hF
  | succ n ih =>
    intro x1 S hF
    rw [fX4_releaseFrom_0] at hF
    refine hJ.aload_n (pc := 0) dX4_releaseFrom_0 rfl ?_
    refine hJ.gI (pc := 1) dX4_releaseFrom_1 fi_X4_29 ?_
    refine hJ.if_le (pc := 4) 55 dX4_releaseFrom_4 (by decide) (fun h1 => ?_) (fun h1 => ?_)
    · rw [if_pos h1] at hF
      cases hF
      exact hR.v (pc := 55) dX4_releaseFrom_55
    · rw [if_neg h1] at hF
      refine hJ.aload_n (pc := 7) dX4_releaseFrom_7 rfl ?_
      refine hJ.gR (pc := 8) (k' := 26) (i' := 0) dX4_releaseFrom_8 fr_X4_25 rfl ?_
      refine hJ.aload_n (pc := 11) dX4_releaseFrom_11 rfl ?_
      refine hJ.gI (pc := 12) dX4_releaseFrom_12 fi_X4_29 ?_
      refine hJ.iconst (pc := 15) 1 dX4_releaseFrom_15 ic_1 ?_
      refine hJ.isub (pc := 16) dX4_releaseFrom_16 ?_
      obtain ⟨j2, h3, hF⟩ := bn_some hF
      refine hJ.liald (pc := 17) dX4_releaseFrom_17 al_26 h3 ?_
      refine hJ.cS (pc := 18) [vi (S 26 0 j2)] [] [vi (fX9_bindingOf (S 26 0 j2))] dX4_releaseFrom_18 lk_X4_141 (ctX9_bindingOf (S 26 0 j2) _ _ (fX9_bindingOf (S 26 0 j2)) rfl) rfl rfl rfl rfl ?_
      refine hJ.iload_n (pc := 21) dX4_releaseFrom_21 rfl ?_
      refine hJ.icmp_lt (pc := 22) 55 dX4_releaseFrom_22 (by decide) (fun h4 => ?_) (fun h4 => ?_)
      · rw [if_pos h4] at hF
        cases hF
        exact hR.v (pc := 55) dX4_releaseFrom_55
      · rw [if_neg h4] at hF
        refine hJ.aload_n (pc := 25) dX4_releaseFrom_25 rfl ?_
        refine hJ.dup (pc := 26) dX4_releaseFrom_26 ?_
        refine hJ.gI (pc := 27) dX4_releaseFrom_27 fi_X4_29 ?_
        refine hJ.iconst (pc := 30) 1 dX4_releaseFrom_30 ic_1 ?_
        refine hJ.isub (pc := 31) dX4_releaseFrom_31 ?_
        refine hJ.pI (pc := 32) dX4_releaseFrom_32 fp_X4_29 ?_
        refine hJ.aload_n (pc := 35) dX4_releaseFrom_35 rfl ?_
        refine hJ.gR (pc := 36) (k' := 3) (i' := 2) dX4_releaseFrom_36 fr_X4_12 rfl ?_
        refine hJ.aload_n (pc := 39) dX4_releaseFrom_39 rfl ?_
        refine hJ.gR (pc := 40) (k' := 26) (i' := 0) dX4_releaseFrom_40 fr_X4_25 rfl ?_
        refine hJ.aload_n (pc := 43) dX4_releaseFrom_43 rfl ?_
        refine hJ.gI (pc := 44) dX4_releaseFrom_44 fi_X4_29 ?_
        obtain ⟨j5, h6, hF⟩ := bn_some hF
        refine hJ.liald (pc := 47) dX4_releaseFrom_47 al_26 h6 ?_
        refine hJ.ineg (pc := 48) dX4_releaseFrom_48 ?_
        obtain ⟨S8, h7, hF⟩ := bn_some hF
        refine hJ.cV (pc := 49) [vi (-((up S 4 0 3 ((S 4 0 3) - 1)) 26 0 j5))] [] [] dX4_releaseFrom_49 lk_X4_100 (ctX3_add (-((up S 4 0 3 ((S 4 0 3) - 1)) 26 0 j5)) _ _ _ h7) rfl rfl rfl rfl ?_
        refine hJ.goto (pc := 52) 0 dX4_releaseFrom_52 (by decide) ?_
        exact ih x1 S8 hF
set_option maxRecDepth 100000 in
set_option maxHeartbeats 4000000 in
theorem ctX4_releaseFrom (p0 : Int32) (S Sm : Mem) (S' : Mem) (hF : fX4_releaseFrom p0 S = some (S')) : Ct yX4_releaseFrom cX4_releaseFrom 2 none 1 21 0 0 [vr 4 0, vi p0] wl0 L0 S Sm none wl0 L0 S' Sm := by
  refine Ct.of RX4 false (by decide) rfl (fun h => by cases h) (Nat.le_of_ble_eq_true rfl) (fun J hJ hR => ?_)
  rw [fX4_releaseFrom] at hF
  show J 0 [some (vr 4 0), some (vi p0)] [] wl0 L0 0 0 S Sm
  exact wX4_releaseFrom_0 hJ hR 5000 p0 S hF
set_option maxRecDepth 100000 in
set_option maxHeartbeats 4000000 in
theorem ctX3_endAge (S Sm : Mem) (S' : Mem) (hF : fX3_endAge S = some (S')) : Ct yX3_endAge cX3_endAge 1 none 1 20 0 0 [vr 3 2] wl0 L0 S Sm none wl0 L0 S' Sm := by
  refine Ct.of RX3 false (by decide) rfl (fun h => by cases h) (Nat.le_of_ble_eq_true rfl) (fun J hJ hR => ?_)
  rw [fX3_endAge] at hF
  show J 0 [some (vr 3 2)] [] wl0 L0 0 0 S Sm
  refine hJ.aload_n (pc := 0) dX3_endAge_0 rfl ?_
  refine hJ.cV (pc := 1) [] [] [vi (fX3_isFull S)] dX3_endAge_1 lk_X3_36 (ctX3_isFull _ _ (fX3_isFull S) rfl) rfl rfl rfl rfl ?_
  refine hJ.if_ne (pc := 4) 20 dX3_endAge_4 (by decide) (fun h1 => ?_) (fun h1 => ?_)
  · rw [if_neg h1] at hF
    cases hF
    exact hR.v (pc := 20) dX3_endAge_20
  · rw [if_pos h1] at hF
    refine hJ.aload_n (pc := 7) dX3_endAge_7 rfl ?_
    refine hJ.gR (pc := 8) (k' := 23) (i' := 2) dX3_endAge_8 fr_X3_20 rfl ?_
    refine hJ.aload_n (pc := 11) dX3_endAge_11 rfl ?_
    refine hJ.gI (pc := 12) dX3_endAge_12 fi_X3_33 ?_
    refine hJ.aload_n (pc := 15) dX3_endAge_15 rfl ?_
    refine hJ.gI (pc := 16) dX3_endAge_16 fi_X3_29 ?_
    obtain ⟨j2, h3, hF⟩ := bn_some hF
    refine hJ.siast (pc := 19) dX3_endAge_19 al_23 h3 ?_
    cases hF
    exact hR.v (pc := 20) dX3_endAge_20
set_option maxRecDepth 100000 in
set_option maxHeartbeats 4000000 in
theorem ctX4_takeEndOfAge (S Sm : Mem) (S' : Mem) (hF : fX4_takeEndOfAge S = some (S')) : Ct yX4_takeEndOfAge cX4_takeEndOfAge 1 none 2 42 0 0 [vr 4 0] wl0 L0 S Sm none wl0 L0 S' Sm := by
  refine Ct.of RX4 false (by decide) rfl (fun h => by cases h) (Nat.le_of_ble_eq_true rfl) (fun J hJ hR => ?_)
  rw [fX4_takeEndOfAge] at hF
  show J 0 [some (vr 4 0)] [] wl0 L0 0 0 S Sm
  refine hJ.aload_n (pc := 0) dX4_takeEndOfAge_0 rfl ?_
  refine hJ.iconst (pc := 1) 0 dX4_takeEndOfAge_1 ic_0 ?_
  obtain ⟨S2, h1, hF⟩ := bn_some hF
  refine hJ.cV (pc := 2) [vi 0] [] [] dX4_takeEndOfAge_2 lk_X4_132 (ctX4_releaseFrom 0 _ _ _ h1) rfl rfl rfl rfl ?_
  refine hJ.aload_n (pc := 5) dX4_takeEndOfAge_5 rfl ?_
  refine hJ.gR (pc := 6) (k' := 3) (i' := 2) dX4_takeEndOfAge_6 fr_X4_12 rfl ?_
  obtain ⟨S4, h3, hF⟩ := bn_some hF
  refine hJ.cV (pc := 9) [] [] [] dX4_takeEndOfAge_9 lk_X4_135 (ctX3_endAge _ _ _ h3) rfl rfl rfl rfl ?_
  cases hF
  exact hR.v (pc := 12) dX4_takeEndOfAge_12
set_option maxRecDepth 100000 in
set_option maxHeartbeats 4000000 in
theorem ctX3_endLine (S Sm : Mem) (S' : Mem) (hF : fX3_endLine S = some (S')) : Ct yX3_endLine cX3_endLine 1 none 1 20 0 0 [vr 3 2] wl0 L0 S Sm none wl0 L0 S' Sm := by
  refine Ct.of RX3 false (by decide) rfl (fun h => by cases h) (Nat.le_of_ble_eq_true rfl) (fun J hJ hR => ?_)
  rw [fX3_endLine] at hF
  show J 0 [some (vr 3 2)] [] wl0 L0 0 0 S Sm
  refine hJ.aload_n (pc := 0) dX3_endLine_0 rfl ?_
  refine hJ.cV (pc := 1) [] [] [vi (fX3_isFull S)] dX3_endLine_1 lk_X3_36 (ctX3_isFull _ _ (fX3_isFull S) rfl) rfl rfl rfl rfl ?_
  refine hJ.if_ne (pc := 4) 30 dX3_endLine_4 (by decide) (fun h1 => ?_) (fun h1 => ?_)
  · rw [if_neg h1] at hF
    cases hF
    exact hR.v (pc := 30) dX3_endLine_30
  · rw [if_pos h1] at hF
    refine hJ.aload_n (pc := 7) dX3_endLine_7 rfl ?_
    refine hJ.gR (pc := 8) (k' := 24) (i' := 2) dX3_endLine_8 fr_X3_23 rfl ?_
    refine hJ.aload_n (pc := 11) dX3_endLine_11 rfl ?_
    refine hJ.gI (pc := 12) dX3_endLine_12 fi_X3_33 ?_
    refine hJ.aload_n (pc := 15) dX3_endLine_15 rfl ?_
    refine hJ.gI (pc := 16) dX3_endLine_16 fi_X3_29 ?_
    obtain ⟨j2, h3, hF⟩ := bn_some hF
    refine hJ.siast (pc := 19) dX3_endLine_19 al_24 h3 ?_
    refine hJ.aload_n (pc := 20) dX3_endLine_20 rfl ?_
    refine hJ.dup (pc := 21) dX3_endLine_21 ?_
    refine hJ.gI (pc := 22) dX3_endLine_22 fi_X3_33 ?_
    refine hJ.iconst (pc := 25) 1 dX3_endLine_25 ic_1 ?_
    refine hJ.iadd (pc := 26) dX3_endLine_26 ?_
    refine hJ.pI (pc := 27) dX3_endLine_27 fp_X3_33 ?_
    cases hF
    exact hR.v (pc := 30) dX3_endLine_30
set_option maxRecDepth 100000 in
set_option maxHeartbeats 4000000 in
theorem ctX4_takeEndOfLine (S Sm : Mem) (S' : Mem) (hF : fX4_takeEndOfLine S = some (S')) : Ct yX4_takeEndOfLine cX4_takeEndOfLine 1 none 2 42 0 0 [vr 4 0] wl0 L0 S Sm none wl0 L0 S' Sm := by
  refine Ct.of RX4 false (by decide) rfl (fun h => by cases h) (Nat.le_of_ble_eq_true rfl) (fun J hJ hR => ?_)
  rw [fX4_takeEndOfLine] at hF
  show J 0 [some (vr 4 0)] [] wl0 L0 0 0 S Sm
  refine hJ.aload_n (pc := 0) dX4_takeEndOfLine_0 rfl ?_
  refine hJ.iconst (pc := 1) 0 dX4_takeEndOfLine_1 ic_0 ?_
  obtain ⟨S2, h1, hF⟩ := bn_some hF
  refine hJ.cV (pc := 2) [vi 0] [] [] dX4_takeEndOfLine_2 lk_X4_132 (ctX4_releaseFrom 0 _ _ _ h1) rfl rfl rfl rfl ?_
  refine hJ.aload_n (pc := 5) dX4_takeEndOfLine_5 rfl ?_
  refine hJ.gR (pc := 6) (k' := 3) (i' := 2) dX4_takeEndOfLine_6 fr_X4_12 rfl ?_
  obtain ⟨S4, h3, hF⟩ := bn_some hF
  refine hJ.cV (pc := 9) [] [] [] dX4_takeEndOfLine_9 lk_X4_138 (ctX3_endLine _ _ _ h3) rfl rfl rfl rfl ?_
  refine hJ.aload_n (pc := 12) dX4_takeEndOfLine_12 rfl ?_
  refine hJ.iconst (pc := 13) 0 dX4_takeEndOfLine_13 ic_0 ?_
  refine hJ.pI (pc := 14) dX4_takeEndOfLine_14 fp_X4_33 ?_
  cases hF
  exact hR.v (pc := 17) dX4_takeEndOfLine_17
set_option maxRecDepth 100000 in
set_option maxHeartbeats 4000000 in
theorem ctX4_putBinding (p0 : Int32) (S Sm : Mem) (S' : Mem) (hF : fX4_putBinding p0 S = some (S')) : Ct yX4_putBinding cX4_putBinding 2 none 2 42 0 0 [vr 4 0, vi p0] wl0 L0 S Sm none wl0 L0 S' Sm := by
  refine Ct.of RX4 false (by decide) rfl (fun h => by cases h) (Nat.le_of_ble_eq_true rfl) (fun J hJ hR => ?_)
  rw [fX4_putBinding] at hF
  show J 0 [some (vr 4 0), some (vi p0)] [] wl0 L0 0 0 S Sm
  refine hJ.aload_n (pc := 0) dX4_putBinding_0 rfl ?_
  refine hJ.iload_n (pc := 1) dX4_putBinding_1 rfl ?_
  refine hJ.cS (pc := 2) [vi p0] [vr 4 0] [vi (fX9_bindingOf p0), vr 4 0] dX4_putBinding_2 lk_X4_141 (ctX9_bindingOf p0 _ _ (fX9_bindingOf p0) rfl) rfl rfl rfl rfl ?_
  obtain ⟨S2, h1, hF⟩ := bn_some hF
  refine hJ.cV (pc := 5) [vi (fX9_bindingOf p0)] [] [] dX4_putBinding_5 lk_X4_132 (ctX4_releaseFrom (fX9_bindingOf p0) _ _ _ h1) rfl rfl rfl rfl ?_
  refine hJ.aload_n (pc := 8) dX4_putBinding_8 rfl ?_
  refine hJ.iload_n (pc := 9) dX4_putBinding_9 rfl ?_
  obtain ⟨S4, h3, hF⟩ := bn_some hF
  refine hJ.cV (pc := 10) [vi p0] [] [] dX4_putBinding_10 lk_X4_114 (ctX4_putSign p0 _ _ _ h3) rfl rfl rfl rfl ?_
  cases hF
  exact hR.v (pc := 13) dX4_putBinding_13
set_option maxRecDepth 100000 in
set_option maxHeartbeats 4000000 in
theorem wX4_takeJoint_26 {J : Nat → Lv → List AV → Obs → Lay → Nat → Nat → Mem → Mem → Prop} (hJ : Cl RX4 cX4_takeJoint 3 3 63 0 0 none false J) {Sm S' : Mem} (hR : Rk cX4_takeJoint none none wl0 L0 0 0 S' Sm J) (x1 : Int32) (S : Mem) (hF : fX4_takeJoint_26 x1 S = some (S')) : J 26 [some (vr 4 0), some (vi x1), none] [] wl0 L0 0 0 S Sm := by
  rw [fX4_takeJoint_26] at hF
  refine hJ.aload_n (pc := 26) dX4_takeJoint_26 rfl ?_
  refine hJ.iload_n (pc := 27) dX4_takeJoint_27 rfl ?_
  obtain ⟨S6, h5, hF⟩ := bn_some hF
  refine hJ.cV (pc := 28) [vi x1] [] [] dX4_takeJoint_28 lk_X4_120 (ctX4_putBinding x1 _ _ _ h5) rfl rfl rfl rfl ?_
  refine hJ.aload_n (pc := 31) dX4_takeJoint_31 rfl ?_
  refine hJ.iconst (pc := 32) 3 dX4_takeJoint_32 ic_3 ?_
  refine hJ.pI (pc := 33) dX4_takeJoint_33 fp_X4_33 ?_
  refine hJ.goto (pc := 36) 94 dX4_takeJoint_36 (by decide) ?_
  cases hF
  exact hR.v (pc := 94) dX4_takeJoint_94
set_option maxRecDepth 100000 in
set_option maxHeartbeats 4000000 in
theorem wX4_takeJoint_72 {J : Nat → Lv → List AV → Obs → Lay → Nat → Nat → Mem → Mem → Prop} (hJ : Cl RX4 cX4_takeJoint 3 3 63 0 0 none false J) {Sm S' : Mem} (hR : Rk cX4_takeJoint none none wl0 L0 0 0 S' Sm J) (x1 : Int32) (x2 : Int32) (S : Mem) (hF : fX4_takeJoint_72 x1 x2 S = some (S')) : J 72 [some (vr 4 0), some (vi x1), some (vi x2)] [] wl0 L0 0 0 S Sm := by
  rw [fX4_takeJoint_72] at hF
  refine hJ.iload_n (pc := 72) dX4_takeJoint_72 rfl ?_
  refine hJ.bipush (pc := 73) 17 dX4_takeJoint_73 bc_17 ?_
  refine hJ.icmp_ne (pc := 75) 89 dX4_takeJoint_75 (by decide) (fun h10 => ?_) (fun h10 => ?_)
  · rw [if_neg h10] at hF
    refine hJ.aload_n (pc := 89) dX4_takeJoint_89 rfl ?_
    refine hJ.iconst (pc := 90) 1 dX4_takeJoint_90 ic_1 ?_
    refine hJ.cV (pc := 91) [vi 1] [] [] dX4_takeJoint_91 lk_X4_87 (ctX4_refuse 1 _ _ (fX4_refuse 1 S) rfl) rfl rfl rfl rfl ?_
    cases hF
    exact hR.v (pc := 94) dX4_takeJoint_94
  · rw [if_pos h10] at hF
    refine hJ.iload_n (pc := 78) dX4_takeJoint_78 rfl ?_
    refine hJ.if_ne (pc := 79) 89 dX4_takeJoint_79 (by decide) (fun h11 => ?_) (fun h11 => ?_)
    · rw [if_neg h11] at hF
      refine hJ.aload_n (pc := 89) dX4_takeJoint_89 rfl ?_
      refine hJ.iconst (pc := 90) 1 dX4_takeJoint_90 ic_1 ?_
      refine hJ.cV (pc := 91) [vi 1] [] [] dX4_takeJoint_91 lk_X4_87 (ctX4_refuse 1 _ _ (fX4_refuse 1 S) rfl) rfl rfl rfl rfl ?_
      cases hF
      exact hR.v (pc := 94) dX4_takeJoint_94
    · rw [if_pos h11] at hF
      refine hJ.aload_n (pc := 82) dX4_takeJoint_82 rfl ?_
      obtain ⟨S13, h12, hF⟩ := bn_some hF
      refine hJ.cV (pc := 83) [] [] [] dX4_takeJoint_83 lk_X4_129 (ctX4_takeEndOfLine _ _ _ h12) rfl rfl rfl rfl ?_
      refine hJ.goto (pc := 86) 94 dX4_takeJoint_86 (by decide) ?_
      cases hF
      exact hR.v (pc := 94) dX4_takeJoint_94
set_option maxRecDepth 100000 in
set_option maxHeartbeats 4000000 in
theorem wX4_takeJoint_14 {J : Nat → Lv → List AV → Obs → Lay → Nat → Nat → Mem → Mem → Prop} (hJ : Cl RX4 cX4_takeJoint 3 3 63 0 0 none false J) {Sm S' : Mem} (hR : Rk cX4_takeJoint none none wl0 L0 0 0 S' Sm J) (x1 : Int32) (y0 : Int32) (S : Mem) (hF : fX4_takeJoint_14 x1 y0 S = some (S')) : J 14 [some (vr 4 0), some (vi x1), none] [vi y0] wl0 L0 0 0 S Sm := by
  rw [fX4_takeJoint_14] at hF
  refine hJ.istore_n (pc := 14) [some (vr 4 0), some (vi x1), some (vi y0)] dX4_takeJoint_14 (by decide) rfl ?_
  refine hJ.iload_n (pc := 15) dX4_takeJoint_15 rfl ?_
  refine hJ.bipush (pc := 16) 6 dX4_takeJoint_16 bc_6 ?_
  refine hJ.icmp_eq (pc := 18) 26 dX4_takeJoint_18 (by decide) (fun h4 => ?_) (fun h4 => ?_)
  · rw [if_pos h4] at hF
    refine hJ.weak [some (vr 4 0), some (vi x1), none] ⟨rfl, rfl, trivial⟩ ?_
    exact wX4_takeJoint_26 hJ hR x1 S hF
  · rw [if_neg h4] at hF
    refine hJ.iload_n (pc := 21) dX4_takeJoint_21 rfl ?_
    refine hJ.iconst (pc := 22) 5 dX4_takeJoint_22 ic_5 ?_
    refine hJ.icmp_ne (pc := 23) 39 dX4_takeJoint_23 (by decide) (fun h7 => ?_) (fun h7 => ?_)
    · rw [if_neg h7] at hF
      refine hJ.iload_n (pc := 39) dX4_takeJoint_39 rfl ?_
      refine hJ.bipush (pc := 40) 23 dX4_takeJoint_40 bc_23 ?_
      refine hJ.icmp_ne (pc := 42) 72 dX4_takeJoint_42 (by decide) (fun h8 => ?_) (fun h8 => ?_)
      · rw [if_neg h8] at hF
        exact wX4_takeJoint_72 hJ hR x1 y0 S hF
      · rw [if_pos h8] at hF
        refine hJ.iload_n (pc := 45) dX4_takeJoint_45 rfl ?_
        refine hJ.if_eq (pc := 46) 72 dX4_takeJoint_46 (by decide) (fun h9 => ?_) (fun h9 => ?_)
        · rw [if_pos h9] at hF
          exact wX4_takeJoint_72 hJ hR x1 y0 S hF
        · rw [if_neg h9] at hF
          refine hJ.aload_n (pc := 49) dX4_takeJoint_49 rfl ?_
          refine hJ.iconst (pc := 50) 1 dX4_takeJoint_50 ic_1 ?_
          obtain ⟨S15, h14, hF⟩ := bn_some hF
          refine hJ.cV (pc := 51) [vi 1] [] [] dX4_takeJoint_51 lk_X4_132 (ctX4_releaseFrom 1 _ _ _ h14) rfl rfl rfl rfl ?_
          refine hJ.aload_n (pc := 54) dX4_takeJoint_54 rfl ?_
          refine hJ.dup (pc := 55) dX4_takeJoint_55 ?_
          refine hJ.gI (pc := 56) dX4_takeJoint_56 fi_X4_29 ?_
          refine hJ.iconst (pc := 59) 1 dX4_takeJoint_59 ic_1 ?_
          refine hJ.isub (pc := 60) dX4_takeJoint_60 ?_
          refine hJ.pI (pc := 61) dX4_takeJoint_61 fp_X4_29 ?_
          refine hJ.aload_n (pc := 64) dX4_takeJoint_64 rfl ?_
          refine hJ.iconst (pc := 65) 5 dX4_takeJoint_65 ic_5 ?_
          refine hJ.pI (pc := 66) dX4_takeJoint_66 fp_X4_33 ?_
          refine hJ.goto (pc := 69) 94 dX4_takeJoint_69 (by decide) ?_
          cases hF
          exact hR.v (pc := 94) dX4_takeJoint_94
    · rw [if_pos h7] at hF
      refine hJ.weak [some (vr 4 0), some (vi x1), none] ⟨rfl, rfl, trivial⟩ ?_
      exact wX4_takeJoint_26 hJ hR x1 S hF
set_option maxRecDepth 100000 in
set_option maxHeartbeats 4000000 in
theorem ctX4_takeJoint (p0 : Int32) (S Sm : Mem) (S' : Mem) (hF : fX4_takeJoint p0 S = some (S')) : Ct yX4_takeJoint cX4_takeJoint 3 none 3 63 0 0 [vr 4 0, vi p0] wl0 L0 S Sm none wl0 L0 S' Sm := by
  refine Ct.of RX4 false (by decide) rfl (fun h => by cases h) (Nat.le_of_ble_eq_true rfl) (fun J hJ hR => ?_)
  rw [fX4_takeJoint] at hF
  show J 0 [some (vr 4 0), some (vi p0), none] [] wl0 L0 0 0 S Sm
  refine hJ.aload_n (pc := 0) dX4_takeJoint_0 rfl ?_
  refine hJ.bipush (pc := 1) 22 dX4_takeJoint_1 bc_22 ?_
  obtain ⟨r2, h1, hF⟩ := bn_some hF
  refine hJ.cV (pc := 3) [vi 22] [] [vi r2] dX4_takeJoint_3 lk_X4_110 (ctX4_countWaiting 22 _ _ _ h1) rfl rfl rfl rfl ?_
  refine hJ.if_le (pc := 6) 13 dX4_takeJoint_6 (by decide) (fun h3 => ?_) (fun h3 => ?_)
  · rw [if_pos h3] at hF
    refine hJ.iconst (pc := 13) 0 dX4_takeJoint_13 ic_0 ?_
    exact wX4_takeJoint_14 hJ hR p0 0 S hF
  · rw [if_neg h3] at hF
    refine hJ.iconst (pc := 9) 1 dX4_takeJoint_9 ic_1 ?_
    refine hJ.goto (pc := 10) 14 dX4_takeJoint_10 (by decide) ?_
    exact wX4_takeJoint_14 hJ hR p0 1 S hF
set_option maxRecDepth 100000 in
set_option maxHeartbeats 4000000 in
theorem wX4_takeOperator_111 {J : Nat → Lv → List AV → Obs → Lay → Nat → Nat → Mem → Mem → Prop} (hJ : Cl RX4 cX4_takeOperator 2 4 85 0 0 none false J) {Sm S' : Mem} (hR : Rk cX4_takeOperator none none wl0 L0 0 0 S' Sm J) (x1 : Int32) (S : Mem) (hF : fX4_takeOperator_111 x1 S = some (S')) : J 111 [some (vr 4 0), some (vi x1)] [] wl0 L0 0 0 S Sm := by
  rw [fX4_takeOperator_111] at hF
  refine hJ.aload_n (pc := 111) dX4_takeOperator_111 rfl ?_
  refine hJ.gI (pc := 112) dX4_takeOperator_112 fi_X4_36 ?_
  refine hJ.iconst (pc := 115) 2 dX4_takeOperator_115 ic_2 ?_
  refine hJ.icmp_ne (pc := 116) 127 dX4_takeOperator_116 (by decide) (fun h14 => ?_) (fun h14 => ?_)
  · rw [if_neg h14] at hF
    refine hJ.aload_n (pc := 127) dX4_takeOperator_127 rfl ?_
    refine hJ.iconst (pc := 128) 1 dX4_takeOperator_128 ic_1 ?_
    refine hJ.cV (pc := 129) [vi 1] [] [] dX4_takeOperator_129 lk_X4_87 (ctX4_refuse 1 _ _ (fX4_refuse 1 S) rfl) rfl rfl rfl rfl ?_
    cases hF
    exact hR.v (pc := 132) dX4_takeOperator_132
  · rw [if_pos h14] at hF
    refine hJ.aload_n (pc := 119) dX4_takeOperator_119 rfl ?_
    refine hJ.iload_n (pc := 120) dX4_takeOperator_120 rfl ?_
    obtain ⟨S16, h15, hF⟩ := bn_some hF
    refine hJ.cV (pc := 121) [vi x1] [] [] dX4_takeOperator_121 lk_X4_77 (ctX4_takeJoint x1 _ _ _ h15) rfl rfl rfl rfl ?_
    refine hJ.goto (pc := 124) 132 dX4_takeOperator_124 (by decide) ?_
    cases hF
    exact hR.v (pc := 132) dX4_takeOperator_132
set_option maxRecDepth 100000 in
set_option maxHeartbeats 4000000 in
theorem wX4_takeOperator_87 {J : Nat → Lv → List AV → Obs → Lay → Nat → Nat → Mem → Mem → Prop} (hJ : Cl RX4 cX4_takeOperator 2 4 85 0 0 none false J) {Sm S' : Mem} (hR : Rk cX4_takeOperator none none wl0 L0 0 0 S' Sm J) (x1 : Int32) (S : Mem) (hF : fX4_takeOperator_87 x1 S = some (S')) : J 87 [some (vr 4 0), some (vi x1)] [] wl0 L0 0 0 S Sm := by
  rw [fX4_takeOperator_87] at hF
  refine hJ.aload_n (pc := 87) dX4_takeOperator_87 rfl ?_
  refine hJ.gI (pc := 88) dX4_takeOperator_88 fi_X4_36 ?_
  refine hJ.if_ne (pc := 91) 111 dX4_takeOperator_91 (by decide) (fun h8 => ?_) (fun h8 => ?_)
  · rw [if_neg h8] at hF
    exact wX4_takeOperator_111 hJ hR x1 S hF
  · rw [if_pos h8] at hF
    refine hJ.iload_n (pc := 94) dX4_takeOperator_94 rfl ?_
    refine hJ.bipush (pc := 95) 17 dX4_takeOperator_95 bc_17 ?_
    refine hJ.icmp_ne (pc := 97) 111 dX4_takeOperator_97 (by decide) (fun h9 => ?_) (fun h9 => ?_)
    · rw [if_neg h9] at hF
      exact wX4_takeOperator_111 hJ hR x1 S hF
    · rw [if_pos h9] at hF
      refine hJ.aload_n (pc := 100) dX4_takeOperator_100 rfl ?_
      obtain ⟨S11, h10, hF⟩ := bn_some hF
      refine hJ.cV (pc := 101) [] [] [] dX4_takeOperator_101 lk_X4_126 (ctX4_takeEndOfAge _ _ _ h10) rfl rfl rfl rfl ?_
      refine hJ.aload_n (pc := 104) dX4_takeOperator_104 rfl ?_
      obtain ⟨S13, h12, hF⟩ := bn_some hF
      refine hJ.cV (pc := 105) [] [] [] dX4_takeOperator_105 lk_X4_129 (ctX4_takeEndOfLine _ _ _ h12) rfl rfl rfl rfl ?_
      refine hJ.goto (pc := 108) 132 dX4_takeOperator_108 (by decide) ?_
      cases hF
      exact hR.v (pc := 132) dX4_takeOperator_132
set_option maxRecDepth 100000 in
set_option maxHeartbeats 4000000 in
theorem wX4_takeOperator_63 {J : Nat → Lv → List AV → Obs → Lay → Nat → Nat → Mem → Mem → Prop} (hJ : Cl RX4 cX4_takeOperator 2 4 85 0 0 none false J) {Sm S' : Mem} (hR : Rk cX4_takeOperator none none wl0 L0 0 0 S' Sm J) (x1 : Int32) (S : Mem) (hF : fX4_takeOperator_63 x1 S = some (S')) : J 63 [some (vr 4 0), some (vi x1)] [] wl0 L0 0 0 S Sm := by
  rw [fX4_takeOperator_63] at hF
  refine hJ.aload_n (pc := 63) dX4_takeOperator_63 rfl ?_
  refine hJ.gI (pc := 64) dX4_takeOperator_64 fi_X4_36 ?_
  refine hJ.if_ne (pc := 67) 87 dX4_takeOperator_67 (by decide) (fun h4 => ?_) (fun h4 => ?_)
  · rw [if_neg h4] at hF
    exact wX4_takeOperator_87 hJ hR x1 S hF
  · rw [if_pos h4] at hF
    refine hJ.iload_n (pc := 70) dX4_takeOperator_70 rfl ?_
    refine hJ.iconst (pc := 71) 4 dX4_takeOperator_71 ic_4 ?_
    refine hJ.icmp_ne (pc := 72) 87 dX4_takeOperator_72 (by decide) (fun h5 => ?_) (fun h5 => ?_)
    · rw [if_neg h5] at hF
      exact wX4_takeOperator_87 hJ hR x1 S hF
    · rw [if_pos h5] at hF
      refine hJ.aload_n (pc := 75) dX4_takeOperator_75 rfl ?_
      obtain ⟨S7, h6, hF⟩ := bn_some hF
      refine hJ.cV (pc := 76) [] [] [] dX4_takeOperator_76 lk_X4_126 (ctX4_takeEndOfAge _ _ _ h6) rfl rfl rfl rfl ?_
      refine hJ.aload_n (pc := 79) dX4_takeOperator_79 rfl ?_
      refine hJ.iconst (pc := 80) 3 dX4_takeOperator_80 ic_3 ?_
      refine hJ.pI (pc := 81) dX4_takeOperator_81 fp_X4_33 ?_
      refine hJ.goto (pc := 84) 132 dX4_takeOperator_84 (by decide) ?_
      cases hF
      exact hR.v (pc := 132) dX4_takeOperator_132
set_option maxRecDepth 100000 in
set_option maxHeartbeats 4000000 in
theorem ctX4_takeOperator (p0 : Int32) (S Sm : Mem) (S' : Mem) (hF : fX4_takeOperator p0 S = some (S')) : Ct yX4_takeOperator cX4_takeOperator 2 none 4 85 0 0 [vr 4 0, vi p0] wl0 L0 S Sm none wl0 L0 S' Sm := by
  refine Ct.of RX4 false (by decide) rfl (fun h => by cases h) (Nat.le_of_ble_eq_true rfl) (fun J hJ hR => ?_)
  rw [fX4_takeOperator] at hF
  show J 0 [some (vr 4 0), some (vi p0)] [] wl0 L0 0 0 S Sm
  refine hJ.iload_n (pc := 0) dX4_takeOperator_0 rfl ?_
  refine hJ.cS (pc := 1) [vi p0] [] [vi (fX9_isArithmetic p0)] dX4_takeOperator_1 lk_X4_117 (ctX9_isArithmetic p0 _ _ (fX9_isArithmetic p0) rfl) rfl rfl rfl rfl ?_
  refine hJ.if_eq (pc := 4) 30 dX4_takeOperator_4 (by decide) (fun h1 => ?_) (fun h1 => ?_)
  · rw [if_pos h1] at hF
    refine hJ.aload_n (pc := 30) dX4_takeOperator_30 rfl ?_
    refine hJ.gI (pc := 31) dX4_takeOperator_31 fi_X4_36 ?_
    refine hJ.iconst (pc := 34) 1 dX4_takeOperator_34 ic_1 ?_
    refine hJ.icmp_ne (pc := 35) 63 dX4_takeOperator_35 (by decide) (fun h2 => ?_) (fun h2 => ?_)
    · rw [if_neg h2] at hF
      exact wX4_takeOperator_63 hJ hR p0 S hF
    · rw [if_pos h2] at hF
      refine hJ.iload_n (pc := 38) dX4_takeOperator_38 rfl ?_
      refine hJ.cS (pc := 39) [vi p0] [] [vi (fX9_isComparison p0)] dX4_takeOperator_39 lk_X4_123 (ctX9_isComparison p0 _ _ (fX9_isComparison p0) rfl) rfl rfl rfl rfl ?_
      refine hJ.if_eq (pc := 42) 63 dX4_takeOperator_42 (by decide) (fun h3 => ?_) (fun h3 => ?_)
      · rw [if_pos h3] at hF
        exact wX4_takeOperator_63 hJ hR p0 S hF
      · rw [if_neg h3] at hF
        refine hJ.aload_n (pc := 45) dX4_takeOperator_45 rfl ?_
        refine hJ.iload_n (pc := 46) dX4_takeOperator_46 rfl ?_
        obtain ⟨S18, h17, hF⟩ := bn_some hF
        refine hJ.cV (pc := 47) [vi p0] [] [] dX4_takeOperator_47 lk_X4_120 (ctX4_putBinding p0 _ _ _ h17) rfl rfl rfl rfl ?_
        refine hJ.aload_n (pc := 50) dX4_takeOperator_50 rfl ?_
        refine hJ.iconst (pc := 51) 2 dX4_takeOperator_51 ic_2 ?_
        refine hJ.pI (pc := 52) dX4_takeOperator_52 fp_X4_36 ?_
        refine hJ.aload_n (pc := 55) dX4_takeOperator_55 rfl ?_
        refine hJ.iconst (pc := 56) 1 dX4_takeOperator_56 ic_1 ?_
        refine hJ.pI (pc := 57) dX4_takeOperator_57 fp_X4_33 ?_
        refine hJ.goto (pc := 60) 132 dX4_takeOperator_60 (by decide) ?_
        cases hF
        exact hR.v (pc := 132) dX4_takeOperator_132
  · rw [if_neg h1] at hF
    refine hJ.aload_n (pc := 7) dX4_takeOperator_7 rfl ?_
    refine hJ.iload_n (pc := 8) dX4_takeOperator_8 rfl ?_
    obtain ⟨S20, h19, hF⟩ := bn_some hF
    refine hJ.cV (pc := 9) [vi p0] [] [] dX4_takeOperator_9 lk_X4_120 (ctX4_putBinding p0 _ _ _ h19) rfl rfl rfl rfl ?_
    refine hJ.aload_n (pc := 12) dX4_takeOperator_12 rfl ?_
    refine hJ.iload_n (pc := 13) dX4_takeOperator_13 rfl ?_
    refine hJ.bipush (pc := 14) 21 dX4_takeOperator_14 bc_21 ?_
    refine hJ.icmp_ne (pc := 16) 23 dX4_takeOperator_16 (by decide) (fun h21 => ?_) (fun h21 => ?_)
    · rw [if_neg h21] at hF
      refine hJ.iconst (pc := 23) 1 dX4_takeOperator_23 ic_1 ?_
      refine hJ.pI (pc := 24) dX4_takeOperator_24 fp_X4_33 ?_
      refine hJ.goto (pc := 27) 132 dX4_takeOperator_27 (by decide) ?_
      cases hF
      exact hR.v (pc := 132) dX4_takeOperator_132
    · rw [if_pos h21] at hF
      refine hJ.iconst (pc := 19) 2 dX4_takeOperator_19 ic_2 ?_
      refine hJ.goto (pc := 20) 24 dX4_takeOperator_20 (by decide) ?_
      refine hJ.pI (pc := 24) dX4_takeOperator_24 fp_X4_33 ?_
      refine hJ.goto (pc := 27) 132 dX4_takeOperator_27 (by decide) ?_
      cases hF
      exact hR.v (pc := 132) dX4_takeOperator_132
set_option maxRecDepth 100000 in
set_option maxHeartbeats 4000000 in
theorem wX4_readAll_155 {J : Nat → Lv → List AV → Obs → Lay → Nat → Nat → Mem → Mem → Prop} (hJ : Cl RX4 cX4_readAll 3 6 135 0 0 none false J) {r : Int32} {Sm S' : Mem} (hR : Rk cX4_readAll (some .boolean) (some (vi r)) wl0 L0 0 0 S' Sm J) (S : Mem) (hF : fX4_readAll_155 S = some (r, S')) : J 155 [some (vr 4 0), none, none] [] wl0 L0 0 0 S Sm := by
  rw [fX4_readAll_155] at hF
  refine hJ.aload_n (pc := 155) dX4_readAll_155 rfl ?_
  refine hJ.gI (pc := 156) dX4_readAll_156 fi_X4_43 ?_
  refine hJ.if_ne (pc := 159) 166 dX4_readAll_159 (by decide) (fun h2 => ?_) (fun h2 => ?_)
  · rw [if_neg h2] at hF
    refine hJ.iconst (pc := 166) 0 dX4_readAll_166 ic_0 ?_
    cases hF
    exact hR.n (pc := 167) (by decide) dX4_readAll_167
  · rw [if_pos h2] at hF
    refine hJ.iconst (pc := 162) 1 dX4_readAll_162 ic_1 ?_
    refine hJ.goto (pc := 163) 167 dX4_readAll_163 (by decide) ?_
    cases hF
    exact hR.n (pc := 167) (by decide) dX4_readAll_167
set_option maxRecDepth 100000 in
set_option maxHeartbeats 4000000 in
theorem wX4_readAll_6 {J : Nat → Lv → List AV → Obs → Lay → Nat → Nat → Mem → Mem → Prop} (hJ : Cl RX4 cX4_readAll 3 6 135 0 0 none false J) {r : Int32} {Sm S' : Mem} (hR : Rk cX4_readAll (some .boolean) (some (vi r)) wl0 L0 0 0 S' Sm J) : ∀ (n : Nat) (x2 : Int32) (S : Mem), fX4_readAll_6 n x2 S = some (r, S') → J 6 [some (vr 4 0), some (vr 7 0), some (vi x2)] [] wl0 L0 0 0 S Sm := by
  intro n
  induction n with
  | zero =>
    intro x2 S hF
    rw [fX4_readAll_6] at hF
    cases hF
  | succ n ih =>
    intro x2 S hF
    rw [fX4_readAll_6] at hF
    refine hJ.iload_n (pc := 6) dX4_readAll_6 rfl ?_
    refine hJ.sipush (pc := 7) 400 dX4_readAll_7 sc_400 ?_
    refine hJ.icmp_gt (pc := 10) 155 dX4_readAll_10 (by decide) (fun h1 => ?_) (fun h1 => ?_)
    · rw [if_pos h1] at hF
      refine hJ.weak [some (vr 4 0), none, none] ⟨rfl, trivial⟩ ?_
      exact wX4_readAll_155 hJ hR S hF
    · rw [if_neg h1] at hF
      refine hJ.aload_n (pc := 13) dX4_readAll_13 rfl ?_
      refine hJ.gI (pc := 14) dX4_readAll_14 fi_X4_39 ?_
      refine hJ.if_ne (pc := 17) 155 dX4_readAll_17 (by decide) (fun h3 => ?_) (fun h3 => ?_)
      · rw [if_neg h3] at hF
        refine hJ.weak [some (vr 4 0), none, none] ⟨rfl, trivial⟩ ?_
        exact wX4_readAll_155 hJ hR S hF
      · rw [if_pos h3] at hF
        refine hJ.aload_n (pc := 20) dX4_readAll_20 rfl ?_
        refine hJ.gR (pc := 21) (k' := 9) (i' := 0) dX4_readAll_21 fr_X4_21 rfl ?_
        refine hJ.aload_n (pc := 24) dX4_readAll_24 rfl ?_
        obtain ⟨S5, h4, hF⟩ := bn_some hF
        refine hJ.cV (pc := 25) [vr 7 0] [] [] dX4_readAll_25 lk_X4_54 (ctX9_advance _ _ _ h4) rfl rfl rfl rfl ?_
        refine hJ.aload_n (pc := 28) dX4_readAll_28 rfl ?_
        refine hJ.gI (pc := 29) dX4_readAll_29 fi_X4_33 ?_
        by_cases h6 : (S5 4 0 4) = 0
        · rw [if_pos h6] at hF
          refine hJ.tswIn (pc := 32) (off := (36)) 68 dX4_readAll_32 (by rw [h6]; decide) (by rw [h6]; decide) (by rw [h6]; decide) (by decide) ?_
          refine hJ.aload_n (pc := 68) dX4_readAll_68 rfl ?_
          refine hJ.aload_n (pc := 69) dX4_readAll_69 rfl ?_
          refine hJ.gR (pc := 70) (k' := 9) (i' := 0) dX4_readAll_70 fr_X4_21 rfl ?_
          refine hJ.gI (pc := 73) dX4_readAll_73 fi_X4_58 ?_
          obtain ⟨S8, h7, hF⟩ := bn_some hF
          refine hJ.cV (pc := 76) [vi (S5 9 0 2)] [] [] dX4_readAll_76 lk_X4_61 (ctX4_takeLine (S5 9 0 2) _ _ _ h7) rfl rfl rfl rfl ?_
          refine hJ.goto (pc := 79) 149 dX4_readAll_79 (by decide) ?_
          refine hJ.iinc (pc := 149) (x2 + 1) [some (vr 4 0), some (vr 7 0), some (vi (x2 + 1))] dX4_readAll_149 (by decide) rfl (congrArg (fun z => x2 + z) ic_1) rfl ?_
          refine hJ.goto (pc := 152) 6 dX4_readAll_152 (by decide) ?_
          exact ih (x2 + 1) S8 hF
        · rw [if_neg h6] at hF
          by_cases h9 : (S5 4 0 4) = 1
          · rw [if_pos h9] at hF
            refine hJ.tswIn (pc := 32) (off := (50)) 82 dX4_readAll_32 (by rw [h9]; decide) (by rw [h9]; decide) (by rw [h9]; decide) (by decide) ?_
            refine hJ.aload_n (pc := 82) dX4_readAll_82 rfl ?_
            refine hJ.aload_n (pc := 83) dX4_readAll_83 rfl ?_
            refine hJ.gR (pc := 84) (k' := 9) (i' := 0) dX4_readAll_84 fr_X4_21 rfl ?_
            refine hJ.gI (pc := 87) dX4_readAll_87 fi_X4_58 ?_
            obtain ⟨S11, h10, hF⟩ := bn_some hF
            refine hJ.cV (pc := 90) [vi (S5 9 0 2)] [] [] dX4_readAll_90 lk_X4_65 (ctX4_takeUnit (S5 9 0 2) _ _ _ h10) rfl rfl rfl rfl ?_
            refine hJ.goto (pc := 93) 149 dX4_readAll_93 (by decide) ?_
            refine hJ.iinc (pc := 149) (x2 + 1) [some (vr 4 0), some (vr 7 0), some (vi (x2 + 1))] dX4_readAll_149 (by decide) rfl (congrArg (fun z => x2 + z) ic_1) rfl ?_
            refine hJ.goto (pc := 152) 6 dX4_readAll_152 (by decide) ?_
            exact ih (x2 + 1) S11 hF
          · rw [if_neg h9] at hF
            by_cases h12 : (S5 4 0 4) = 2
            · rw [if_pos h12] at hF
              refine hJ.tswIn (pc := 32) (off := (64)) 96 dX4_readAll_32 (by rw [h12]; decide) (by rw [h12]; decide) (by rw [h12]; decide) (by decide) ?_
              refine hJ.aload_n (pc := 96) dX4_readAll_96 rfl ?_
              refine hJ.aload_n (pc := 97) dX4_readAll_97 rfl ?_
              refine hJ.gR (pc := 98) (k' := 9) (i' := 0) dX4_readAll_98 fr_X4_21 rfl ?_
              refine hJ.gI (pc := 101) dX4_readAll_101 fi_X4_58 ?_
              obtain ⟨S14, h13, hF⟩ := bn_some hF
              refine hJ.cV (pc := 104) [vi (S5 9 0 2)] [] [] dX4_readAll_104 lk_X4_68 (ctX4_takeDivisor (S5 9 0 2) _ _ _ h13) rfl rfl rfl rfl ?_
              refine hJ.goto (pc := 107) 149 dX4_readAll_107 (by decide) ?_
              refine hJ.iinc (pc := 149) (x2 + 1) [some (vr 4 0), some (vr 7 0), some (vi (x2 + 1))] dX4_readAll_149 (by decide) rfl (congrArg (fun z => x2 + z) ic_1) rfl ?_
              refine hJ.goto (pc := 152) 6 dX4_readAll_152 (by decide) ?_
              exact ih (x2 + 1) S14 hF
            · rw [if_neg h12] at hF
              by_cases h15 : (S5 4 0 4) = 3
              · rw [if_pos h15] at hF
                refine hJ.tswIn (pc := 32) (off := (78)) 110 dX4_readAll_32 (by rw [h15]; decide) (by rw [h15]; decide) (by rw [h15]; decide) (by decide) ?_
                refine hJ.aload_n (pc := 110) dX4_readAll_110 rfl ?_
                refine hJ.aload_n (pc := 111) dX4_readAll_111 rfl ?_
                refine hJ.gR (pc := 112) (k' := 9) (i' := 0) dX4_readAll_112 fr_X4_21 rfl ?_
                refine hJ.gI (pc := 115) dX4_readAll_115 fi_X4_58 ?_
                obtain ⟨S17, h16, hF⟩ := bn_some hF
                refine hJ.cV (pc := 118) [vi (S5 9 0 2)] [] [] dX4_readAll_118 lk_X4_71 (ctX4_takeTest (S5 9 0 2) _ _ _ h16) rfl rfl rfl rfl ?_
                refine hJ.goto (pc := 121) 149 dX4_readAll_121 (by decide) ?_
                refine hJ.iinc (pc := 149) (x2 + 1) [some (vr 4 0), some (vr 7 0), some (vi (x2 + 1))] dX4_readAll_149 (by decide) rfl (congrArg (fun z => x2 + z) ic_1) rfl ?_
                refine hJ.goto (pc := 152) 6 dX4_readAll_152 (by decide) ?_
                exact ih (x2 + 1) S17 hF
              · rw [if_neg h15] at hF
                by_cases h18 : (S5 4 0 4) = 4
                · rw [if_pos h18] at hF
                  refine hJ.tswIn (pc := 32) (off := (92)) 124 dX4_readAll_32 (by rw [h18]; decide) (by rw [h18]; decide) (by rw [h18]; decide) (by decide) ?_
                  refine hJ.aload_n (pc := 124) dX4_readAll_124 rfl ?_
                  refine hJ.aload_n (pc := 125) dX4_readAll_125 rfl ?_
                  refine hJ.gR (pc := 126) (k' := 9) (i' := 0) dX4_readAll_126 fr_X4_21 rfl ?_
                  refine hJ.gI (pc := 129) dX4_readAll_129 fi_X4_58 ?_
                  obtain ⟨S20, h19, hF⟩ := bn_some hF
                  refine hJ.cV (pc := 132) [vi (S5 9 0 2)] [] [] dX4_readAll_132 lk_X4_74 (ctX4_takeOperator (S5 9 0 2) _ _ _ h19) rfl rfl rfl rfl ?_
                  refine hJ.goto (pc := 135) 149 dX4_readAll_135 (by decide) ?_
                  refine hJ.iinc (pc := 149) (x2 + 1) [some (vr 4 0), some (vr 7 0), some (vi (x2 + 1))] dX4_readAll_149 (by decide) rfl (congrArg (fun z => x2 + z) ic_1) rfl ?_
                  refine hJ.goto (pc := 152) 6 dX4_readAll_152 (by decide) ?_
                  exact ih (x2 + 1) S20 hF
                · rw [if_neg h18] at hF
                  refine hJ.tswD (pc := 32) 138 [0, 1, 2, 3, 4] dX4_readAll_32 (List.forall_mem_cons.mpr ⟨lv_neT (k := 0) (a := (0)) h6 (by decide), List.forall_mem_cons.mpr ⟨lv_neT (k := 1) (a := (1)) h9 (by decide), List.forall_mem_cons.mpr ⟨lv_neT (k := 2) (a := (2)) h12 (by decide), List.forall_mem_cons.mpr ⟨lv_neT (k := 3) (a := (3)) h15 (by decide), List.forall_mem_cons.mpr ⟨lv_neT (k := 4) (a := (4)) h18 (by decide), List.forall_mem_nil _⟩⟩⟩⟩⟩) (by decide) (by decide) ?_
                  refine hJ.aload_n (pc := 138) dX4_readAll_138 rfl ?_
                  refine hJ.aload_n (pc := 139) dX4_readAll_139 rfl ?_
                  refine hJ.gR (pc := 140) (k' := 9) (i' := 0) dX4_readAll_140 fr_X4_21 rfl ?_
                  refine hJ.gI (pc := 143) dX4_readAll_143 fi_X4_58 ?_
                  obtain ⟨S22, h21, hF⟩ := bn_some hF
                  refine hJ.cV (pc := 146) [vi (S5 9 0 2)] [] [] dX4_readAll_146 lk_X4_77 (ctX4_takeJoint (S5 9 0 2) _ _ _ h21) rfl rfl rfl rfl ?_
                  refine hJ.iinc (pc := 149) (x2 + 1) [some (vr 4 0), some (vr 7 0), some (vi (x2 + 1))] dX4_readAll_149 (by decide) rfl (congrArg (fun z => x2 + z) ic_1) rfl ?_
                  refine hJ.goto (pc := 152) 6 dX4_readAll_152 (by decide) ?_
                  exact ih (x2 + 1) S22 hF
set_option maxRecDepth 100000 in
set_option maxHeartbeats 4000000 in
theorem ctX4_readAll (S Sm : Mem) (r : Int32) (S' : Mem) (hF : fX4_readAll S = some (r, S')) : Ct yX4_readAll cX4_readAll 3 (some .boolean) 6 135 0 0 [vr 4 0, vr 7 0] wl0 L0 S Sm (some (vi r)) wl0 L0 S' Sm := by
  refine Ct.of RX4 false (by decide) rfl (fun h => by cases h) (Nat.le_of_ble_eq_true rfl) (fun J hJ hR => ?_)
  rw [fX4_readAll] at hF
  show J 0 [some (vr 4 0), some (vr 7 0), none] [] wl0 L0 0 0 S Sm
  refine hJ.aload_n (pc := 0) dX4_readAll_0 rfl ?_
  refine hJ.cV (pc := 1) [] [] [] dX4_readAll_1 lk_X4_49 (ctX4_begin _ _ (fX4_begin S) rfl) rfl rfl rfl rfl ?_
  refine hJ.iconst (pc := 4) 0 dX4_readAll_4 ic_0 ?_
  refine hJ.istore_n (pc := 5) [some (vr 4 0), some (vr 7 0), some (vi 0)] dX4_readAll_5 (by decide) rfl ?_
  exact wX4_readAll_6 hJ hR 5000 0 (fX4_begin S) hF
set_option maxRecDepth 100000 in
set_option maxHeartbeats 4000000 in
theorem ctX3_copyFrom (a0 : Nat) (b0 : Nat) (S Sm : Mem) (S' : Mem) (hF : fX3_copyFrom a0 b0 S = S') : Ct yX3_copyFrom cX3_copyFrom 2 none 1 40 0 0 [vr 3 a0, vr 3 b0] wl0 L0 S Sm none wl0 L0 S' Sm := by
  refine Ct.of RX3 false (by decide) rfl (fun h => by cases h) (Nat.le_of_ble_eq_true rfl) (fun J hJ hR => ?_)
  rw [fX3_copyFrom] at hF
  show J 0 [some (vr 3 a0), some (vr 3 b0)] [] wl0 L0 0 0 S Sm
  refine hJ.aload_n (pc := 0) dX3_copyFrom_0 rfl ?_
  refine hJ.gR (pc := 1) (k' := 21) (i' := b0) dX3_copyFrom_1 fr_X3_11 rfl ?_
  refine hJ.iconst (pc := 4) 0 dX3_copyFrom_4 ic_0 ?_
  refine hJ.aload_n (pc := 5) dX3_copyFrom_5 rfl ?_
  refine hJ.gR (pc := 6) (k' := 21) (i' := a0) dX3_copyFrom_6 fr_X3_11 rfl ?_
  refine hJ.iconst (pc := 9) 0 dX3_copyFrom_9 ic_0 ?_
  refine hJ.sipush (pc := 10) 400 dX3_copyFrom_10 sc_400 ?_
  refine hJ.acopy (pc := 13) 400 dX3_copyFrom_13 aw_X3_71 rfl rfl rfl rfl (by decide) (by decide) (by decide) (by decide) ⟨Nat.le_of_ble_eq_true rfl, Nat.le_of_ble_eq_true rfl⟩ ?_
  refine hJ.aload_n (pc := 16) dX3_copyFrom_16 rfl ?_
  refine hJ.gR (pc := 17) (k' := 22) (i' := b0) dX3_copyFrom_17 fr_X3_17 rfl ?_
  refine hJ.iconst (pc := 20) 0 dX3_copyFrom_20 ic_0 ?_
  refine hJ.aload_n (pc := 21) dX3_copyFrom_21 rfl ?_
  refine hJ.gR (pc := 22) (k' := 22) (i' := a0) dX3_copyFrom_22 fr_X3_17 rfl ?_
  refine hJ.iconst (pc := 25) 0 dX3_copyFrom_25 ic_0 ?_
  refine hJ.bipush (pc := 26) 16 dX3_copyFrom_26 bc_16 ?_
  refine hJ.acopy (pc := 28) 16 dX3_copyFrom_28 aw_X3_71 rfl rfl rfl rfl (by decide) (by decide) (by decide) (by decide) ⟨Nat.le_of_ble_eq_true rfl, Nat.le_of_ble_eq_true rfl⟩ ?_
  refine hJ.aload_n (pc := 31) dX3_copyFrom_31 rfl ?_
  refine hJ.gR (pc := 32) (k' := 23) (i' := b0) dX3_copyFrom_32 fr_X3_20 rfl ?_
  refine hJ.iconst (pc := 35) 0 dX3_copyFrom_35 ic_0 ?_
  refine hJ.aload_n (pc := 36) dX3_copyFrom_36 rfl ?_
  refine hJ.gR (pc := 37) (k' := 23) (i' := a0) dX3_copyFrom_37 fr_X3_20 rfl ?_
  refine hJ.iconst (pc := 40) 0 dX3_copyFrom_40 ic_0 ?_
  refine hJ.bipush (pc := 41) 16 dX3_copyFrom_41 bc_16 ?_
  refine hJ.acopy (pc := 43) 16 dX3_copyFrom_43 aw_X3_71 rfl rfl rfl rfl (by decide) (by decide) (by decide) (by decide) ⟨Nat.le_of_ble_eq_true rfl, Nat.le_of_ble_eq_true rfl⟩ ?_
  refine hJ.aload_n (pc := 46) dX3_copyFrom_46 rfl ?_
  refine hJ.gR (pc := 47) (k' := 24) (i' := b0) dX3_copyFrom_47 fr_X3_23 rfl ?_
  refine hJ.iconst (pc := 50) 0 dX3_copyFrom_50 ic_0 ?_
  refine hJ.aload_n (pc := 51) dX3_copyFrom_51 rfl ?_
  refine hJ.gR (pc := 52) (k' := 24) (i' := a0) dX3_copyFrom_52 fr_X3_23 rfl ?_
  refine hJ.iconst (pc := 55) 0 dX3_copyFrom_55 ic_0 ?_
  refine hJ.bipush (pc := 56) 16 dX3_copyFrom_56 bc_16 ?_
  refine hJ.acopy (pc := 58) 16 dX3_copyFrom_58 aw_X3_71 rfl rfl rfl rfl (by decide) (by decide) (by decide) (by decide) ⟨Nat.le_of_ble_eq_true rfl, Nat.le_of_ble_eq_true rfl⟩ ?_
  refine hJ.aload_n (pc := 61) dX3_copyFrom_61 rfl ?_
  refine hJ.aload_n (pc := 62) dX3_copyFrom_62 rfl ?_
  refine hJ.gI (pc := 63) dX3_copyFrom_63 fi_X3_29 ?_
  refine hJ.pI (pc := 66) dX3_copyFrom_66 fp_X3_29 ?_
  refine hJ.aload_n (pc := 69) dX3_copyFrom_69 rfl ?_
  refine hJ.aload_n (pc := 70) dX3_copyFrom_70 rfl ?_
  refine hJ.gI (pc := 71) dX3_copyFrom_71 fi_X3_33 ?_
  refine hJ.pI (pc := 74) dX3_copyFrom_74 fp_X3_33 ?_
  cases hF
  exact hR.v (pc := 77) dX3_copyFrom_77
set_option maxRecDepth 100000 in
set_option maxHeartbeats 4000000 in
theorem ctX11_text (S Sm : Mem) (r : Int32) (S' : Mem) (hF : fX11_text S = some (r, S')) : Ct yX11_text cX11_text 2 (some .int) 7 157 0 0 [vr 11 0] wl0 L0 S Sm (some (vi r)) wl0 L0 S' Sm := by
  refine Ct.of RX11 false (by decide) rfl (fun h => by cases h) (Nat.le_of_ble_eq_true rfl) (fun J hJ hR => ?_)
  rw [fX11_text] at hF
  show J 0 [some (vr 11 0), none] [] wl0 L0 0 0 S Sm
  refine hJ.aload_n (pc := 0) dX11_text_0 rfl ?_
  refine hJ.gR (pc := 1) (k' := 4) (i' := 0) dX11_text_1 fr_X11_33 rfl ?_
  refine hJ.aload_n (pc := 4) dX11_text_4 rfl ?_
  refine hJ.gR (pc := 5) (k' := 7) (i' := 0) dX11_text_5 fr_X11_26 rfl ?_
  obtain ⟨r3, S2, h1, hF⟩ := bd_some hF
  refine hJ.cV (pc := 8) [vr 7 0] [] [vi r3] dX11_text_8 lk_X11_164 (ctX4_readAll _ _ _ _ h1) rfl rfl rfl rfl ?_
  refine hJ.istore_n (pc := 11) [some (vr 11 0), some (vi r3)] dX11_text_11 (by decide) rfl ?_
  refine hJ.aload_n (pc := 12) dX11_text_12 rfl ?_
  refine hJ.gR (pc := 13) (k' := 7) (i' := 0) dX11_text_13 fr_X11_26 rfl ?_
  refine hJ.iconst (pc := 16) 0 dX11_text_16 ic_0 ?_
  refine hJ.pI (pc := 17) dX11_text_17 fp_X11_161 ?_
  refine hJ.iload_n (pc := 20) dX11_text_20 rfl ?_
  refine hJ.if_ne (pc := 21) 26 dX11_text_21 (by decide) (fun h4 => ?_) (fun h4 => ?_)
  · rw [if_neg h4] at hF
    refine hJ.aload_n (pc := 26) dX11_text_26 rfl ?_
    refine hJ.gR (pc := 27) (k' := 0) (i' := 0) dX11_text_27 fr_X11_10 rfl ?_
    refine hJ.gR (pc := 30) (k' := 3) (i' := 0) dX11_text_30 fr_X11_168 rfl ?_
    refine hJ.aload_n (pc := 33) dX11_text_33 rfl ?_
    refine hJ.gR (pc := 34) (k' := 4) (i' := 0) dX11_text_34 fr_X11_33 rfl ?_
    refine hJ.gR (pc := 37) (k' := 3) (i' := 2) dX11_text_37 fr_X11_172 rfl ?_
    refine hJ.cV (pc := 40) [vr 3 2] [] [] dX11_text_40 lk_X11_175 (ctX3_copyFrom 0 2 _ _ (fX3_copyFrom 0 2 (up S2 7 0 1 0)) rfl) rfl rfl rfl rfl ?_
    refine hJ.aload_n (pc := 43) dX11_text_43 rfl ?_
    refine hJ.gR (pc := 44) (k' := 0) (i' := 0) dX11_text_44 fr_X11_10 rfl ?_
    refine hJ.gR (pc := 47) (k' := 3) (i' := 0) dX11_text_47 fr_X11_168 rfl ?_
    refine hJ.gI (pc := 50) dX11_text_50 fi_X11_181 ?_
    cases hF
    exact hR.i (pc := 53) dX11_text_53
  · rw [if_pos h4] at hF
    refine hJ.iconst (pc := 24) (-1) dX11_text_24 ic_m1 ?_
    cases hF
    exact hR.i (pc := 25) dX11_text_25
set_option maxRecDepth 100000 in
set_option maxHeartbeats 4000000 in
theorem ctX11_fault (p0 : Int32) (S Sm : Mem) (r : Int32) (hF : fX11_fault p0 S = r) : Ct yX11_fault cX11_fault 2 (some .int) 0 0 0 0 [vr 11 0, vi p0] wl0 L0 S Sm (some (vi r)) wl0 L0 S Sm := by
  refine Ct.of RX11 false (by decide) rfl (fun h => by cases h) (Nat.le_of_ble_eq_true rfl) (fun J hJ hR => ?_)
  rw [fX11_fault] at hF
  show J 0 [some (vr 11 0), some (vi p0)] [] wl0 L0 0 0 S Sm
  refine hJ.iload_n (pc := 0) dX11_fault_0 rfl ?_
  by_cases h1 : p0 = 0
  · rw [if_pos h1] at hF
    refine hJ.lsw (pc := 1) (off := (27)) 28 dX11_fault_1 (by decide) (by rw [h1]; decide) (by decide) ?_
    refine hJ.aload_n (pc := 28) dX11_fault_28 rfl ?_
    refine hJ.gR (pc := 29) (k' := 4) (i' := 0) dX11_fault_29 fr_X11_33 rfl ?_
    refine hJ.gI (pc := 32) dX11_fault_32 fi_X11_184 ?_
    cases hF
    exact hR.i (pc := 35) dX11_fault_35
  · rw [if_neg h1] at hF
    by_cases h2 : p0 = 1
    · rw [if_pos h2] at hF
      refine hJ.lsw (pc := 1) (off := (35)) 36 dX11_fault_1 (by decide) (by rw [h2]; decide) (by decide) ?_
      refine hJ.aload_n (pc := 36) dX11_fault_36 rfl ?_
      refine hJ.gR (pc := 37) (k' := 4) (i' := 0) dX11_fault_37 fr_X11_33 rfl ?_
      refine hJ.gI (pc := 40) dX11_fault_40 fi_X11_187 ?_
      cases hF
      exact hR.i (pc := 43) dX11_fault_43
    · rw [if_neg h2] at hF
      refine hJ.lsw (pc := 1) (off := (43)) 44 dX11_fault_1 (by decide) (by show Op.lookupswitch.offset [(0, 27), (1, 35)] _ _ = _; rw [lv_osw (k := 0) h1 (by decide), lv_osw (k := 1) h2 (by decide)]; rfl) (by decide) ?_
      refine hJ.iconst (pc := 44) (-1) dX11_fault_44 ic_m1 ?_
      cases hF
      exact hR.i (pc := 45) dX11_fault_45
set_option maxRecDepth 100000 in
set_option maxHeartbeats 4000000 in
theorem ctX11_age (p0 : Int32) (p1 : Int32) (S Sm : Mem) (r : Int32) (S' : Mem) (hF : fX11_age p0 p1 S = some (r, S')) : Ct yX11_age cX11_age 4 (some .int) 4 94 0 0 [vr 11 0, vi p0, vi p1] wl0 L0 S Sm (some (vi r)) wl0 L0 S' Sm := by
  refine Ct.of RX11 false (by decide) rfl (fun h => by cases h) (Nat.le_of_ble_eq_true rfl) (fun J hJ hR => ?_)
  rw [fX11_age] at hF
  show J 0 [some (vr 11 0), some (vi p0), some (vi p1), none] [] wl0 L0 0 0 S Sm
  refine hJ.aload_n (pc := 0) dX11_age_0 rfl ?_
  refine hJ.gR (pc := 1) (k' := 0) (i' := 0) dX11_age_1 fr_X11_10 rfl ?_
  refine hJ.iload_n (pc := 4) dX11_age_4 rfl ?_
  obtain ⟨r2, h1, hF⟩ := bn_some hF
  refine hJ.cV (pc := 5) [vi p0] [] [vq 5 r2] dX11_age_5 lk_X11_102 (ctX0_paperAt p0 _ _ _ h1) rfl rfl rfl rfl ?_
  cases r2 with
  | none =>
    rw [mt_n] at hF
    refine hJ.astore_n (pc := 8) [some (vr 11 0), some (vi p0), some (vi p1), some (vn)] dX11_age_8 (by decide) rfl ?_
    refine hJ.aload_n (pc := 9) dX11_age_9 rfl ?_
    refine hJ.ifnullY (pc := 10) 30 dX11_age_10 (by decide) ?_
    refine hJ.iconst (pc := 30) (-1) dX11_age_30 ic_m1 ?_
    cases hF
    exact hR.i (pc := 31) dX11_age_31
  | some i3 =>
    rw [mt_s] at hF
    refine hJ.astore_n (pc := 8) [some (vr 11 0), some (vi p0), some (vi p1), some (vr 5 i3)] dX11_age_8 (by decide) rfl ?_
    refine hJ.aload_n (pc := 9) dX11_age_9 rfl ?_
    refine hJ.ifnullN (pc := 10) dX11_age_10 ?_
    refine hJ.iload_n (pc := 13) dX11_age_13 rfl ?_
    refine hJ.aload_n (pc := 14) dX11_age_14 rfl ?_
    refine hJ.gR (pc := 15) (k' := 0) (i' := 0) dX11_age_15 fr_X11_10 rfl ?_
    refine hJ.gI (pc := 18) dX11_age_18 fi_X11_80 ?_
    refine hJ.sipush (pc := 21) 9999 dX11_age_21 sc_9999 ?_
    refine hJ.cS (pc := 24) [vi p1, vi (S 0 0 8), vi 9999] [] [vi (fX11_within p1 (S 0 0 8) 9999)] dX11_age_24 lk_X11_56 (ctX11_within p1 (S 0 0 8) 9999 _ _ (fX11_within p1 (S 0 0 8) 9999) rfl) rfl rfl rfl rfl ?_
    refine hJ.if_ne (pc := 27) 32 dX11_age_27 (by decide) (fun h4 => ?_) (fun h4 => ?_)
    · rw [if_neg h4] at hF
      refine hJ.aload_n (pc := 32) dX11_age_32 rfl ?_
      refine hJ.gR (pc := 33) (k' := 0) (i' := 0) dX11_age_33 fr_X11_10 rfl ?_
      refine hJ.aload_n (pc := 36) dX11_age_36 rfl ?_
      refine hJ.iload_n (pc := 37) dX11_age_37 rfl ?_
      obtain ⟨r7, S6, h5, hF⟩ := bd_some hF
      refine hJ.cV (pc := 38) [vr 5 i3, vi p1] [] [vi r7] dX11_age_38 lk_X11_120 (ctX0_ageOf i3 p1 _ _ _ _ h5) rfl rfl rfl rfl ?_
      cases hF
      exact hR.i (pc := 41) dX11_age_41
    · rw [if_pos h4] at hF
      refine hJ.iconst (pc := 30) (-1) dX11_age_30 ic_m1 ?_
      cases hF
      exact hR.i (pc := 31) dX11_age_31
set_option maxRecDepth 100000 in
set_option maxHeartbeats 4000000 in
theorem wX0_stayOf_12 {J : Nat → Lv → List AV → Obs → Lay → Nat → Nat → Mem → Mem → Prop} (hJ : Cl RX0 cX0_stayOf 4 4 94 0 0 none false J) {r : Int32} {Sm S' : Mem} (hR : Rk cX0_stayOf (some .int) (some (vi r)) wl0 L0 0 0 S' Sm J) : ∀ (n : Nat) (c1 : Nat) (x2 : Int32) (x3 : Int32) (S : Mem), fX0_stayOf_12 n c1 x2 x3 S = some (r, S') → J 12 [some (vr 0 0), some (vr 5 c1), some (vi x2), some (vi x3)] [] wl0 L0 0 0 S Sm := by
  intro n
  induction n with
  | zero =>
    intro c1 x2 x3 S hF
    rw [fX0_stayOf_12] at hF
    cases hF
  | succ n ih =>
    intro c1 x2 x3 S hF
    rw [fX0_stayOf_12] at hF
    refine hJ.iload_n (pc := 12) dX0_stayOf_12 rfl ?_
    refine hJ.sipush (pc := 13) 400 dX0_stayOf_13 sc_400 ?_
    refine hJ.icmp_ge (pc := 16) 40 dX0_stayOf_16 (by decide) (fun h4 => ?_) (fun h4 => ?_)
    · rw [if_pos h4] at hF
      refine hJ.iload_n (pc := 40) dX0_stayOf_40 rfl ?_
      cases hF
      exact hR.i (pc := 41) dX0_stayOf_41
    · rw [if_neg h4] at hF
      refine hJ.aload_n (pc := 19) dX0_stayOf_19 rfl ?_
      refine hJ.aload_n (pc := 20) dX0_stayOf_20 rfl ?_
      refine hJ.aload_n (pc := 21) dX0_stayOf_21 rfl ?_
      refine hJ.gI (pc := 22) dX0_stayOf_22 fi_X0_57 ?_
      refine hJ.iload_n (pc := 25) dX0_stayOf_25 rfl ?_
      refine hJ.iadd (pc := 26) dX0_stayOf_26 ?_
      obtain ⟨r7, S6, h5, hF⟩ := bd_some hF
      refine hJ.cV (pc := 27) [vr 5 c1, vi ((S 0 0 8) + x3)] [] [vi r7] dX0_stayOf_27 lk_X0_112 (ctX0_ageOf c1 ((S 0 0 8) + x3) _ _ _ _ h5) rfl rfl rfl rfl ?_
      refine hJ.iload_n (pc := 30) dX0_stayOf_30 rfl ?_
      refine hJ.icmp_ne (pc := 31) 40 dX0_stayOf_31 (by decide) (fun h8 => ?_) (fun h8 => ?_)
      · rw [if_neg h8] at hF
        refine hJ.iload_n (pc := 40) dX0_stayOf_40 rfl ?_
        cases hF
        exact hR.i (pc := 41) dX0_stayOf_41
      · rw [if_pos h8] at hF
        refine hJ.iinc (pc := 34) (x3 + 1) [some (vr 0 0), some (vr 5 c1), some (vi x2), some (vi (x3 + 1))] dX0_stayOf_34 (by decide) rfl (congrArg (fun z => x3 + z) ic_1) rfl ?_
        refine hJ.goto (pc := 37) 12 dX0_stayOf_37 (by decide) ?_
        exact ih c1 x2 (x3 + 1) S6 hF
set_option maxRecDepth 100000 in
set_option maxHeartbeats 4000000 in
theorem ctX0_stayOf (b0 : Nat) (S Sm : Mem) (r : Int32) (S' : Mem) (hF : fX0_stayOf b0 S = some (r, S')) : Ct yX0_stayOf cX0_stayOf 4 (some .int) 4 94 0 0 [vr 0 0, vr 5 b0] wl0 L0 S Sm (some (vi r)) wl0 L0 S' Sm := by
  refine Ct.of RX0 false (by decide) rfl (fun h => by cases h) (Nat.le_of_ble_eq_true rfl) (fun J hJ hR => ?_)
  rw [fX0_stayOf] at hF
  show J 0 [some (vr 0 0), some (vr 5 b0), none, none] [] wl0 L0 0 0 S Sm
  refine hJ.aload_n (pc := 0) dX0_stayOf_0 rfl ?_
  refine hJ.aload_n (pc := 1) dX0_stayOf_1 rfl ?_
  refine hJ.aload_n (pc := 2) dX0_stayOf_2 rfl ?_
  refine hJ.gI (pc := 3) dX0_stayOf_3 fi_X0_57 ?_
  obtain ⟨r3, S2, h1, hF⟩ := bd_some hF
  refine hJ.cV (pc := 6) [vr 5 b0, vi (S 0 0 8)] [] [vi r3] dX0_stayOf_6 lk_X0_112 (ctX0_ageOf b0 (S 0 0 8) _ _ _ _ h1) rfl rfl rfl rfl ?_
  refine hJ.istore_n (pc := 9) [some (vr 0 0), some (vr 5 b0), some (vi r3), none] dX0_stayOf_9 (by decide) rfl ?_
  refine hJ.iconst (pc := 10) 1 dX0_stayOf_10 ic_1 ?_
  refine hJ.istore_n (pc := 11) [some (vr 0 0), some (vr 5 b0), some (vi r3), some (vi 1)] dX0_stayOf_11 (by decide) rfl ?_
  exact wX0_stayOf_12 hJ hR 5000 b0 r3 1 S2 hF
