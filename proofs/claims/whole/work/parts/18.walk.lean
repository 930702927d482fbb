set_option maxRecDepth 100000 in
set_option maxHeartbeats 4000000 in
theorem ctX11_of (p0 : Int32) (p1 : Int32) (S Sm : Mem) (r : Int32) (S' : Mem) (hF : fX11_of p0 p1 S = some (r, S')) : Ct yX11_of cX11_of 4 (some .int) 5 117 0 0 [vr 11 0, vi p0, vi p1] wl0 L0 S Sm (some (vi r)) wl0 L0 S' Sm := by
  refine Ct.of RX11 false (by decide) rfl (fun h => by cases h) (Nat.le_of_ble_eq_true rfl) (fun J hJ hR => ?_)
  rw [fX11_of] at hF
  show J 0 [some (vr 11 0), some (vi p0), some (vi p1), none] [] wl0 L0 0 0 S Sm
  refine hJ.aload_n (pc := 0) dX11_of_0 rfl ?_
  refine hJ.gR (pc := 1) (k' := 0) (i' := 0) dX11_of_1 fr_X11_10 rfl ?_
  refine hJ.iload_n (pc := 4) dX11_of_4 rfl ?_
  obtain ⟨r2, h1, hF⟩ := bn_some hF
  refine hJ.cV (pc := 5) [vi p0] [] [vq 5 r2] dX11_of_5 lk_X11_102 (ctX0_paperAt p0 _ _ _ h1) rfl rfl rfl rfl ?_
  cases r2 with
  | none =>
    rw [mt_n] at hF
    refine hJ.astore_n (pc := 8) [some (vr 11 0), some (vi p0), some (vi p1), some (vn)] dX11_of_8 (by decide) rfl ?_
    refine hJ.aload_n (pc := 9) dX11_of_9 rfl ?_
    refine hJ.ifnonnullN (pc := 10) dX11_of_10 ?_
    refine hJ.bipush (pc := 13) (-2) dX11_of_13 bc_m2 ?_
    cases hF
    exact hR.i (pc := 15) dX11_of_15
  | some i3 =>
    rw [mt_s] at hF
    refine hJ.astore_n (pc := 8) [some (vr 11 0), some (vi p0), some (vi p1), some (vr 5 i3)] dX11_of_8 (by decide) rfl ?_
    refine hJ.aload_n (pc := 9) dX11_of_9 rfl ?_
    refine hJ.ifnonnullY (pc := 10) 16 dX11_of_10 (by decide) ?_
    refine hJ.iload_n (pc := 16) dX11_of_16 rfl ?_
    by_cases h4 : p1 = 0
    · rw [if_pos h4] at hF
      refine hJ.tswIn (pc := 17) (off := (47)) 64 dX11_of_17 (by rw [h4]; decide) (by rw [h4]; decide) (by rw [h4]; decide) (by decide) ?_
      refine hJ.aload_n (pc := 64) dX11_of_64 rfl ?_
      refine hJ.gI (pc := 65) dX11_of_65 fi_X11_106 ?_
      cases hF
      exact hR.i (pc := 68) dX11_of_68
    · rw [if_neg h4] at hF
      by_cases h5 : p1 = 1
      · rw [if_pos h5] at hF
        refine hJ.tswIn (pc := 17) (off := (52)) 69 dX11_of_17 (by rw [h5]; decide) (by rw [h5]; decide) (by rw [h5]; decide) (by decide) ?_
        refine hJ.aload_n (pc := 69) dX11_of_69 rfl ?_
        refine hJ.gI (pc := 70) dX11_of_70 fi_X11_190 ?_
        cases hF
        exact hR.i (pc := 73) dX11_of_73
      · rw [if_neg h5] at hF
        by_cases h6 : p1 = 2
        · rw [if_pos h6] at hF
          refine hJ.tswIn (pc := 17) (off := (57)) 74 dX11_of_17 (by rw [h6]; decide) (by rw [h6]; decide) (by rw [h6]; decide) (by decide) ?_
          refine hJ.aload_n (pc := 74) dX11_of_74 rfl ?_
          refine hJ.gI (pc := 75) dX11_of_75 fi_X11_193 ?_
          cases hF
          exact hR.i (pc := 78) dX11_of_78
        · rw [if_neg h6] at hF
          by_cases h7 : p1 = 3
          · rw [if_pos h7] at hF
            refine hJ.tswIn (pc := 17) (off := (62)) 79 dX11_of_17 (by rw [h7]; decide) (by rw [h7]; decide) (by rw [h7]; decide) (by decide) ?_
            refine hJ.aload_n (pc := 79) dX11_of_79 rfl ?_
            refine hJ.gI (pc := 80) dX11_of_80 fi_X11_196 ?_
            cases hF
            exact hR.i (pc := 83) dX11_of_83
          · rw [if_neg h7] at hF
            by_cases h8 : p1 = 4
            · rw [if_pos h8] at hF
              refine hJ.tswIn (pc := 17) (off := (67)) 84 dX11_of_17 (by rw [h8]; decide) (by rw [h8]; decide) (by rw [h8]; decide) (by decide) ?_
              refine hJ.aload_n (pc := 84) dX11_of_84 rfl ?_
              refine hJ.gI (pc := 85) dX11_of_85 fi_X11_199 ?_
              cases hF
              exact hR.i (pc := 88) dX11_of_88
            · rw [if_neg h8] at hF
              by_cases h9 : p1 = 5
              · rw [if_pos h9] at hF
                refine hJ.tswIn (pc := 17) (off := (72)) 89 dX11_of_17 (by rw [h9]; decide) (by rw [h9]; decide) (by rw [h9]; decide) (by decide) ?_
                refine hJ.aload_n (pc := 89) dX11_of_89 rfl ?_
                refine hJ.gI (pc := 90) dX11_of_90 fi_X11_202 ?_
                cases hF
                exact hR.i (pc := 93) dX11_of_93
              · rw [if_neg h9] at hF
                by_cases h10 : p1 = 6
                · rw [if_pos h10] at hF
                  refine hJ.tswIn (pc := 17) (off := (77)) 94 dX11_of_17 (by rw [h10]; decide) (by rw [h10]; decide) (by rw [h10]; decide) (by decide) ?_
                  refine hJ.aload_n (pc := 94) dX11_of_94 rfl ?_
                  refine hJ.gI (pc := 95) dX11_of_95 fi_X11_148 ?_
                  cases hF
                  exact hR.i (pc := 98) dX11_of_98
                · rw [if_neg h10] at hF
                  by_cases h11 : p1 = 7
                  · rw [if_pos h11] at hF
                    refine hJ.tswIn (pc := 17) (off := (82)) 99 dX11_of_17 (by rw [h11]; decide) (by rw [h11]; decide) (by rw [h11]; decide) (by decide) ?_
                    refine hJ.aload_n (pc := 99) dX11_of_99 rfl ?_
                    refine hJ.gR (pc := 100) (k' := 0) (i' := 0) dX11_of_100 fr_X11_10 rfl ?_
                    refine hJ.aload_n (pc := 103) dX11_of_103 rfl ?_
                    obtain ⟨r14, S13, h12, hF⟩ := bd_some hF
                    refine hJ.cV (pc := 104) [vr 5 i3] [] [vi r14] dX11_of_104 lk_X11_205 (ctX0_stayOf i3 _ _ _ _ h12) rfl rfl rfl rfl ?_
                    cases hF
                    exact hR.i (pc := 107) dX11_of_107
                  · rw [if_neg h11] at hF
                    refine hJ.tswD (pc := 17) 108 [0, 1, 2, 3, 4, 5, 6, 7] dX11_of_17 (List.forall_mem_cons.mpr ⟨lv_neT (k := 0) (a := (0)) h4 (by decide), List.forall_mem_cons.mpr ⟨lv_neT (k := 1) (a := (1)) h5 (by decide), List.forall_mem_cons.mpr ⟨lv_neT (k := 2) (a := (2)) h6 (by decide), List.forall_mem_cons.mpr ⟨lv_neT (k := 3) (a := (3)) h7 (by decide), List.forall_mem_cons.mpr ⟨lv_neT (k := 4) (a := (4)) h8 (by decide), List.forall_mem_cons.mpr ⟨lv_neT (k := 5) (a := (5)) h9 (by decide), List.forall_mem_cons.mpr ⟨lv_neT (k := 6) (a := (6)) h10 (by decide), List.forall_mem_cons.mpr ⟨lv_neT (k := 7) (a := (7)) h11 (by decide), List.forall_mem_nil _⟩⟩⟩⟩⟩⟩⟩⟩) (by decide) (by decide) ?_
                    refine hJ.bipush (pc := 108) (-2) dX11_of_108 bc_m2 ?_
                    cases hF
                    exact hR.i (pc := 110) dX11_of_110
set_option maxRecDepth 100000 in
set_option maxHeartbeats 4000000 in
theorem ctX11_who (p0 : Int32) (p1 : Int32) (S Sm : Mem) (r : Int32) (hF : fX11_who p0 p1 S = some r) : Ct yX11_who cX11_who 4 (some .int) 2 43 0 0 [vr 11 0, vi p0, vi p1] wl0 L0 S Sm (some (vi r)) wl0 L0 S Sm := by
  refine Ct.of RX11 false (by decide) rfl (fun h => by cases h) (Nat.le_of_ble_eq_true rfl) (fun J hJ hR => ?_)
  rw [fX11_who] at hF
  show J 0 [some (vr 11 0), some (vi p0), some (vi p1), none] [] wl0 L0 0 0 S Sm
  refine hJ.aload_n (pc := 0) dX11_who_0 rfl ?_
  refine hJ.gR (pc := 1) (k' := 0) (i' := 0) dX11_who_1 fr_X11_10 rfl ?_
  refine hJ.iload_n (pc := 4) dX11_who_4 rfl ?_
  obtain ⟨r2, h1, hF⟩ := bn_some hF
  refine hJ.cV (pc := 5) [vi p0] [] [vq 6 r2] dX11_who_5 lk_X11_76 (ctX0_readerAt p0 _ _ _ h1) rfl rfl rfl rfl ?_
  cases r2 with
  | none =>
    rw [mt_n] at hF
    refine hJ.astore_n (pc := 8) [some (vr 11 0), some (vi p0), some (vi p1), some (vn)] dX11_who_8 (by decide) rfl ?_
    refine hJ.aload_n (pc := 9) dX11_who_9 rfl ?_
    refine hJ.ifnonnullN (pc := 10) dX11_who_10 ?_
    refine hJ.ldc (pc := 13) (v := (-100000)) dX11_who_13 kw_X11_209 ?_
    cases hF
    exact hR.i (pc := 15) dX11_who_15
  | some i3 =>
    rw [mt_s] at hF
    refine hJ.astore_n (pc := 8) [some (vr 11 0), some (vi p0), some (vi p1), some (vr 6 i3)] dX11_who_8 (by decide) rfl ?_
    refine hJ.aload_n (pc := 9) dX11_who_9 rfl ?_
    refine hJ.ifnonnullY (pc := 10) 16 dX11_who_10 (by decide) ?_
    refine hJ.iload_n (pc := 16) dX11_who_16 rfl ?_
    by_cases h4 : p1 = 0
    · rw [if_pos h4] at hF
      refine hJ.tswIn (pc := 17) (off := (47)) 64 dX11_who_17 (by rw [h4]; decide) (by rw [h4]; decide) (by rw [h4]; decide) (by decide) ?_
      refine hJ.aload_n (pc := 64) dX11_who_64 rfl ?_
      refine hJ.gI (pc := 65) dX11_who_65 fi_X11_210 ?_
      cases hF
      exact hR.i (pc := 68) dX11_who_68
    · rw [if_neg h4] at hF
      by_cases h5 : p1 = 1
      · rw [if_pos h5] at hF
        refine hJ.tswIn (pc := 17) (off := (52)) 69 dX11_who_17 (by rw [h5]; decide) (by rw [h5]; decide) (by rw [h5]; decide) (by decide) ?_
        refine hJ.aload_n (pc := 69) dX11_who_69 rfl ?_
        refine hJ.gI (pc := 70) dX11_who_70 fi_X11_213 ?_
        cases hF
        exact hR.i (pc := 73) dX11_who_73
      · rw [if_neg h5] at hF
        by_cases h6 : p1 = 2
        · rw [if_pos h6] at hF
          refine hJ.tswIn (pc := 17) (off := (57)) 74 dX11_who_17 (by rw [h6]; decide) (by rw [h6]; decide) (by rw [h6]; decide) (by decide) ?_
          refine hJ.aload_n (pc := 74) dX11_who_74 rfl ?_
          refine hJ.gI (pc := 75) dX11_who_75 fi_X11_216 ?_
          cases hF
          exact hR.i (pc := 78) dX11_who_78
        · rw [if_neg h6] at hF
          by_cases h7 : p1 = 3
          · rw [if_pos h7] at hF
            refine hJ.tswIn (pc := 17) (off := (62)) 79 dX11_who_17 (by rw [h7]; decide) (by rw [h7]; decide) (by rw [h7]; decide) (by decide) ?_
            refine hJ.aload_n (pc := 79) dX11_who_79 rfl ?_
            refine hJ.gI (pc := 80) dX11_who_80 fi_X11_219 ?_
            cases hF
            exact hR.i (pc := 83) dX11_who_83
          · rw [if_neg h7] at hF
            by_cases h8 : p1 = 4
            · rw [if_pos h8] at hF
              refine hJ.tswIn (pc := 17) (off := (67)) 84 dX11_who_17 (by rw [h8]; decide) (by rw [h8]; decide) (by rw [h8]; decide) (by decide) ?_
              refine hJ.aload_n (pc := 84) dX11_who_84 rfl ?_
              refine hJ.gI (pc := 85) dX11_who_85 fi_X11_222 ?_
              cases hF
              exact hR.i (pc := 88) dX11_who_88
            · rw [if_neg h8] at hF
              by_cases h9 : p1 = 5
              · rw [if_pos h9] at hF
                refine hJ.tswIn (pc := 17) (off := (72)) 89 dX11_who_17 (by rw [h9]; decide) (by rw [h9]; decide) (by rw [h9]; decide) (by decide) ?_
                refine hJ.aload_n (pc := 89) dX11_who_89 rfl ?_
                refine hJ.aload_n (pc := 90) dX11_who_90 rfl ?_
                refine hJ.gR (pc := 91) (k' := 0) (i' := 0) dX11_who_91 fr_X11_10 rfl ?_
                refine hJ.gI (pc := 94) dX11_who_94 fi_X11_80 ?_
                refine hJ.cV (pc := 97) [vi (S 0 0 8)] [] [vi (fX6_livesOn i3 (S 0 0 8) S)] dX11_who_97 lk_X11_117 (ctX6_livesOn i3 (S 0 0 8) _ _ (fX6_livesOn i3 (S 0 0 8) S) rfl) rfl rfl rfl rfl ?_
                refine hJ.if_eq (pc := 100) 107 dX11_who_100 (by decide) (fun h10 => ?_) (fun h10 => ?_)
                · rw [if_pos h10] at hF
                  refine hJ.iconst (pc := 107) 0 dX11_who_107 ic_0 ?_
                  cases hF
                  exact hR.i (pc := 108) dX11_who_108
                · rw [if_neg h10] at hF
                  refine hJ.iconst (pc := 103) 1 dX11_who_103 ic_1 ?_
                  refine hJ.goto (pc := 104) 108 dX11_who_104 (by decide) ?_
                  cases hF
                  exact hR.i (pc := 108) dX11_who_108
              · rw [if_neg h9] at hF
                by_cases h11 : p1 = 6
                · rw [if_pos h11] at hF
                  refine hJ.tswIn (pc := 17) (off := (92)) 109 dX11_who_17 (by rw [h11]; decide) (by rw [h11]; decide) (by rw [h11]; decide) (by decide) ?_
                  refine hJ.aload_n (pc := 109) dX11_who_109 rfl ?_
                  refine hJ.aload_n (pc := 110) dX11_who_110 rfl ?_
                  refine hJ.gR (pc := 111) (k' := 0) (i' := 0) dX11_who_111 fr_X11_10 rfl ?_
                  refine hJ.gI (pc := 114) dX11_who_114 fi_X11_80 ?_
                  refine hJ.cV (pc := 117) [vi (S 0 0 8)] [] [vi (fX6_yearsOn i3 (S 0 0 8) S)] dX11_who_117 lk_X11_138 (ctX6_yearsOn i3 (S 0 0 8) _ _ (fX6_yearsOn i3 (S 0 0 8) S) rfl) rfl rfl rfl rfl ?_
                  cases hF
                  exact hR.i (pc := 120) dX11_who_120
                · rw [if_neg h11] at hF
                  by_cases h12 : p1 = 7
                  · rw [if_pos h12] at hF
                    refine hJ.tswIn (pc := 17) (off := (104)) 121 dX11_who_17 (by rw [h12]; decide) (by rw [h12]; decide) (by rw [h12]; decide) (by decide) ?_
                    refine hJ.aload_n (pc := 121) dX11_who_121 rfl ?_
                    refine hJ.gR (pc := 122) (k' := 0) (i' := 0) dX11_who_122 fr_X11_10 rfl ?_
                    refine hJ.iload_n (pc := 125) dX11_who_125 rfl ?_
                    obtain ⟨r14, h13, hF⟩ := bn_some hF
                    refine hJ.cV (pc := 126) [vi p0] [] [vi r14] dX11_who_126 lk_X11_225 (ctX0_leasesOf p0 _ _ _ h13) rfl rfl rfl rfl ?_
                    cases hF
                    exact hR.i (pc := 129) dX11_who_129
                  · rw [if_neg h12] at hF
                    refine hJ.tswD (pc := 17) 130 [0, 1, 2, 3, 4, 5, 6, 7] dX11_who_17 (List.forall_mem_cons.mpr ⟨lv_neT (k := 0) (a := (0)) h4 (by decide), List.forall_mem_cons.mpr ⟨lv_neT (k := 1) (a := (1)) h5 (by decide), List.forall_mem_cons.mpr ⟨lv_neT (k := 2) (a := (2)) h6 (by decide), List.forall_mem_cons.mpr ⟨lv_neT (k := 3) (a := (3)) h7 (by decide), List.forall_mem_cons.mpr ⟨lv_neT (k := 4) (a := (4)) h8 (by decide), List.forall_mem_cons.mpr ⟨lv_neT (k := 5) (a := (5)) h9 (by decide), List.forall_mem_cons.mpr ⟨lv_neT (k := 6) (a := (6)) h11 (by decide), List.forall_mem_cons.mpr ⟨lv_neT (k := 7) (a := (7)) h12 (by decide), List.forall_mem_nil _⟩⟩⟩⟩⟩⟩⟩⟩) (by decide) (by decide) ?_
                    refine hJ.ldc (pc := 130) (v := (-100000)) dX11_who_130 kw_X11_209 ?_
                    cases hF
                    exact hR.i (pc := 132) dX11_who_132
set_option maxRecDepth 100000 in
set_option maxHeartbeats 4000000 in
theorem wX1_entry_28 {J : Nat → Lv → List AV → Obs → Lay → Nat → Nat → Mem → Mem → Prop} (hJ : Cl RX1 cX1_entry 4 1 22 0 0 none false J) {r : Int32} {Sm S : Mem} (hR : Rk cX1_entry (some .int) (some (vi r)) wl0 L0 0 0 S Sm J) (x1 : Int32) (x2 : Int32) (y0 : Int32) (hF : fX1_entry_28 x1 x2 y0 S = some r) : J 28 [some (vr 1 0), some (vi x1), some (vi x2), none] [vi y0] wl0 L0 0 0 S Sm := by
  rw [fX1_entry_28] at hF
  refine hJ.istore_n (pc := 28) [some (vr 1 0), some (vi x1), some (vi x2), some (vi y0)] dX1_entry_28 (by decide) rfl ?_
  refine hJ.iload_n (pc := 29) dX1_entry_29 rfl ?_
  refine hJ.if_eq (pc := 30) 46 dX1_entry_30 (by decide) (fun h2 => ?_) (fun h2 => ?_)
  · rw [if_pos h2] at hF
    refine hJ.iconst (pc := 46) (-1) dX1_entry_46 ic_m1 ?_
    cases hF
    exact hR.i (pc := 47) dX1_entry_47
  · rw [if_neg h2] at hF
    refine hJ.aload_n (pc := 33) dX1_entry_33 rfl ?_
    refine hJ.gR (pc := 34) (k' := 16) (i' := 0) dX1_entry_34 fr_X1_11 rfl ?_
    refine hJ.iload_n (pc := 37) dX1_entry_37 rfl ?_
    refine hJ.iconst (pc := 38) 5 dX1_entry_38 ic_5 ?_
    refine hJ.imul (pc := 39) dX1_entry_39 ?_
    refine hJ.iload_n (pc := 40) dX1_entry_40 rfl ?_
    refine hJ.iadd (pc := 41) dX1_entry_41 ?_
    obtain ⟨j3, h4, hF⟩ := bn_some hF
    refine hJ.liald (pc := 42) dX1_entry_42 al_16 h4 ?_
    refine hJ.goto (pc := 43) 47 dX1_entry_43 (by decide) ?_
    cases hF
    exact hR.i (pc := 47) dX1_entry_47
set_option maxRecDepth 100000 in
set_option maxHeartbeats 4000000 in
theorem wX1_entry_27 {J : Nat → Lv → List AV → Obs → Lay → Nat → Nat → Mem → Mem → Prop} (hJ : Cl RX1 cX1_entry 4 1 22 0 0 none false J) {r : Int32} {Sm S : Mem} (hR : Rk cX1_entry (some .int) (some (vi r)) wl0 L0 0 0 S Sm J) (x1 : Int32) (x2 : Int32) (hF : fX1_entry_27 x1 x2 S = some r) : J 27 [some (vr 1 0), some (vi x1), some (vi x2), none] [] wl0 L0 0 0 S Sm := by
  rw [fX1_entry_27] at hF
  refine hJ.iconst (pc := 27) 0 dX1_entry_27 ic_0 ?_
  exact wX1_entry_28 hJ hR x1 x2 0 hF
set_option maxRecDepth 100000 in
set_option maxHeartbeats 4000000 in
theorem ctX1_entry (p0 : Int32) (p1 : Int32) (S Sm : Mem) (r : Int32) (hF : fX1_entry p0 p1 S = some r) : Ct yX1_entry cX1_entry 4 (some .int) 1 22 0 0 [vr 1 0, vi p0, vi p1] wl0 L0 S Sm (some (vi r)) wl0 L0 S Sm := by
  refine Ct.of RX1 false (by decide) rfl (fun h => by cases h) (Nat.le_of_ble_eq_true rfl) (fun J hJ hR => ?_)
  rw [fX1_entry] at hF
  show J 0 [some (vr 1 0), some (vi p0), some (vi p1), none] [] wl0 L0 0 0 S Sm
  refine hJ.iload_n (pc := 0) dX1_entry_0 rfl ?_
  refine hJ.iconst (pc := 1) 0 dX1_entry_1 ic_0 ?_
  refine hJ.aload_n (pc := 2) dX1_entry_2 rfl ?_
  refine hJ.gI (pc := 3) dX1_entry_3 fi_X1_15 ?_
  refine hJ.iconst (pc := 6) 1 dX1_entry_6 ic_1 ?_
  refine hJ.isub (pc := 7) dX1_entry_7 ?_
  refine hJ.cSN (pc := 8) [vi p0, vi 0, vi ((S 1 0 1) - 1)] [] [vi (fX11_within p0 0 ((S 1 0 1) - 1))] dX1_entry_8 lk_X1_23 (ctX11_within p0 0 ((S 1 0 1) - 1) _ _ (fX11_within p0 0 ((S 1 0 1) - 1)) rfl) rfl rfl rfl rfl ?_
  refine hJ.if_eq (pc := 11) 27 dX1_entry_11 (by decide) (fun h1 => ?_) (fun h1 => ?_)
  · rw [if_pos h1] at hF
    exact wX1_entry_27 hJ hR p0 p1 hF
  · rw [if_neg h1] at hF
    refine hJ.iload_n (pc := 14) dX1_entry_14 rfl ?_
    refine hJ.iconst (pc := 15) 0 dX1_entry_15 ic_0 ?_
    refine hJ.iconst (pc := 16) 4 dX1_entry_16 ic_4 ?_
    refine hJ.cSN (pc := 17) [vi p1, vi 0, vi 4] [] [vi (fX11_within p1 0 4)] dX1_entry_17 lk_X1_23 (ctX11_within p1 0 4 _ _ (fX11_within p1 0 4) rfl) rfl rfl rfl rfl ?_
    refine hJ.if_eq (pc := 20) 27 dX1_entry_20 (by decide) (fun h5 => ?_) (fun h5 => ?_)
    · rw [if_pos h5] at hF
      exact wX1_entry_27 hJ hR p0 p1 hF
    · rw [if_neg h5] at hF
      refine hJ.iconst (pc := 23) 1 dX1_entry_23 ic_1 ?_
      refine hJ.goto (pc := 24) 28 dX1_entry_24 (by decide) ?_
      exact wX1_entry_28 hJ hR p0 p1 1 hF
set_option maxRecDepth 100000 in
set_option maxHeartbeats 4000000 in
theorem ctX11_book (p0 : Int32) (p1 : Int32) (S Sm : Mem) (r : Int32) (hF : fX11_book p0 p1 S = some r) : Ct yX11_book cX11_book 3 (some .int) 2 45 0 0 [vr 11 0, vi p0, vi p1] wl0 L0 S Sm (some (vi r)) wl0 L0 S Sm := by
  refine Ct.of RX11 false (by decide) rfl (fun h => by cases h) (Nat.le_of_ble_eq_true rfl) (fun J hJ hR => ?_)
  rw [fX11_book] at hF
  show J 0 [some (vr 11 0), some (vi p0), some (vi p1)] [] wl0 L0 0 0 S Sm
  refine hJ.aload_n (pc := 0) dX11_book_0 rfl ?_
  refine hJ.gR (pc := 1) (k' := 0) (i' := 0) dX11_book_1 fr_X11_10 rfl ?_
  refine hJ.gR (pc := 4) (k' := 1) (i' := 0) dX11_book_4 fr_X11_124 rfl ?_
  refine hJ.iload_n (pc := 7) dX11_book_7 rfl ?_
  refine hJ.iload_n (pc := 8) dX11_book_8 rfl ?_
  obtain ⟨r2, h1, hF⟩ := bn_some hF
  refine hJ.cV (pc := 9) [vi p0, vi p1] [] [vi r2] dX11_book_9 lk_X11_228 (ctX1_entry p0 p1 _ _ _ h1) rfl rfl rfl rfl ?_
  cases hF
  exact hR.i (pc := 12) dX11_book_12
set_option maxRecDepth 100000 in
set_option maxHeartbeats 4000000 in
theorem ctX2_hasRoom (S Sm : Mem) (r : Int32) (hF : fX2_hasRoom S = r) : Ct yX2_hasRoom cX2_hasRoom 1 (some .boolean) 0 0 0 0 [vr 2 0] wl0 L0 S Sm (some (vi r)) wl0 L0 S Sm := by
  refine Ct.of RX2 false (by decide) rfl (fun h => by cases h) (Nat.le_of_ble_eq_true rfl) (fun J hJ hR => ?_)
  rw [fX2_hasRoom] at hF
  show J 0 [some (vr 2 0)] [] wl0 L0 0 0 S Sm
  refine hJ.aload_n (pc := 0) dX2_hasRoom_0 rfl ?_
  refine hJ.gI (pc := 1) dX2_hasRoom_1 fi_X2_24 ?_
  refine hJ.bipush (pc := 4) 6 dX2_hasRoom_4 bc_6 ?_
  refine hJ.icmp_ge (pc := 6) 13 dX2_hasRoom_6 (by decide) (fun h1 => ?_) (fun h1 => ?_)
  · rw [if_pos h1] at hF
    refine hJ.iconst (pc := 13) 0 dX2_hasRoom_13 ic_0 ?_
    cases hF
    exact hR.n (pc := 14) (by decide) dX2_hasRoom_14
  · rw [if_neg h1] at hF
    refine hJ.iconst (pc := 9) 1 dX2_hasRoom_9 ic_1 ?_
    refine hJ.goto (pc := 10) 14 dX2_hasRoom_10 (by decide) ?_
    cases hF
    exact hR.n (pc := 14) (by decide) dX2_hasRoom_14
set_option maxRecDepth 100000 in
set_option maxHeartbeats 4000000 in
theorem ctX2_add (p0 : Int32) (p1 : Int32) (p2 : Int32) (p3 : Int32) (S Sm : Mem) (r : Int32) (S' : Mem) (hF : fX2_add p0 p1 p2 p3 S = some (r, S')) : Ct yX2_add cX2_add 5 (some .int) 1 20 0 0 [vr 2 0, vi p0, vi p1, vi p2, vi p3] wl0 L0 S Sm (some (vi r)) wl0 L0 S' Sm := by
  refine Ct.of RX2 false (by decide) rfl (fun h => by cases h) (Nat.le_of_ble_eq_true rfl) (fun J hJ hR => ?_)
  rw [fX2_add] at hF
  show J 0 [some (vr 2 0), some (vi p0), some (vi p1), some (vi p2), some (vi p3)] [] wl0 L0 0 0 S Sm
  refine hJ.aload_n (pc := 0) dX2_add_0 rfl ?_
  refine hJ.cV (pc := 1) [] [] [vi (fX2_hasRoom S)] dX2_add_1 lk_X2_28 (ctX2_hasRoom _ _ (fX2_hasRoom S) rfl) rfl rfl rfl rfl ?_
  refine hJ.if_ne (pc := 4) 9 dX2_add_4 (by decide) (fun h1 => ?_) (fun h1 => ?_)
  · rw [if_neg h1] at hF
    refine hJ.aload_n (pc := 9) dX2_add_9 rfl ?_
    refine hJ.gR (pc := 10) (k' := 17) (i' := 0) dX2_add_10 fr_X2_11 rfl ?_
    refine hJ.aload_n (pc := 13) dX2_add_13 rfl ?_
    refine hJ.gI (pc := 14) dX2_add_14 fi_X2_24 ?_
    refine hJ.iload_n (pc := 17) dX2_add_17 rfl ?_
    obtain ⟨j2, h3, hF⟩ := bn_some hF
    refine hJ.siast (pc := 18) dX2_add_18 al_17 h3 ?_
    refine hJ.aload_n (pc := 19) dX2_add_19 rfl ?_
    refine hJ.gR (pc := 20) (k' := 18) (i' := 0) dX2_add_20 fr_X2_15 rfl ?_
    refine hJ.aload_n (pc := 23) dX2_add_23 rfl ?_
    refine hJ.gI (pc := 24) dX2_add_24 fi_X2_24 ?_
    refine hJ.iload_n (pc := 27) dX2_add_27 rfl ?_
    obtain ⟨j4, h5, hF⟩ := bn_some hF
    refine hJ.siast (pc := 28) dX2_add_28 al_18 h5 ?_
    refine hJ.aload_n (pc := 29) dX2_add_29 rfl ?_
    refine hJ.gR (pc := 30) (k' := 19) (i' := 0) dX2_add_30 fr_X2_18 rfl ?_
    refine hJ.aload_n (pc := 33) dX2_add_33 rfl ?_
    refine hJ.gI (pc := 34) dX2_add_34 fi_X2_24 ?_
    refine hJ.iload_n (pc := 37) dX2_add_37 rfl ?_
    obtain ⟨j6, h7, hF⟩ := bn_some hF
    refine hJ.siast (pc := 38) dX2_add_38 al_19 h7 ?_
    refine hJ.aload_n (pc := 39) dX2_add_39 rfl ?_
    refine hJ.gR (pc := 40) (k' := 20) (i' := 0) dX2_add_40 fr_X2_21 rfl ?_
    refine hJ.aload_n (pc := 43) dX2_add_43 rfl ?_
    refine hJ.gI (pc := 44) dX2_add_44 fi_X2_24 ?_
    refine hJ.iload (pc := 47) dX2_add_47 rfl ?_
    obtain ⟨j8, h9, hF⟩ := bn_some hF
    refine hJ.siast (pc := 49) dX2_add_49 al_20 h9 ?_
    refine hJ.aload_n (pc := 50) dX2_add_50 rfl ?_
    refine hJ.dup (pc := 51) dX2_add_51 ?_
    refine hJ.gI (pc := 52) dX2_add_52 fi_X2_24 ?_
    refine hJ.iconst (pc := 55) 1 dX2_add_55 ic_1 ?_
    refine hJ.iadd (pc := 56) dX2_add_56 ?_
    refine hJ.pI (pc := 57) dX2_add_57 fp_X2_24 ?_
    refine hJ.aload_n (pc := 60) dX2_add_60 rfl ?_
    refine hJ.gI (pc := 61) dX2_add_61 fi_X2_24 ?_
    refine hJ.iconst (pc := 64) 1 dX2_add_64 ic_1 ?_
    refine hJ.isub (pc := 65) dX2_add_65 ?_
    cases hF
    exact hR.i (pc := 66) dX2_add_66
  · rw [if_pos h1] at hF
    refine hJ.iconst (pc := 7) (-1) dX2_add_7 ic_m1 ?_
    cases hF
    exact hR.i (pc := 8) dX2_add_8
set_option maxRecDepth 100000 in
set_option maxHeartbeats 4000000 in
theorem wX11_claim_51 {J : Nat → Lv → List AV → Obs → Lay → Nat → Nat → Mem → Mem → Prop} (hJ : Cl RX11 cX11_claim 6 2 44 0 0 none false J) {r : Int32} {Sm S' : Mem} (hR : Rk cX11_claim (some .int) (some (vi r)) wl0 L0 0 0 S' Sm J) (x1 : Int32) (x2 : Int32) (x3 : Int32) (x4 : Int32) (y0 : Int32) (S : Mem) (hF : fX11_claim_51 x1 x2 x3 x4 y0 S = some (r, S')) : J 51 [some (vr 11 0), some (vi x1), some (vi x2), some (vi x3), some (vi x4), none] [vi y0] wl0 L0 0 0 S Sm := by
  rw [fX11_claim_51] at hF
  refine hJ.istore (pc := 51) [some (vr 11 0), some (vi x1), some (vi x2), some (vi x3), some (vi x4), some (vi y0)] dX11_claim_51 (by decide) rfl ?_
  refine hJ.iload (pc := 53) dX11_claim_53 rfl ?_
  refine hJ.if_eq (pc := 55) 71 dX11_claim_55 (by decide) (fun h4 => ?_) (fun h4 => ?_)
  · rw [if_pos h4] at hF
    refine hJ.iconst (pc := 71) (-1) dX11_claim_71 ic_m1 ?_
    cases hF
    exact hR.i (pc := 72) dX11_claim_72
  · rw [if_neg h4] at hF
    refine hJ.aload_n (pc := 58) dX11_claim_58 rfl ?_
    refine hJ.gR (pc := 59) (k' := 0) (i' := 0) dX11_claim_59 fr_X11_10 rfl ?_
    refine hJ.gR (pc := 62) (k' := 2) (i' := 0) dX11_claim_62 fr_X11_232 rfl ?_
    refine hJ.cV (pc := 65) [] [] [vi (fX2_hasRoom S)] dX11_claim_65 lk_X11_236 (ctX2_hasRoom _ _ (fX2_hasRoom S) rfl) rfl rfl rfl rfl ?_
    refine hJ.if_ne (pc := 68) 73 dX11_claim_68 (by decide) (fun h5 => ?_) (fun h5 => ?_)
    · rw [if_neg h5] at hF
      refine hJ.aload_n (pc := 73) dX11_claim_73 rfl ?_
      refine hJ.gR (pc := 74) (k' := 0) (i' := 0) dX11_claim_74 fr_X11_10 rfl ?_
      refine hJ.gR (pc := 77) (k' := 2) (i' := 0) dX11_claim_77 fr_X11_232 rfl ?_
      refine hJ.iload_n (pc := 80) dX11_claim_80 rfl ?_
      refine hJ.iload_n (pc := 81) dX11_claim_81 rfl ?_
      refine hJ.iload_n (pc := 82) dX11_claim_82 rfl ?_
      refine hJ.iload (pc := 83) dX11_claim_83 rfl ?_
      obtain ⟨r8, S7, h6, hF⟩ := bd_some hF
      refine hJ.cV (pc := 85) [vi x1, vi x2, vi x3, vi x4] [] [vi r8] dX11_claim_85 lk_X11_239 (ctX2_add x1 x2 x3 x4 _ _ _ _ h6) rfl rfl rfl rfl ?_
      cases hF
      exact hR.i (pc := 88) dX11_claim_88
    · rw [if_pos h5] at hF
      refine hJ.iconst (pc := 71) (-1) dX11_claim_71 ic_m1 ?_
      cases hF
      exact hR.i (pc := 72) dX11_claim_72
set_option maxRecDepth 100000 in
set_option maxHeartbeats 4000000 in
theorem wX11_claim_50 {J : Nat → Lv → List AV → Obs → Lay → Nat → Nat → Mem → Mem → Prop} (hJ : Cl RX11 cX11_claim 6 2 44 0 0 none false J) {r : Int32} {Sm S' : Mem} (hR : Rk cX11_claim (some .int) (some (vi r)) wl0 L0 0 0 S' Sm J) (x1 : Int32) (x2 : Int32) (x3 : Int32) (x4 : Int32) (S : Mem) (hF : fX11_claim_50 x1 x2 x3 x4 S = some (r, S')) : J 50 [some (vr 11 0), some (vi x1), some (vi x2), some (vi x3), some (vi x4), none] [] wl0 L0 0 0 S Sm := by
  rw [fX11_claim_50] at hF
  refine hJ.iconst (pc := 50) 0 dX11_claim_50 ic_0 ?_
  exact wX11_claim_51 hJ hR x1 x2 x3 x4 0 S hF
set_option maxRecDepth 100000 in
set_option maxHeartbeats 4000000 in
theorem ctX11_claim (p0 : Int32) (p1 : Int32) (p2 : Int32) (p3 : Int32) (S Sm : Mem) (r : Int32) (S' : Mem) (hF : fX11_claim p0 p1 p2 p3 S = some (r, S')) : Ct yX11_claim cX11_claim 6 (some .int) 2 44 0 0 [vr 11 0, vi p0, vi p1, vi p2, vi p3] wl0 L0 S Sm (some (vi r)) wl0 L0 S' Sm := by
  refine Ct.of RX11 false (by decide) rfl (fun h => by cases h) (Nat.le_of_ble_eq_true rfl) (fun J hJ hR => ?_)
  rw [fX11_claim] at hF
  show J 0 [some (vr 11 0), some (vi p0), some (vi p1), some (vi p2), some (vi p3), none] [] wl0 L0 0 0 S Sm
  refine hJ.aload_n (pc := 0) dX11_claim_0 rfl ?_
  refine hJ.gR (pc := 1) (k' := 0) (i' := 0) dX11_claim_1 fr_X11_10 rfl ?_
  refine hJ.iload_n (pc := 4) dX11_claim_4 rfl ?_
  obtain ⟨r2, h1, hF⟩ := bn_some hF
  refine hJ.cV (pc := 5) [vi p0] [] [vq 5 r2] dX11_claim_5 lk_X11_102 (ctX0_paperAt p0 _ _ _ h1) rfl rfl rfl rfl ?_
  cases r2 with
  | none =>
    rw [mt_n] at hF
    refine hJ.ifnullY (pc := 8) 50 dX11_claim_8 (by decide) ?_
    exact wX11_claim_50 hJ hR p0 p1 p2 p3 S hF
  | some i3 =>
    rw [mt_s] at hF
    refine hJ.ifnullN (pc := 8) dX11_claim_8 ?_
    refine hJ.iload_n (pc := 11) dX11_claim_11 rfl ?_
    refine hJ.aload_n (pc := 12) dX11_claim_12 rfl ?_
    refine hJ.gR (pc := 13) (k' := 0) (i' := 0) dX11_claim_13 fr_X11_10 rfl ?_
    refine hJ.gI (pc := 16) dX11_claim_16 fi_X11_80 ?_
    refine hJ.sipush (pc := 19) 9999 dX11_claim_19 sc_9999 ?_
    refine hJ.cS (pc := 22) [vi p1, vi (S 0 0 8), vi 9999] [] [vi (fX11_within p1 (S 0 0 8) 9999)] dX11_claim_22 lk_X11_56 (ctX11_within p1 (S 0 0 8) 9999 _ _ (fX11_within p1 (S 0 0 8) 9999) rfl) rfl rfl rfl rfl ?_
    refine hJ.if_eq (pc := 25) 50 dX11_claim_25 (by decide) (fun h9 => ?_) (fun h9 => ?_)
    · rw [if_pos h9] at hF
      exact wX11_claim_50 hJ hR p0 p1 p2 p3 S hF
    · rw [if_neg h9] at hF
      refine hJ.iload_n (pc := 28) dX11_claim_28 rfl ?_
      refine hJ.if_lt (pc := 29) 50 dX11_claim_29 (by decide) (fun h10 => ?_) (fun h10 => ?_)
      · rw [if_pos h10] at hF
        exact wX11_claim_50 hJ hR p0 p1 p2 p3 S hF
      · rw [if_neg h10] at hF
        refine hJ.iload_n (pc := 32) dX11_claim_32 rfl ?_
        refine hJ.iload (pc := 33) dX11_claim_33 rfl ?_
        refine hJ.icmp_gt (pc := 35) 50 dX11_claim_35 (by decide) (fun h11 => ?_) (fun h11 => ?_)
        · rw [if_pos h11] at hF
          exact wX11_claim_50 hJ hR p0 p1 p2 p3 S hF
        · rw [if_neg h11] at hF
          refine hJ.iload (pc := 38) dX11_claim_38 rfl ?_
          refine hJ.sipush (pc := 40) 999 dX11_claim_40 sc_999 ?_
          refine hJ.icmp_gt (pc := 43) 50 dX11_claim_43 (by decide) (fun h12 => ?_) (fun h12 => ?_)
          · rw [if_pos h12] at hF
            exact wX11_claim_50 hJ hR p0 p1 p2 p3 S hF
          · rw [if_neg h12] at hF
            refine hJ.iconst (pc := 46) 1 dX11_claim_46 ic_1 ?_
            refine hJ.goto (pc := 47) 51 dX11_claim_47 (by decide) ?_
            exact wX11_claim_51 hJ hR p0 p1 p2 p3 1 S hF
set_option maxRecDepth 100000 in
set_option maxHeartbeats 4000000 in
theorem wX2_anyWentBy_2 {J : Nat → Lv → List AV → Obs → Lay → Nat → Nat → Mem → Mem → Prop} (hJ : Cl RX2 cX2_anyWentBy 3 0 0 0 0 none false J) {r : Int32} {Sm S : Mem} (hR : Rk cX2_anyWentBy (some .boolean) (some (vi r)) wl0 L0 0 0 S Sm J) : ∀ (n : Nat) (x1 : Int32) (x2 : Int32), fX2_anyWentBy_2 n x1 x2 S = some r → J 2 [some (vr 2 0), some (vi x1), some (vi x2)] [] wl0 L0 0 0 S Sm := by
  intro n
  induction n with
  | zero =>
    intro x1 x2 hF
    rw [fX2_anyWentBy_2] at hF
    cases hF
  | succ n ih =>
    intro x1 x2 hF
    rw [fX2_anyWentBy_2] at hF
    refine hJ.iload_n (pc := 2) dX2_anyWentBy_2 rfl ?_
    refine hJ.aload_n (pc := 3) dX2_anyWentBy_3 rfl ?_
    refine hJ.gI (pc := 4) dX2_anyWentBy_4 fi_X2_24 ?_
    refine hJ.icmp_ge (pc := 7) 28 dX2_anyWentBy_7 (by decide) (fun h1 => ?_) (fun h1 => ?_)
    · rw [if_pos h1] at hF
      refine hJ.iconst (pc := 28) 0 dX2_anyWentBy_28 ic_0 ?_
      cases hF
      exact hR.n (pc := 29) (by decide) dX2_anyWentBy_29
    · rw [if_neg h1] at hF
      refine hJ.aload_n (pc := 10) dX2_anyWentBy_10 rfl ?_
      refine hJ.gR (pc := 11) (k' := 18) (i' := 0) dX2_anyWentBy_11 fr_X2_15 rfl ?_
      refine hJ.iload_n (pc := 14) dX2_anyWentBy_14 rfl ?_
      obtain ⟨j2, h3, hF⟩ := bn_some hF
      refine hJ.liald (pc := 15) dX2_anyWentBy_15 al_18 h3 ?_
      refine hJ.iload_n (pc := 16) dX2_anyWentBy_16 rfl ?_
      refine hJ.icmp_ge (pc := 17) 22 dX2_anyWentBy_17 (by decide) (fun h4 => ?_) (fun h4 => ?_)
      · rw [if_pos h4] at hF
        refine hJ.iinc (pc := 22) (x2 + 1) [some (vr 2 0), some (vi x1), some (vi (x2 + 1))] dX2_anyWentBy_22 (by decide) rfl (congrArg (fun z => x2 + z) ic_1) rfl ?_
        refine hJ.goto (pc := 25) 2 dX2_anyWentBy_25 (by decide) ?_
        exact ih x1 (x2 + 1) hF
      · rw [if_neg h4] at hF
        refine hJ.iconst (pc := 20) 1 dX2_anyWentBy_20 ic_1 ?_
        cases hF
        exact hR.n (pc := 21) (by decide) dX2_anyWentBy_21
set_option maxRecDepth 100000 in
set_option maxHeartbeats 4000000 in
theorem ctX2_anyWentBy (p0 : Int32) (S Sm : Mem) (r : Int32) (hF : fX2_anyWentBy p0 S = some r) : Ct yX2_anyWentBy cX2_anyWentBy 3 (some .boolean) 0 0 0 0 [vr 2 0, vi p0] wl0 L0 S Sm (some (vi r)) wl0 L0 S Sm := by
  refine Ct.of RX2 false (by decide) rfl (fun h => by cases h) (Nat.le_of_ble_eq_true rfl) (fun J hJ hR => ?_)
  rw [fX2_anyWentBy] at hF
  show J 0 [some (vr 2 0), some (vi p0), none] [] wl0 L0 0 0 S Sm
  refine hJ.iconst (pc := 0) 0 dX2_anyWentBy_0 ic_0 ?_
  refine hJ.istore_n (pc := 1) [some (vr 2 0), some (vi p0), some (vi 0)] dX2_anyWentBy_1 (by decide) rfl ?_
  exact wX2_anyWentBy_2 hJ hR 5000 p0 0 hF
set_option maxRecDepth 100000 in
set_option maxHeartbeats 4000000 in
theorem wX8_claimsStand_8 {J : Nat → Lv → List AV → Obs → Lay → Nat → Nat → Mem → Mem → Prop} (hJ : Cl RX8 cX8_claimsStand 5 4 94 0 0 none false J) {r : Int32} {Sm S' : Mem} (hR : Rk cX8_claimsStand (some .boolean) (some (vi r)) wl0 L0 0 0 S' Sm J) : ∀ (n : Nat) (c2 : Nat) (x4 : Int32) (S : Mem), fX8_claimsStand_8 n c2 x4 S = some (r, S') → J 8 [none, some (vr 0 0), some (vr 5 c2), some (vr 2 0), some (vi x4)] [] wl0 L0 0 0 S Sm := by
  intro n
  induction n with
  | zero =>
    intro c2 x4 S hF
    rw [fX8_claimsStand_8] at hF
    cases hF
  | succ n ih =>
    intro c2 x4 S hF
    rw [fX8_claimsStand_8] at hF
    refine hJ.iload (pc := 8) dX8_claimsStand_8 rfl ?_
    refine hJ.aload_n (pc := 10) dX8_claimsStand_10 rfl ?_
    refine hJ.gI (pc := 11) dX8_claimsStand_11 fi_X8_81 ?_
    refine hJ.icmp_ge (pc := 14) 71 dX8_claimsStand_14 (by decide) (fun h1 => ?_) (fun h1 => ?_)
    · rw [if_pos h1] at hF
      refine hJ.iconst (pc := 71) 1 dX8_claimsStand_71 ic_1 ?_
      cases hF
      exact hR.n (pc := 72) (by decide) dX8_claimsStand_72
    · rw [if_neg h1] at hF
      refine hJ.aload_n (pc := 17) dX8_claimsStand_17 rfl ?_
      refine hJ.gR (pc := 18) (k' := 17) (i' := 0) dX8_claimsStand_18 fr_X8_86 rfl ?_
      refine hJ.iload (pc := 21) dX8_claimsStand_21 rfl ?_
      obtain ⟨j2, h3, hF⟩ := bn_some hF
      refine hJ.liald (pc := 23) dX8_claimsStand_23 al_17 h3 ?_
      refine hJ.aload_n (pc := 24) dX8_claimsStand_24 rfl ?_
      refine hJ.gI (pc := 25) dX8_claimsStand_25 fi_X8_88 ?_
      refine hJ.icmp_ne (pc := 28) 65 dX8_claimsStand_28 (by decide) (fun h4 => ?_) (fun h4 => ?_)
      · rw [if_neg h4] at hF
        refine hJ.iinc (pc := 65) (x4 + 1) [none, some (vr 0 0), some (vr 5 c2), some (vr 2 0), some (vi (x4 + 1))] dX8_claimsStand_65 (by decide) rfl (congrArg (fun z => x4 + z) ic_1) rfl ?_
        refine hJ.goto (pc := 68) 8 dX8_claimsStand_68 (by decide) ?_
        exact ih c2 (x4 + 1) S hF
      · rw [if_pos h4] at hF
        refine hJ.aload_n (pc := 31) dX8_claimsStand_31 rfl ?_
        refine hJ.aload_n (pc := 32) dX8_claimsStand_32 rfl ?_
        refine hJ.aload_n (pc := 33) dX8_claimsStand_33 rfl ?_
        refine hJ.gR (pc := 34) (k' := 18) (i' := 0) dX8_claimsStand_34 fr_X8_91 rfl ?_
        refine hJ.iload (pc := 37) dX8_claimsStand_37 rfl ?_
        refine hJ.liald (pc := 39) dX8_claimsStand_39 al_18 h3 ?_
        obtain ⟨r7, S6, h5, hF⟩ := bd_some hF
        refine hJ.cV (pc := 40) [vr 5 c2, vi (S 18 0 j2)] [] [vi r7] dX8_claimsStand_40 lk_X8_94 (ctX0_ageOf c2 (S 18 0 j2) _ _ _ _ h5) rfl rfl rfl rfl ?_
        refine hJ.aload_n (pc := 43) dX8_claimsStand_43 rfl ?_
        refine hJ.gR (pc := 44) (k' := 19) (i' := 0) dX8_claimsStand_44 fr_X8_98 rfl ?_
        refine hJ.iload (pc := 47) dX8_claimsStand_47 rfl ?_
        refine hJ.liald (pc := 49) dX8_claimsStand_49 al_19 h3 ?_
        refine hJ.aload_n (pc := 50) dX8_claimsStand_50 rfl ?_
        refine hJ.gR (pc := 51) (k' := 20) (i' := 0) dX8_claimsStand_51 fr_X8_101 rfl ?_
        refine hJ.iload (pc := 54) dX8_claimsStand_54 rfl ?_
        refine hJ.liald (pc := 56) dX8_claimsStand_56 al_20 h3 ?_
        refine hJ.cSN (pc := 57) [vi r7, vi (S6 19 0 j2), vi (S6 20 0 j2)] [] [vi (fX11_within r7 (S6 19 0 j2) (S6 20 0 j2))] dX8_claimsStand_57 lk_X8_104 (ctX11_within r7 (S6 19 0 j2) (S6 20 0 j2) _ _ (fX11_within r7 (S6 19 0 j2) (S6 20 0 j2)) rfl) rfl rfl rfl rfl ?_
        refine hJ.if_ne (pc := 60) 65 dX8_claimsStand_60 (by decide) (fun h8 => ?_) (fun h8 => ?_)
        · rw [if_neg h8] at hF
          refine hJ.iinc (pc := 65) (x4 + 1) [none, some (vr 0 0), some (vr 5 c2), some (vr 2 0), some (vi (x4 + 1))] dX8_claimsStand_65 (by decide) rfl (congrArg (fun z => x4 + z) ic_1) rfl ?_
          refine hJ.goto (pc := 68) 8 dX8_claimsStand_68 (by decide) ?_
          exact ih c2 (x4 + 1) S6 hF
        · rw [if_pos h8] at hF
          refine hJ.iconst (pc := 63) 0 dX8_claimsStand_63 ic_0 ?_
          cases hF
          exact hR.n (pc := 64) (by decide) dX8_claimsStand_64
set_option maxRecDepth 100000 in
set_option maxHeartbeats 4000000 in
theorem ctX8_claimsStand (b1 : Nat) (S Sm : Mem) (r : Int32) (S' : Mem) (hF : fX8_claimsStand b1 S = some (r, S')) : Ct yX8_claimsStand cX8_claimsStand 5 (some .boolean) 4 94 0 0 [vr 8 0, vr 0 0, vr 5 b1] wl0 L0 S Sm (some (vi r)) wl0 L0 S' Sm := by
  refine Ct.of RX8 false (by decide) rfl (fun h => by cases h) (Nat.le_of_ble_eq_true rfl) (fun J hJ hR => ?_)
  rw [fX8_claimsStand] at hF
  show J 0 [some (vr 8 0), some (vr 0 0), some (vr 5 b1), none, none] [] wl0 L0 0 0 S Sm
  refine hJ.aload_n (pc := 0) dX8_claimsStand_0 rfl ?_
  refine hJ.gR (pc := 1) (k' := 2) (i' := 0) dX8_claimsStand_1 fr_X8_77 rfl ?_
  refine hJ.astore_n (pc := 4) [some (vr 8 0), some (vr 0 0), some (vr 5 b1), some (vr 2 0), none] dX8_claimsStand_4 (by decide) rfl ?_
  refine hJ.iconst (pc := 5) 0 dX8_claimsStand_5 ic_0 ?_
  refine hJ.istore (pc := 6) [some (vr 8 0), some (vr 0 0), some (vr 5 b1), some (vr 2 0), some (vi 0)] dX8_claimsStand_6 (by decide) rfl ?_
  refine hJ.weak [none, some (vr 0 0), some (vr 5 b1), some (vr 2 0), some (vi 0)] ⟨rfl, rfl, rfl, rfl, trivial⟩ ?_
  exact wX8_claimsStand_8 hJ hR 5000 b1 0 S hF
set_option maxRecDepth 100000 in
set_option maxHeartbeats 4000000 in
theorem ctX8_imagine (b1 : Nat) (p2 : Int32) (p3 : Int32) (S Sm : Mem) (r : Option Nat) (S' : Mem) (hF : fX8_imagine b1 p2 p3 S = some (r, S')) : Ct yX8_imagine cX8_imagine 6 (some (.object "PaperAger$Paper")) 2 43 0 0 [vr 8 0, vr 0 0, vr 5 b1, vi p2, vi p3] wl0 L0 S Sm (some (vq 5 r)) wl0 L0 S' Sm := by
  refine Ct.of RX8 false (by decide) rfl (fun h => by cases h) (Nat.le_of_ble_eq_true rfl) (fun J hJ hR => ?_)
  rw [fX8_imagine] at hF
  show J 0 [some (vr 8 0), some (vr 0 0), some (vr 5 b1), some (vi p2), some (vi p3), none] [] wl0 L0 0 0 S Sm
  refine hJ.aload_n (pc := 0) dX8_imagine_0 rfl ?_
  refine hJ.iload_n (pc := 1) dX8_imagine_1 rfl ?_
  obtain ⟨r2, h1, hF⟩ := bn_some hF
  refine hJ.cV (pc := 2) [vi p2] [] [vq 6 r2] dX8_imagine_2 lk_X8_55 (ctX0_readerAt p2 _ _ _ h1) rfl rfl rfl rfl ?_
  cases r2 with
  | none =>
    rw [mt_n] at hF
    refine hJ.astore (pc := 5) [some (vr 8 0), some (vr 0 0), some (vr 5 b1), some (vi p2), some (vi p3), some (vn)] dX8_imagine_5 (by decide) rfl ?_
    refine hJ.aload (pc := 7) dX8_imagine_7 rfl ?_
    refine hJ.ifnullY (pc := 9) 22 dX8_imagine_9 (by decide) ?_
    refine hJ.aconst_null (pc := 22) dX8_imagine_22 ?_
    cases hF
    exact hR.a (pc := 23) dX8_imagine_23
  | some i3 =>
    rw [mt_s] at hF
    refine hJ.astore (pc := 5) [some (vr 8 0), some (vr 0 0), some (vr 5 b1), some (vi p2), some (vi p3), some (vr 6 i3)] dX8_imagine_5 (by decide) rfl ?_
    refine hJ.aload (pc := 7) dX8_imagine_7 rfl ?_
    refine hJ.ifnullN (pc := 9) dX8_imagine_9 ?_
    refine hJ.aload (pc := 12) dX8_imagine_12 rfl ?_
    refine hJ.iload (pc := 14) dX8_imagine_14 rfl ?_
    refine hJ.cV (pc := 16) [vi p3] [] [vi (fX6_livesOn i3 p3 S)] dX8_imagine_16 lk_X8_59 (ctX6_livesOn i3 p3 _ _ (fX6_livesOn i3 p3 S) rfl) rfl rfl rfl rfl ?_
    refine hJ.if_ne (pc := 19) 24 dX8_imagine_19 (by decide) (fun h4 => ?_) (fun h4 => ?_)
    · rw [if_neg h4] at hF
      refine hJ.aload_n (pc := 24) dX8_imagine_24 rfl ?_
      refine hJ.gR (pc := 25) (k' := 5) (i' := 24) dX8_imagine_25 fr_X8_18 rfl ?_
      refine hJ.aload_n (pc := 28) dX8_imagine_28 rfl ?_
      refine hJ.cV (pc := 29) [vr 5 b1] [] [] dX8_imagine_29 lk_X8_65 (ctX5_copyFrom 24 b1 _ _ (fX5_copyFrom 24 b1 S) rfl) rfl rfl rfl rfl ?_
      refine hJ.aload_n (pc := 32) dX8_imagine_32 rfl ?_
      refine hJ.gR (pc := 33) (k' := 5) (i' := 24) dX8_imagine_33 fr_X8_18 rfl ?_
      refine hJ.iload_n (pc := 36) dX8_imagine_36 rfl ?_
      refine hJ.aload (pc := 37) dX8_imagine_37 rfl ?_
      refine hJ.iload (pc := 39) dX8_imagine_39 rfl ?_
      refine hJ.cV (pc := 41) [vi p3] [vi p2, vr 5 24] [vi (fX6_yearsOn i3 p3 (fX5_copyFrom 24 b1 S)), vi p2, vr 5 24] dX8_imagine_41 lk_X8_69 (ctX6_yearsOn i3 p3 _ _ (fX6_yearsOn i3 p3 (fX5_copyFrom 24 b1 S)) rfl) rfl rfl rfl rfl ?_
      refine hJ.iload (pc := 44) dX8_imagine_44 rfl ?_
      refine hJ.cV (pc := 46) [vi p2, vi (fX6_yearsOn i3 p3 (fX5_copyFrom 24 b1 S)), vi p3] [] [] dX8_imagine_46 lk_X8_73 (ctX5_takeReading 24 p2 (fX6_yearsOn i3 p3 (fX5_copyFrom 24 b1 S)) p3 _ _ (fX5_takeReading 24 p2 (fX6_yearsOn i3 p3 (fX5_copyFrom 24 b1 S)) p3 (fX5_copyFrom 24 b1 S)) rfl) rfl rfl rfl rfl ?_
      refine hJ.aload_n (pc := 49) dX8_imagine_49 rfl ?_
      refine hJ.gR (pc := 50) (k' := 5) (i' := 24) dX8_imagine_50 fr_X8_18 rfl ?_
      cases hF
      exact hR.a (pc := 53) dX8_imagine_53
    · rw [if_pos h4] at hF
      refine hJ.aconst_null (pc := 22) dX8_imagine_22 ?_
      cases hF
      exact hR.a (pc := 23) dX8_imagine_23
set_option maxRecDepth 100000 in
set_option maxHeartbeats 4000000 in
theorem wX8_weigh_39 {J : Nat → Lv → List AV → Obs → Lay → Nat → Nat → Mem → Mem → Prop} (hJ : Cl RX8 cX8_weigh 5 5 118 0 0 none false J) {Sm : Mem} : ∀ (n : Nat) (x2 : Int32) (x3 : Int32) (S : Mem) {S' : Mem}, fX8_weigh_39 n x2 x3 S = some S' → J 110 [some (vr 8 0), some (vr 0 0), some (vi x2), none, none] [] wl0 L0 0 0 (S') Sm → J 39 [some (vr 8 0), some (vr 0 0), some (vi x2), some (vi x3), none] [] wl0 L0 0 0 S Sm := by
  intro n
  induction n with
  | zero =>
    intro x2 x3 S S' hF hK
    rw [fX8_weigh_39] at hF
    cases hF
  | succ n ih =>
    intro x2 x3 S S' hF hK
    rw [fX8_weigh_39] at hF
    refine hJ.iload_n (pc := 39) dX8_weigh_39 rfl ?_
    refine hJ.aload_n (pc := 40) dX8_weigh_40 rfl ?_
    refine hJ.gI (pc := 41) dX8_weigh_41 fi_X8_45 ?_
    refine hJ.icmp_ge (pc := 44) 110 dX8_weigh_44 (by decide) (fun h8 => ?_) (fun h8 => ?_)
    · rw [if_pos h8] at hF
      cases hF
      refine hJ.weak [some (vr 8 0), some (vr 0 0), some (vi x2), none, none] ⟨rfl, rfl, rfl, trivial⟩ ?_
      exact hK
    · rw [if_neg h8] at hF
      refine hJ.aload_n (pc := 47) dX8_weigh_47 rfl ?_
      refine hJ.gR (pc := 48) (k' := 28) (i' := 0) dX8_weigh_48 fr_X8_9 rfl ?_
      refine hJ.iload_n (pc := 51) dX8_weigh_51 rfl ?_
      obtain ⟨j9, h10, hF⟩ := bn_some hF
      refine hJ.liald (pc := 52) dX8_weigh_52 al_28 h10 ?_
      refine hJ.sipush (pc := 53) 4096 dX8_weigh_53 sc_4096 ?_
      refine hJ.icmp_eq (pc := 56) 110 dX8_weigh_56 (by decide) (fun h11 => ?_) (fun h11 => ?_)
      · rw [if_pos h11] at hF
        cases hF
        refine hJ.weak [some (vr 8 0), some (vr 0 0), some (vi x2), none, none] ⟨rfl, rfl, rfl, trivial⟩ ?_
        exact hK
      · rw [if_neg h11] at hF
        refine hJ.aload_n (pc := 59) dX8_weigh_59 rfl ?_
        refine hJ.aload_n (pc := 60) dX8_weigh_60 rfl ?_
        refine hJ.aload_n (pc := 61) dX8_weigh_61 rfl ?_
        refine hJ.gR (pc := 62) (k' := 14) (i' := 0) dX8_weigh_62 fr_X8_37 rfl ?_
        refine hJ.iload_n (pc := 65) dX8_weigh_65 rfl ?_
        refine hJ.aald (pc := 66) (k' := 5) (i' := j9) dX8_weigh_66 aq_14 rfl h10 (L0_14_0 (ix_some h10).2.2) ?_
        refine hJ.iload_n (pc := 67) dX8_weigh_67 rfl ?_
        refine hJ.aload_n (pc := 68) dX8_weigh_68 rfl ?_
        refine hJ.gI (pc := 69) dX8_weigh_69 fi_X8_48 ?_
        obtain ⟨r13, S14, h12, hF⟩ := bd_some hF
        refine hJ.cV (pc := 72) [vr 0 0, vr 5 j9, vi x3, vi (S 0 0 8)] [] [vq 5 r13] dX8_weigh_72 lk_X8_51 (ctX8_imagine j9 x3 (S 0 0 8) _ _ _ _ h12) rfl rfl rfl rfl ?_
        cases r13 with
        | none =>
          rw [mt_n] at hF
          refine hJ.astore (pc := 75) [some (vr 8 0), some (vr 0 0), some (vi x2), some (vi x3), some (vn)] dX8_weigh_75 (by decide) rfl ?_
          refine hJ.aload (pc := 77) dX8_weigh_77 rfl ?_
          refine hJ.ifnullY (pc := 79) 104 dX8_weigh_79 (by decide) ?_
          refine hJ.iinc (pc := 104) (x3 + 1) [some (vr 8 0), some (vr 0 0), some (vi x2), some (vi (x3 + 1)), some (vn)] dX8_weigh_104 (by decide) rfl (congrArg (fun z => x3 + z) ic_1) rfl ?_
          refine hJ.goto (pc := 107) 39 dX8_weigh_107 (by decide) ?_
          refine hJ.weak [some (vr 8 0), some (vr 0 0), some (vi x2), some (vi (x3 + 1)), none] ⟨rfl, rfl, rfl, rfl, trivial⟩ ?_
          exact ih x2 (x3 + 1) S14 hF hK
        | some i15 =>
          rw [mt_s] at hF
          refine hJ.astore (pc := 75) [some (vr 8 0), some (vr 0 0), some (vi x2), some (vi x3), some (vr 5 i15)] dX8_weigh_75 (by decide) rfl ?_
          refine hJ.aload (pc := 77) dX8_weigh_77 rfl ?_
          refine hJ.ifnullN (pc := 79) dX8_weigh_79 ?_
          refine hJ.aload_n (pc := 82) dX8_weigh_82 rfl ?_
          refine hJ.aload_n (pc := 83) dX8_weigh_83 rfl ?_
          refine hJ.aload (pc := 84) dX8_weigh_84 rfl ?_
          obtain ⟨r18, S17, h16, hF⟩ := bd_some hF
          refine hJ.cV (pc := 86) [vr 0 0, vr 5 i15] [] [vi r18] dX8_weigh_86 lk_X8_41 (ctX8_claimsStand i15 _ _ _ _ h16) rfl rfl rfl rfl ?_
          refine hJ.if_eq (pc := 89) 104 dX8_weigh_89 (by decide) (fun h19 => ?_) (fun h19 => ?_)
          · rw [if_pos h19] at hF
            refine hJ.iinc (pc := 104) (x3 + 1) [some (vr 8 0), some (vr 0 0), some (vi x2), some (vi (x3 + 1)), some (vr 5 i15)] dX8_weigh_104 (by decide) rfl (congrArg (fun z => x3 + z) ic_1) rfl ?_
            refine hJ.goto (pc := 107) 39 dX8_weigh_107 (by decide) ?_
            refine hJ.weak [some (vr 8 0), some (vr 0 0), some (vi x2), some (vi (x3 + 1)), none] ⟨rfl, rfl, rfl, rfl, trivial⟩ ?_
            exact ih x2 (x3 + 1) S17 hF hK
          · rw [if_neg h19] at hF
            refine hJ.aload_n (pc := 92) dX8_weigh_92 rfl ?_
            refine hJ.gR (pc := 93) (k' := 28) (i' := 0) dX8_weigh_93 fr_X8_9 rfl ?_
            refine hJ.iload_n (pc := 96) dX8_weigh_96 rfl ?_
            refine hJ.dup2 (pc := 97) dX8_weigh_97 ?_
            refine hJ.liald (pc := 98) dX8_weigh_98 al_28 h10 ?_
            refine hJ.iconst (pc := 99) 1 dX8_weigh_99 ic_1 ?_
            refine hJ.iload_n (pc := 100) dX8_weigh_100 rfl ?_
            refine hJ.ishl (pc := 101) dX8_weigh_101 ?_
            refine hJ.ior (pc := 102) dX8_weigh_102 ?_
            refine hJ.siast (pc := 103) dX8_weigh_103 al_28 h10 ?_
            refine hJ.iinc (pc := 104) (x3 + 1) [some (vr 8 0), some (vr 0 0), some (vi x2), some (vi (x3 + 1)), some (vr 5 i15)] dX8_weigh_104 (by decide) rfl (congrArg (fun z => x3 + z) ic_1) rfl ?_
            refine hJ.goto (pc := 107) 39 dX8_weigh_107 (by decide) ?_
            refine hJ.weak [some (vr 8 0), some (vr 0 0), some (vi x2), some (vi (x3 + 1)), none] ⟨rfl, rfl, rfl, rfl, trivial⟩ ?_
            exact ih x2 (x3 + 1) (up S17 28 0 j9 ((S17 28 0 j9) ||| (1 <<< (x3 &&& 31)))) hF hK
set_option maxRecDepth 100000 in
set_option maxHeartbeats 4000000 in
theorem wX8_weigh_2 {J : Nat → Lv → List AV → Obs → Lay → Nat → Nat → Mem → Mem → Prop} (hJ : Cl RX8 cX8_weigh 5 5 118 0 0 none false J) {Sm S' : Mem} (hR : Rk cX8_weigh none none wl0 L0 0 0 S' Sm J) : ∀ (n : Nat) (x2 : Int32) (S : Mem), fX8_weigh_2 n x2 S = some (S') → J 2 [some (vr 8 0), some (vr 0 0), some (vi x2), none, none] [] wl0 L0 0 0 S Sm := by
  intro n
  induction n with
  | zero =>
    intro x2 S hF
    rw [fX8_weigh_2] at hF
    cases hF
  | succ n ih =>
    intro x2 S hF
    rw [fX8_weigh_2] at hF
    refine hJ.iload_n (pc := 2) dX8_weigh_2 rfl ?_
    refine hJ.aload_n (pc := 3) dX8_weigh_3 rfl ?_
    refine hJ.gI (pc := 4) dX8_weigh_4 fi_X8_32 ?_
    refine hJ.icmp_ge (pc := 7) 116 dX8_weigh_7 (by decide) (fun h1 => ?_) (fun h1 => ?_)
    · rw [if_pos h1] at hF
      cases hF
      exact hR.v (pc := 116) dX8_weigh_116
    · rw [if_neg h1] at hF
      refine hJ.aload_n (pc := 10) dX8_weigh_10 rfl ?_
      refine hJ.gR (pc := 11) (k' := 28) (i' := 0) dX8_weigh_11 fr_X8_9 rfl ?_
      refine hJ.iload_n (pc := 14) dX8_weigh_14 rfl ?_
      refine hJ.aload_n (pc := 15) dX8_weigh_15 rfl ?_
      refine hJ.aload_n (pc := 16) dX8_weigh_16 rfl ?_
      refine hJ.aload_n (pc := 17) dX8_weigh_17 rfl ?_
      refine hJ.gR (pc := 18) (k' := 14) (i' := 0) dX8_weigh_18 fr_X8_37 rfl ?_
      refine hJ.iload_n (pc := 21) dX8_weigh_21 rfl ?_
      obtain ⟨j2, h3, hF⟩ := bn_some hF
      refine hJ.aald (pc := 22) (k' := 5) (i' := j2) dX8_weigh_22 aq_14 rfl h3 (L0_14_0 (ix_some h3).2.2) ?_
      obtain ⟨r6, S5, h4, hF⟩ := bd_some hF
      refine hJ.cV (pc := 23) [vr 0 0, vr 5 j2] [vi x2, vr 28 0] [vi r6, vi x2, vr 28 0] dX8_weigh_23 lk_X8_41 (ctX8_claimsStand j2 _ _ _ _ h4) rfl rfl rfl rfl ?_
      refine hJ.if_eq (pc := 26) 35 dX8_weigh_26 (by decide) (fun h7 => ?_) (fun h7 => ?_)
      · rw [if_pos h7] at hF
        refine hJ.iconst (pc := 35) 0 dX8_weigh_35 ic_0 ?_
        refine hJ.siast (pc := 36) dX8_weigh_36 al_28 h3 ?_
        refine hJ.iconst (pc := 37) 0 dX8_weigh_37 ic_0 ?_
        refine hJ.istore_n (pc := 38) [some (vr 8 0), some (vr 0 0), some (vi x2), some (vi 0), none] dX8_weigh_38 (by decide) rfl ?_
        obtain ⟨S20, h21, hF⟩ := bn_some hF
        refine wX8_weigh_39 hJ 5000 x2 0 (up S5 28 0 j2 0) h21 ?_
        refine hJ.iinc (pc := 110) (x2 + 1) [some (vr 8 0), some (vr 0 0), some (vi (x2 + 1)), none, none] dX8_weigh_110 (by decide) rfl (congrArg (fun z => x2 + z) ic_1) rfl ?_
        refine hJ.goto (pc := 113) 2 dX8_weigh_113 (by decide) ?_
        exact ih (x2 + 1) S20 hF
      · rw [if_neg h7] at hF
        refine hJ.sipush (pc := 29) 4096 dX8_weigh_29 sc_4096 ?_
        refine hJ.goto (pc := 32) 36 dX8_weigh_32 (by decide) ?_
        refine hJ.siast (pc := 36) dX8_weigh_36 al_28 h3 ?_
        refine hJ.iconst (pc := 37) 0 dX8_weigh_37 ic_0 ?_
        refine hJ.istore_n (pc := 38) [some (vr 8 0), some (vr 0 0), some (vi x2), some (vi 0), none] dX8_weigh_38 (by decide) rfl ?_
        obtain ⟨S22, h23, hF⟩ := bn_some hF
        refine wX8_weigh_39 hJ 5000 x2 0 (up S5 28 0 j2 4096) h23 ?_
        refine hJ.iinc (pc := 110) (x2 + 1) [some (vr 8 0), some (vr 0 0), some (vi (x2 + 1)), none, none] dX8_weigh_110 (by decide) rfl (congrArg (fun z => x2 + z) ic_1) rfl ?_
        refine hJ.goto (pc := 113) 2 dX8_weigh_113 (by decide) ?_
        exact ih (x2 + 1) S22 hF
set_option maxRecDepth 100000 in
set_option maxHeartbeats 4000000 in
theorem ctX8_weigh (S Sm : Mem) (S' : Mem) (hF : fX8_weigh S = some (S')) : Ct yX8_weigh cX8_weigh 5 none 5 118 0 0 [vr 8 0, vr 0 0] wl0 L0 S Sm none wl0 L0 S' Sm := by
  refine Ct.of RX8 false (by decide) rfl (fun h => by cases h) (Nat.le_of_ble_eq_true rfl) (fun J hJ hR => ?_)
  rw [fX8_weigh] at hF
  show J 0 [some (vr 8 0), some (vr 0 0), none, none, none] [] wl0 L0 0 0 S Sm
  refine hJ.iconst (pc := 0) 0 dX8_weigh_0 ic_0 ?_
  refine hJ.istore_n (pc := 1) [some (vr 8 0), some (vr 0 0), some (vi 0), none, none] dX8_weigh_1 (by decide) rfl ?_
  exact wX8_weigh_2 hJ hR 5000 0 S hF
set_option maxRecDepth 100000 in
set_option maxHeartbeats 4000000 in
theorem ctJ6_bitCount_0f7a4 (p0 : Int32) (Sc Sm : Mem) (r : Int32) (hF : fJ6_bitCount_0f7a4 p0 = r) : Ct yJ6_bitCount_0f7a4 cJ6_bitCount_0f7a4 1 (some .int) 0 0 0 0 [vi p0] wl0 L0 Sc Sm (some (vi r)) wl0 L0 Sc Sm := by
  refine Ct.of RJ6 false (by decide) rfl (fun h => by cases h) (Nat.le_of_ble_eq_true rfl) (fun J hJ hR => ?_)
  rw [fJ6_bitCount_0f7a4] at hF
  show J 0 [some (vi p0)] [] wl0 L0 0 0 Sc Sm
  refine hJ.iload_n (pc := 0) dJ6_bitCount_0f7a4_0 rfl ?_
  refine hJ.iload_n (pc := 1) dJ6_bitCount_0f7a4_1 rfl ?_
  refine hJ.iconst (pc := 2) 1 dJ6_bitCount_0f7a4_2 ic_1 ?_
  refine hJ.iushr (pc := 3) dJ6_bitCount_0f7a4_3 ?_
  refine hJ.ldc_w (pc := 4) (v := 1431655765) dJ6_bitCount_0f7a4_4 kw_J6_265 ?_
  refine hJ.iand (pc := 7) dJ6_bitCount_0f7a4_7 ?_
  refine hJ.isub (pc := 8) dJ6_bitCount_0f7a4_8 ?_
  refine hJ.istore_n (pc := 9) [some (vi (p0 - ((ushr p0 1) &&& 1431655765)))] dJ6_bitCount_0f7a4_9 (by decide) rfl ?_
  refine hJ.iload_n (pc := 10) dJ6_bitCount_0f7a4_10 rfl ?_
  refine hJ.ldc_w (pc := 11) (v := 858993459) dJ6_bitCount_0f7a4_11 kw_J6_266 ?_
  refine hJ.iand (pc := 14) dJ6_bitCount_0f7a4_14 ?_
  refine hJ.iload_n (pc := 15) dJ6_bitCount_0f7a4_15 rfl ?_
  refine hJ.iconst (pc := 16) 2 dJ6_bitCount_0f7a4_16 ic_2 ?_
  refine hJ.iushr (pc := 17) dJ6_bitCount_0f7a4_17 ?_
  refine hJ.ldc_w (pc := 18) (v := 858993459) dJ6_bitCount_0f7a4_18 kw_J6_266 ?_
  refine hJ.iand (pc := 21) dJ6_bitCount_0f7a4_21 ?_
  refine hJ.iadd (pc := 22) dJ6_bitCount_0f7a4_22 ?_
  refine hJ.istore_n (pc := 23) [some (vi (((p0 - ((ushr p0 1) &&& 1431655765)) &&& 858993459) + ((ushr (p0 - ((ushr p0 1) &&& 1431655765)) 2) &&& 858993459)))] dJ6_bitCount_0f7a4_23 (by decide) rfl ?_
  refine hJ.iload_n (pc := 24) dJ6_bitCount_0f7a4_24 rfl ?_
  refine hJ.iload_n (pc := 25) dJ6_bitCount_0f7a4_25 rfl ?_
  refine hJ.iconst (pc := 26) 4 dJ6_bitCount_0f7a4_26 ic_4 ?_
  refine hJ.iushr (pc := 27) dJ6_bitCount_0f7a4_27 ?_
  refine hJ.iadd (pc := 28) dJ6_bitCount_0f7a4_28 ?_
  refine hJ.ldc_w (pc := 29) (v := 252645135) dJ6_bitCount_0f7a4_29 kw_J6_267 ?_
  refine hJ.iand (pc := 32) dJ6_bitCount_0f7a4_32 ?_
  refine hJ.istore_n (pc := 33) [some (vi (((((p0 - ((ushr p0 1) &&& 1431655765)) &&& 858993459) + ((ushr (p0 - ((ushr p0 1) &&& 1431655765)) 2) &&& 858993459)) + (ushr (((p0 - ((ushr p0 1) &&& 1431655765)) &&& 858993459) + ((ushr (p0 - ((ushr p0 1) &&& 1431655765)) 2) &&& 858993459)) 4)) &&& 252645135))] dJ6_bitCount_0f7a4_33 (by decide) rfl ?_
  refine hJ.iload_n (pc := 34) dJ6_bitCount_0f7a4_34 rfl ?_
  refine hJ.iload_n (pc := 35) dJ6_bitCount_0f7a4_35 rfl ?_
  refine hJ.bipush (pc := 36) 8 dJ6_bitCount_0f7a4_36 bc_8 ?_
  refine hJ.iushr (pc := 38) dJ6_bitCount_0f7a4_38 ?_
  refine hJ.iadd (pc := 39) dJ6_bitCount_0f7a4_39 ?_
  refine hJ.istore_n (pc := 40) [some (vi ((((((p0 - ((ushr p0 1) &&& 1431655765)) &&& 858993459) + ((ushr (p0 - ((ushr p0 1) &&& 1431655765)) 2) &&& 858993459)) + (ushr (((p0 - ((ushr p0 1) &&& 1431655765)) &&& 858993459) + ((ushr (p0 - ((ushr p0 1) &&& 1431655765)) 2) &&& 858993459)) 4)) &&& 252645135) + (ushr (((((p0 - ((ushr p0 1) &&& 1431655765)) &&& 858993459) + ((ushr (p0 - ((ushr p0 1) &&& 1431655765)) 2) &&& 858993459)) + (ushr (((p0 - ((ushr p0 1) &&& 1431655765)) &&& 858993459) + ((ushr (p0 - ((ushr p0 1) &&& 1431655765)) 2) &&& 858993459)) 4)) &&& 252645135) 8)))] dJ6_bitCount_0f7a4_40 (by decide) rfl ?_
  refine hJ.iload_n (pc := 41) dJ6_bitCount_0f7a4_41 rfl ?_
  refine hJ.iload_n (pc := 42) dJ6_bitCount_0f7a4_42 rfl ?_
  refine hJ.bipush (pc := 43) 16 dJ6_bitCount_0f7a4_43 bc_16 ?_
  refine hJ.iushr (pc := 45) dJ6_bitCount_0f7a4_45 ?_
  refine hJ.iadd (pc := 46) dJ6_bitCount_0f7a4_46 ?_
  refine hJ.istore_n (pc := 47) [some (vi (((((((p0 - ((ushr p0 1) &&& 1431655765)) &&& 858993459) + ((ushr (p0 - ((ushr p0 1) &&& 1431655765)) 2) &&& 858993459)) + (ushr (((p0 - ((ushr p0 1) &&& 1431655765)) &&& 858993459) + ((ushr (p0 - ((ushr p0 1) &&& 1431655765)) 2) &&& 858993459)) 4)) &&& 252645135) + (ushr (((((p0 - ((ushr p0 1) &&& 1431655765)) &&& 858993459) + ((ushr (p0 - ((ushr p0 1) &&& 1431655765)) 2) &&& 858993459)) + (ushr (((p0 - ((ushr p0 1) &&& 1431655765)) &&& 858993459) + ((ushr (p0 - ((ushr p0 1) &&& 1431655765)) 2) &&& 858993459)) 4)) &&& 252645135) 8)) + (ushr ((((((p0 - ((ushr p0 1) &&& 1431655765)) &&& 858993459) + ((ushr (p0 - ((ushr p0 1) &&& 1431655765)) 2) &&& 858993459)) + (ushr (((p0 - ((ushr p0 1) &&& 1431655765)) &&& 858993459) + ((ushr (p0 - ((ushr p0 1) &&& 1431655765)) 2) &&& 858993459)) 4)) &&& 252645135) + (ushr (((((p0 - ((ushr p0 1) &&& 1431655765)) &&& 858993459) + ((ushr (p0 - ((ushr p0 1) &&& 1431655765)) 2) &&& 858993459)) + (ushr (((p0 - ((ushr p0 1) &&& 1431655765)) &&& 858993459) + ((ushr (p0 - ((ushr p0 1) &&& 1431655765)) 2) &&& 858993459)) 4)) &&& 252645135) 8)) 16)))] dJ6_bitCount_0f7a4_47 (by decide) rfl ?_
  refine hJ.iload_n (pc := 48) dJ6_bitCount_0f7a4_48 rfl ?_
  refine hJ.bipush (pc := 49) 63 dJ6_bitCount_0f7a4_49 bc_63 ?_
  refine hJ.iand (pc := 51) dJ6_bitCount_0f7a4_51 ?_
  cases hF
  exact hR.i (pc := 52) dJ6_bitCount_0f7a4_52
set_option maxRecDepth 100000 in
set_option maxHeartbeats 4000000 in
theorem wX8_suffices_2 {J : Nat → Lv → List AV → Obs → Lay → Nat → Nat → Mem → Mem → Prop} (hJ : Cl RX8 cX8_suffices 4 0 0 0 0 none false J) {r : Int32} {Sm S : Mem} (hR : Rk cX8_suffices (some .boolean) (some (vi r)) wl0 L0 0 0 S Sm J) : ∀ (n : Nat) (x2 : Int32) (x3 : Int32), fX8_suffices_2 n x2 x3 S = some r → J 2 [some (vr 8 0), some (vr 0 0), some (vi x2), some (vi x3)] [] wl0 L0 0 0 S Sm := by
  intro n
  induction n with
  | zero =>
    intro x2 x3 hF
    rw [fX8_suffices_2] at hF
    cases hF
  | succ n ih =>
    intro x2 x3 hF
    rw [fX8_suffices_2] at hF
    refine hJ.iload_n (pc := 2) dX8_suffices_2 rfl ?_
    refine hJ.aload_n (pc := 3) dX8_suffices_3 rfl ?_
    refine hJ.gI (pc := 4) dX8_suffices_4 fi_X8_32 ?_
    refine hJ.icmp_ge (pc := 7) 33 dX8_suffices_7 (by decide) (fun h1 => ?_) (fun h1 => ?_)
    · rw [if_pos h1] at hF
      refine hJ.iconst (pc := 33) 1 dX8_suffices_33 ic_1 ?_
      cases hF
      exact hR.n (pc := 34) (by decide) dX8_suffices_34
    · rw [if_neg h1] at hF
      refine hJ.aload_n (pc := 10) dX8_suffices_10 rfl ?_
      refine hJ.gR (pc := 11) (k' := 28) (i' := 0) dX8_suffices_11 fr_X8_9 rfl ?_
      refine hJ.iload_n (pc := 14) dX8_suffices_14 rfl ?_
      obtain ⟨j2, h3, hF⟩ := bn_some hF
      refine hJ.liald (pc := 15) dX8_suffices_15 al_28 h3 ?_
      refine hJ.iload_n (pc := 16) dX8_suffices_16 rfl ?_
      refine hJ.sipush (pc := 17) 4096 dX8_suffices_17 sc_4096 ?_
      refine hJ.ior (pc := 20) dX8_suffices_20 ?_
      refine hJ.iand (pc := 21) dX8_suffices_21 ?_
      refine hJ.if_ne (pc := 22) 27 dX8_suffices_22 (by decide) (fun h4 => ?_) (fun h4 => ?_)
      · rw [if_neg h4] at hF
        refine hJ.iinc (pc := 27) (x3 + 1) [some (vr 8 0), some (vr 0 0), some (vi x2), some (vi (x3 + 1))] dX8_suffices_27 (by decide) rfl (congrArg (fun z => x3 + z) ic_1) rfl ?_
        refine hJ.goto (pc := 30) 2 dX8_suffices_30 (by decide) ?_
        exact ih x2 (x3 + 1) hF
      · rw [if_pos h4] at hF
        refine hJ.iconst (pc := 25) 0 dX8_suffices_25 ic_0 ?_
        cases hF
        exact hR.n (pc := 26) (by decide) dX8_suffices_26
set_option maxRecDepth 100000 in
set_option maxHeartbeats 4000000 in
theorem ctX8_suffices (p1 : Int32) (S Sm : Mem) (r : Int32) (hF : fX8_suffices p1 S = some r) : Ct yX8_suffices cX8_suffices 4 (some .boolean) 0 0 0 0 [vr 8 0, vr 0 0, vi p1] wl0 L0 S Sm (some (vi r)) wl0 L0 S Sm := by
  refine Ct.of RX8 false (by decide) rfl (fun h => by cases h) (Nat.le_of_ble_eq_true rfl) (fun J hJ hR => ?_)
  rw [fX8_suffices] at hF
  show J 0 [some (vr 8 0), some (vr 0 0), some (vi p1), none] [] wl0 L0 0 0 S Sm
  refine hJ.iconst (pc := 0) 0 dX8_suffices_0 ic_0 ?_
  refine hJ.istore_n (pc := 1) [some (vr 8 0), some (vr 0 0), some (vi p1), some (vi 0)] dX8_suffices_1 (by decide) rfl ?_
  exact wX8_suffices_2 hJ hR 5000 p1 0 hF
set_option maxRecDepth 100000 in
set_option maxHeartbeats 4000000 in
theorem wX8_leastSet_8 {J : Nat → Lv → List AV → Obs → Lay → Nat → Nat → Mem → Mem → Prop} (hJ : Cl RX8 cX8_leastSet 5 1 23 0 0 none false J) {r : Int32} {Sm S : Mem} (hR : Rk cX8_leastSet (some .int) (some (vi r)) wl0 L0 0 0 S Sm J) : ∀ (n : Nat) (x2 : Int32) (x3 : Int32) (x4 : Int32), fX8_leastSet_8 n x2 x3 x4 S = some r → J 8 [some (vr 8 0), some (vr 0 0), some (vi x2), some (vi x3), some (vi x4)] [] wl0 L0 0 0 S Sm := by
  intro n
  induction n with
  | zero =>
    intro x2 x3 x4 hF
    rw [fX8_leastSet_8] at hF
    cases hF
  | succ n ih =>
    intro x2 x3 x4 hF
    rw [fX8_leastSet_8] at hF
    refine hJ.iload (pc := 8) dX8_leastSet_8 rfl ?_
    refine hJ.iconst (pc := 10) 1 dX8_leastSet_10 ic_1 ?_
    refine hJ.aload_n (pc := 11) dX8_leastSet_11 rfl ?_
    refine hJ.gI (pc := 12) dX8_leastSet_12 fi_X8_45 ?_
    refine hJ.ishl (pc := 15) dX8_leastSet_15 ?_
    refine hJ.icmp_ge (pc := 16) 53 dX8_leastSet_16 (by decide) (fun h1 => ?_) (fun h1 => ?_)
    · rw [if_pos h1] at hF
      refine hJ.iload_n (pc := 53) dX8_leastSet_53 rfl ?_
      cases hF
      exact hR.i (pc := 54) dX8_leastSet_54
    · rw [if_neg h1] at hF
      refine hJ.iload (pc := 19) dX8_leastSet_19 rfl ?_
      refine hJ.cS (pc := 21) [vi x4] [] [vi (fJ6_bitCount_0f7a4 x4)] dX8_leastSet_21 lk_X8_108 (ctJ6_bitCount_0f7a4 x4 _ _ (fJ6_bitCount_0f7a4 x4) rfl) rfl rfl rfl rfl ?_
      refine hJ.iload_n (pc := 24) dX8_leastSet_24 rfl ?_
      refine hJ.icmp_ge (pc := 25) 47 dX8_leastSet_25 (by decide) (fun h2 => ?_) (fun h2 => ?_)
      · rw [if_pos h2] at hF
        refine hJ.iinc (pc := 47) (x4 + 1) [some (vr 8 0), some (vr 0 0), some (vi x2), some (vi x3), some (vi (x4 + 1))] dX8_leastSet_47 (by decide) rfl (congrArg (fun z => x4 + z) ic_1) rfl ?_
        refine hJ.goto (pc := 50) 8 dX8_leastSet_50 (by decide) ?_
        exact ih x2 x3 (x4 + 1) hF
      · rw [if_neg h2] at hF
        refine hJ.aload_n (pc := 28) dX8_leastSet_28 rfl ?_
        refine hJ.aload_n (pc := 29) dX8_leastSet_29 rfl ?_
        refine hJ.iload (pc := 30) dX8_leastSet_30 rfl ?_
        obtain ⟨r4, h3, hF⟩ := bn_some hF
        refine hJ.cV (pc := 32) [vr 0 0, vi x4] [] [vi r4] dX8_leastSet_32 lk_X8_113 (ctX8_suffices x4 _ _ _ h3) rfl rfl rfl rfl ?_
        refine hJ.if_eq (pc := 35) 47 dX8_leastSet_35 (by decide) (fun h5 => ?_) (fun h5 => ?_)
        · rw [if_pos h5] at hF
          refine hJ.iinc (pc := 47) (x4 + 1) [some (vr 8 0), some (vr 0 0), some (vi x2), some (vi x3), some (vi (x4 + 1))] dX8_leastSet_47 (by decide) rfl (congrArg (fun z => x4 + z) ic_1) rfl ?_
          refine hJ.goto (pc := 50) 8 dX8_leastSet_50 (by decide) ?_
          exact ih x2 x3 (x4 + 1) hF
        · rw [if_neg h5] at hF
          refine hJ.iload (pc := 38) dX8_leastSet_38 rfl ?_
          refine hJ.istore_n (pc := 40) [some (vr 8 0), some (vr 0 0), some (vi x4), some (vi x3), some (vi x4)] dX8_leastSet_40 (by decide) rfl ?_
          refine hJ.iload (pc := 41) dX8_leastSet_41 rfl ?_
          refine hJ.cS (pc := 43) [vi x4] [] [vi (fJ6_bitCount_0f7a4 x4)] dX8_leastSet_43 lk_X8_108 (ctJ6_bitCount_0f7a4 x4 _ _ (fJ6_bitCount_0f7a4 x4) rfl) rfl rfl rfl rfl ?_
          refine hJ.istore_n (pc := 46) [some (vr 8 0), some (vr 0 0), some (vi x4), some (vi (fJ6_bitCount_0f7a4 x4)), some (vi x4)] dX8_leastSet_46 (by decide) rfl ?_
          refine hJ.iinc (pc := 47) (x4 + 1) [some (vr 8 0), some (vr 0 0), some (vi x4), some (vi (fJ6_bitCount_0f7a4 x4)), some (vi (x4 + 1))] dX8_leastSet_47 (by decide) rfl (congrArg (fun z => x4 + z) ic_1) rfl ?_
          refine hJ.goto (pc := 50) 8 dX8_leastSet_50 (by decide) ?_
          exact ih x4 (fJ6_bitCount_0f7a4 x4) (x4 + 1) hF
set_option maxRecDepth 100000 in
set_option maxHeartbeats 4000000 in
theorem ctX8_leastSet (S Sm : Mem) (r : Int32) (hF : fX8_leastSet S = some r) : Ct yX8_leastSet cX8_leastSet 5 (some .int) 1 23 0 0 [vr 8 0, vr 0 0] wl0 L0 S Sm (some (vi r)) wl0 L0 S Sm := by
  refine Ct.of RX8 false (by decide) rfl (fun h => by cases h) (Nat.le_of_ble_eq_true rfl) (fun J hJ hR => ?_)
  rw [fX8_leastSet] at hF
  show J 0 [some (vr 8 0), some (vr 0 0), none, none, none] [] wl0 L0 0 0 S Sm
  refine hJ.iconst (pc := 0) (-1) dX8_leastSet_0 ic_m1 ?_
  refine hJ.istore_n (pc := 1) [some (vr 8 0), some (vr 0 0), some (vi (-1)), none, none] dX8_leastSet_1 (by decide) rfl ?_
  refine hJ.bipush (pc := 2) 13 dX8_leastSet_2 bc_13 ?_
  refine hJ.istore_n (pc := 4) [some (vr 8 0), some (vr 0 0), some (vi (-1)), some (vi 13), none] dX8_leastSet_4 (by decide) rfl ?_
  refine hJ.iconst (pc := 5) 0 dX8_leastSet_5 ic_0 ?_
  refine hJ.istore (pc := 6) [some (vr 8 0), some (vr 0 0), some (vi (-1)), some (vi 13), some (vi 0)] dX8_leastSet_6 (by decide) rfl ?_
  exact wX8_leastSet_8 hJ hR 5000 (-1) 13 0 hF
set_option maxRecDepth 100000 in
set_option maxHeartbeats 4000000 in
theorem wJ6_numberOfTrailingZeros_0f7a4_62 {J : Nat → Lv → List AV → Obs → Lay → Nat → Nat → Mem → Mem → Prop} (hJ : Cl RJ6 cJ6_numberOfTrailingZeros_0f7a4 2 0 0 0 0 none false J) {r : Int32} {Sc Sm : Mem} (hR : Rk cJ6_numberOfTrailingZeros_0f7a4 (some .int) (some (vi r)) wl0 L0 0 0 Sc Sm J) (x0 : Int32) (x1 : Int32) (hF : fJ6_numberOfTrailingZeros_0f7a4_62 x0 x1 = r) : J 62 [some (vi x0), some (vi x1)] [] wl0 L0 0 0 Sc Sm := by
  rw [fJ6_numberOfTrailingZeros_0f7a4_62] at hF
  refine hJ.iload_n (pc := 62) dJ6_numberOfTrailingZeros_0f7a4_62 rfl ?_
  refine hJ.iconst (pc := 63) 4 dJ6_numberOfTrailingZeros_0f7a4_63 ic_4 ?_
  refine hJ.icmp_le (pc := 64) 74 dJ6_numberOfTrailingZeros_0f7a4_64 (by decide) (fun h5 => ?_) (fun h5 => ?_)
  · rw [if_pos h5] at hF
    refine hJ.iload_n (pc := 74) dJ6_numberOfTrailingZeros_0f7a4_74 rfl ?_
    refine hJ.iload_n (pc := 75) dJ6_numberOfTrailingZeros_0f7a4_75 rfl ?_
    refine hJ.iconst (pc := 76) 1 dJ6_numberOfTrailingZeros_0f7a4_76 ic_1 ?_
    refine hJ.iushr (pc := 77) dJ6_numberOfTrailingZeros_0f7a4_77 ?_
    refine hJ.iadd (pc := 78) dJ6_numberOfTrailingZeros_0f7a4_78 ?_
    cases hF
    exact hR.i (pc := 79) dJ6_numberOfTrailingZeros_0f7a4_79
  · rw [if_neg h5] at hF
    refine hJ.iinc (pc := 67) (x1 + 2) [some (vi x0), some (vi (x1 + 2))] dJ6_numberOfTrailingZeros_0f7a4_67 (by decide) rfl (congrArg (fun z => x1 + z) ic_2) rfl ?_
    refine hJ.iload_n (pc := 70) dJ6_numberOfTrailingZeros_0f7a4_70 rfl ?_
    refine hJ.iconst (pc := 71) 2 dJ6_numberOfTrailingZeros_0f7a4_71 ic_2 ?_
    refine hJ.iushr (pc := 72) dJ6_numberOfTrailingZeros_0f7a4_72 ?_
    refine hJ.istore_n (pc := 73) [some (vi (ushr x0 2)), some (vi (x1 + 2))] dJ6_numberOfTrailingZeros_0f7a4_73 (by decide) rfl ?_
    refine hJ.iload_n (pc := 74) dJ6_numberOfTrailingZeros_0f7a4_74 rfl ?_
    refine hJ.iload_n (pc := 75) dJ6_numberOfTrailingZeros_0f7a4_75 rfl ?_
    refine hJ.iconst (pc := 76) 1 dJ6_numberOfTrailingZeros_0f7a4_76 ic_1 ?_
    refine hJ.iushr (pc := 77) dJ6_numberOfTrailingZeros_0f7a4_77 ?_
    refine hJ.iadd (pc := 78) dJ6_numberOfTrailingZeros_0f7a4_78 ?_
    cases hF
    exact hR.i (pc := 79) dJ6_numberOfTrailingZeros_0f7a4_79
set_option maxRecDepth 100000 in
set_option maxHeartbeats 4000000 in
theorem wJ6_numberOfTrailingZeros_0f7a4_49 {J : Nat → Lv → List AV → Obs → Lay → Nat → Nat → Mem → Mem → Prop} (hJ : Cl RJ6 cJ6_numberOfTrailingZeros_0f7a4 2 0 0 0 0 none false J) {r : Int32} {Sc Sm : Mem} (hR : Rk cJ6_numberOfTrailingZeros_0f7a4 (some .int) (some (vi r)) wl0 L0 0 0 Sc Sm J) (x0 : Int32) (x1 : Int32) (hF : fJ6_numberOfTrailingZeros_0f7a4_49 x0 x1 = r) : J 49 [some (vi x0), some (vi x1)] [] wl0 L0 0 0 Sc Sm := by
  rw [fJ6_numberOfTrailingZeros_0f7a4_49] at hF
  refine hJ.iload_n (pc := 49) dJ6_numberOfTrailingZeros_0f7a4_49 rfl ?_
  refine hJ.bipush (pc := 50) 16 dJ6_numberOfTrailingZeros_0f7a4_50 bc_16 ?_
  refine hJ.icmp_le (pc := 52) 62 dJ6_numberOfTrailingZeros_0f7a4_52 (by decide) (fun h4 => ?_) (fun h4 => ?_)
  · rw [if_pos h4] at hF
    exact wJ6_numberOfTrailingZeros_0f7a4_62 hJ hR x0 x1 hF
  · rw [if_neg h4] at hF
    refine hJ.iinc (pc := 55) (x1 + 4) [some (vi x0), some (vi (x1 + 4))] dJ6_numberOfTrailingZeros_0f7a4_55 (by decide) rfl (congrArg (fun z => x1 + z) ic_4) rfl ?_
    refine hJ.iload_n (pc := 58) dJ6_numberOfTrailingZeros_0f7a4_58 rfl ?_
    refine hJ.iconst (pc := 59) 4 dJ6_numberOfTrailingZeros_0f7a4_59 ic_4 ?_
    refine hJ.iushr (pc := 60) dJ6_numberOfTrailingZeros_0f7a4_60 ?_
    refine hJ.istore_n (pc := 61) [some (vi (ushr x0 4)), some (vi (x1 + 4))] dJ6_numberOfTrailingZeros_0f7a4_61 (by decide) rfl ?_
    exact wJ6_numberOfTrailingZeros_0f7a4_62 hJ hR (ushr x0 4) (x1 + 4) hF
set_option maxRecDepth 100000 in
set_option maxHeartbeats 4000000 in
theorem wJ6_numberOfTrailingZeros_0f7a4_34 {J : Nat → Lv → List AV → Obs → Lay → Nat → Nat → Mem → Mem → Prop} (hJ : Cl RJ6 cJ6_numberOfTrailingZeros_0f7a4 2 0 0 0 0 none false J) {r : Int32} {Sc Sm : Mem} (hR : Rk cJ6_numberOfTrailingZeros_0f7a4 (some .int) (some (vi r)) wl0 L0 0 0 Sc Sm J) (x0 : Int32) (x1 : Int32) (hF : fJ6_numberOfTrailingZeros_0f7a4_34 x0 x1 = r) : J 34 [some (vi x0), some (vi x1)] [] wl0 L0 0 0 Sc Sm := by
  rw [fJ6_numberOfTrailingZeros_0f7a4_34] at hF
  refine hJ.iload_n (pc := 34) dJ6_numberOfTrailingZeros_0f7a4_34 rfl ?_
  refine hJ.sipush (pc := 35) 256 dJ6_numberOfTrailingZeros_0f7a4_35 sc_256 ?_
  refine hJ.icmp_le (pc := 38) 49 dJ6_numberOfTrailingZeros_0f7a4_38 (by decide) (fun h3 => ?_) (fun h3 => ?_)
  · rw [if_pos h3] at hF
    exact wJ6_numberOfTrailingZeros_0f7a4_49 hJ hR x0 x1 hF
  · rw [if_neg h3] at hF
    refine hJ.iinc (pc := 41) (x1 + 8) [some (vi x0), some (vi (x1 + 8))] dJ6_numberOfTrailingZeros_0f7a4_41 (by decide) rfl (congrArg (fun z => x1 + z) ic_8) rfl ?_
    refine hJ.iload_n (pc := 44) dJ6_numberOfTrailingZeros_0f7a4_44 rfl ?_
    refine hJ.bipush (pc := 45) 8 dJ6_numberOfTrailingZeros_0f7a4_45 bc_8 ?_
    refine hJ.iushr (pc := 47) dJ6_numberOfTrailingZeros_0f7a4_47 ?_
    refine hJ.istore_n (pc := 48) [some (vi (ushr x0 8)), some (vi (x1 + 8))] dJ6_numberOfTrailingZeros_0f7a4_48 (by decide) rfl ?_
    exact wJ6_numberOfTrailingZeros_0f7a4_49 hJ hR (ushr x0 8) (x1 + 8) hF
set_option maxRecDepth 100000 in
set_option maxHeartbeats 4000000 in
theorem ctJ6_numberOfTrailingZeros_0f7a4 (p0 : Int32) (Sc Sm : Mem) (r : Int32) (hF : fJ6_numberOfTrailingZeros_0f7a4 p0 = r) : Ct yJ6_numberOfTrailingZeros_0f7a4 cJ6_numberOfTrailingZeros_0f7a4 2 (some .int) 0 0 0 0 [vi p0] wl0 L0 Sc Sm (some (vi r)) wl0 L0 Sc Sm := by
  refine Ct.of RJ6 false (by decide) rfl (fun h => by cases h) (Nat.le_of_ble_eq_true rfl) (fun J hJ hR => ?_)
  rw [fJ6_numberOfTrailingZeros_0f7a4] at hF
  show J 0 [some (vi p0), none] [] wl0 L0 0 0 Sc Sm
  refine hJ.iload_n (pc := 0) dJ6_numberOfTrailingZeros_0f7a4_0 rfl ?_
  refine hJ.iconst (pc := 1) (-1) dJ6_numberOfTrailingZeros_0f7a4_1 ic_m1 ?_
  refine hJ.ixor (pc := 2) dJ6_numberOfTrailingZeros_0f7a4_2 ?_
  refine hJ.iload_n (pc := 3) dJ6_numberOfTrailingZeros_0f7a4_3 rfl ?_
  refine hJ.iconst (pc := 4) 1 dJ6_numberOfTrailingZeros_0f7a4_4 ic_1 ?_
  refine hJ.isub (pc := 5) dJ6_numberOfTrailingZeros_0f7a4_5 ?_
  refine hJ.iand (pc := 6) dJ6_numberOfTrailingZeros_0f7a4_6 ?_
  refine hJ.istore_n (pc := 7) [some (vi ((p0 ^^^ (-1)) &&& (p0 - 1))), none] dJ6_numberOfTrailingZeros_0f7a4_7 (by decide) rfl ?_
  refine hJ.iload_n (pc := 8) dJ6_numberOfTrailingZeros_0f7a4_8 rfl ?_
  refine hJ.if_gt (pc := 9) 17 dJ6_numberOfTrailingZeros_0f7a4_9 (by decide) (fun h1 => ?_) (fun h1 => ?_)
  · rw [if_pos h1] at hF
    refine hJ.iconst (pc := 17) 1 dJ6_numberOfTrailingZeros_0f7a4_17 ic_1 ?_
    refine hJ.istore_n (pc := 18) [some (vi ((p0 ^^^ (-1)) &&& (p0 - 1))), some (vi 1)] dJ6_numberOfTrailingZeros_0f7a4_18 (by decide) rfl ?_
    refine hJ.iload_n (pc := 19) dJ6_numberOfTrailingZeros_0f7a4_19 rfl ?_
    refine hJ.ldc_w (pc := 20) (v := 65536) dJ6_numberOfTrailingZeros_0f7a4_20 kw_J6_264 ?_
    refine hJ.icmp_le (pc := 23) 34 dJ6_numberOfTrailingZeros_0f7a4_23 (by decide) (fun h2 => ?_) (fun h2 => ?_)
    · rw [if_pos h2] at hF
      exact wJ6_numberOfTrailingZeros_0f7a4_34 hJ hR ((p0 ^^^ (-1)) &&& (p0 - 1)) 1 hF
    · rw [if_neg h2] at hF
      refine hJ.iinc (pc := 26) (1 + 16) [some (vi ((p0 ^^^ (-1)) &&& (p0 - 1))), some (vi (1 + 16))] dJ6_numberOfTrailingZeros_0f7a4_26 (by decide) rfl (congrArg (fun z => 1 + z) ic_16) rfl ?_
      refine hJ.iload_n (pc := 29) dJ6_numberOfTrailingZeros_0f7a4_29 rfl ?_
      refine hJ.bipush (pc := 30) 16 dJ6_numberOfTrailingZeros_0f7a4_30 bc_16 ?_
      refine hJ.iushr (pc := 32) dJ6_numberOfTrailingZeros_0f7a4_32 ?_
      refine hJ.istore_n (pc := 33) [some (vi (ushr ((p0 ^^^ (-1)) &&& (p0 - 1)) 16)), some (vi (1 + 16))] dJ6_numberOfTrailingZeros_0f7a4_33 (by decide) rfl ?_
      exact wJ6_numberOfTrailingZeros_0f7a4_34 hJ hR (ushr ((p0 ^^^ (-1)) &&& (p0 - 1)) 16) (1 + 16) hF
  · rw [if_neg h1] at hF
    refine hJ.iload_n (pc := 12) dJ6_numberOfTrailingZeros_0f7a4_12 rfl ?_
    refine hJ.bipush (pc := 13) 32 dJ6_numberOfTrailingZeros_0f7a4_13 bc_32 ?_
    refine hJ.iand (pc := 15) dJ6_numberOfTrailingZeros_0f7a4_15 ?_
    cases hF
    exact hR.i (pc := 16) dJ6_numberOfTrailingZeros_0f7a4_16
set_option maxRecDepth 100000 in
set_option maxHeartbeats 4000000 in
theorem ctX8_readerOf (p1 : Int32) (p2 : Int32) (S Sm : Mem) (r : Int32) (hF : fX8_readerOf p1 p2 S = some r) : Ct yX8_readerOf cX8_readerOf 4 (some .int) 1 22 0 0 [vr 8 0, vr 0 0, vi p1, vi p2] wl0 L0 S Sm (some (vi r)) wl0 L0 S Sm := by
  refine Ct.of RX8 false (by decide) rfl (fun h => by cases h) (Nat.le_of_ble_eq_true rfl) (fun J hJ hR => ?_)
  rw [fX8_readerOf] at hF
  show J 0 [some (vr 8 0), some (vr 0 0), some (vi p1), some (vi p2)] [] wl0 L0 0 0 S Sm
  refine hJ.iload_n (pc := 0) dX8_readerOf_0 rfl ?_
  refine hJ.iconst (pc := 1) 0 dX8_readerOf_1 ic_0 ?_
  refine hJ.aload_n (pc := 2) dX8_readerOf_2 rfl ?_
  refine hJ.gI (pc := 3) dX8_readerOf_3 fi_X8_32 ?_
  refine hJ.iconst (pc := 6) 1 dX8_readerOf_6 ic_1 ?_
  refine hJ.isub (pc := 7) dX8_readerOf_7 ?_
  refine hJ.cSN (pc := 8) [vi p1, vi 0, vi ((S 0 0 7) - 1)] [] [vi (fX11_within p1 0 ((S 0 0 7) - 1))] dX8_readerOf_8 lk_X8_104 (ctX11_within p1 0 ((S 0 0 7) - 1) _ _ (fX11_within p1 0 ((S 0 0 7) - 1)) rfl) rfl rfl rfl rfl ?_
  refine hJ.if_eq (pc := 11) 27 dX8_readerOf_11 (by decide) (fun h1 => ?_) (fun h1 => ?_)
  · rw [if_pos h1] at hF
    refine hJ.iconst (pc := 27) (-1) dX8_readerOf_27 ic_m1 ?_
    cases hF
    exact hR.i (pc := 28) dX8_readerOf_28
  · rw [if_neg h1] at hF
    refine hJ.aload_n (pc := 14) dX8_readerOf_14 rfl ?_
    refine hJ.gR (pc := 15) (k' := 28) (i' := 0) dX8_readerOf_15 fr_X8_9 rfl ?_
    refine hJ.iload_n (pc := 18) dX8_readerOf_18 rfl ?_
    obtain ⟨j2, h3, hF⟩ := bn_some hF
    refine hJ.liald (pc := 19) dX8_readerOf_19 al_28 h3 ?_
    refine hJ.sipush (pc := 20) 4096 dX8_readerOf_20 sc_4096 ?_
    refine hJ.iand (pc := 23) dX8_readerOf_23 ?_
    refine hJ.if_eq (pc := 24) 29 dX8_readerOf_24 (by decide) (fun h4 => ?_) (fun h4 => ?_)
    · rw [if_pos h4] at hF
      refine hJ.aload_n (pc := 29) dX8_readerOf_29 rfl ?_
      refine hJ.gR (pc := 30) (k' := 28) (i' := 0) dX8_readerOf_30 fr_X8_9 rfl ?_
      refine hJ.iload_n (pc := 33) dX8_readerOf_33 rfl ?_
      refine hJ.liald (pc := 34) dX8_readerOf_34 al_28 h3 ?_
      refine hJ.iload_n (pc := 35) dX8_readerOf_35 rfl ?_
      refine hJ.iand (pc := 36) dX8_readerOf_36 ?_
      refine hJ.cS (pc := 37) [vi ((S 28 0 j2) &&& p2)] [] [vi (fJ6_numberOfTrailingZeros_0f7a4 ((S 28 0 j2) &&& p2))] dX8_readerOf_37 lk_X8_117 (ctJ6_numberOfTrailingZeros_0f7a4 ((S 28 0 j2) &&& p2) _ _ (fJ6_numberOfTrailingZeros_0f7a4 ((S 28 0 j2) &&& p2)) rfl) rfl rfl rfl rfl ?_
      cases hF
      exact hR.i (pc := 40) dX8_readerOf_40
    · rw [if_neg h4] at hF
      refine hJ.iconst (pc := 27) (-1) dX8_readerOf_27 ic_m1 ?_
      cases hF
      exact hR.i (pc := 28) dX8_readerOf_28
set_option maxRecDepth 100000 in
set_option maxHeartbeats 4000000 in
theorem wX11_fewest_17 {J : Nat → Lv → List AV → Obs → Lay → Nat → Nat → Mem → Mem → Prop} (hJ : Cl RX11 cX11_fewest 4 6 142 0 0 none false J) {r : Int32} {Sm S' : Mem} (hR : Rk cX11_fewest (some .int) (some (vi r)) wl0 L0 0 0 S' Sm J) (x1 : Int32) (S : Mem) (hF : fX11_fewest_17 x1 S = some (r, S')) : J 17 [some (vr 11 0), some (vi x1), none, none] [] wl0 L0 0 0 S Sm := by
  rw [fX11_fewest_17] at hF
  refine hJ.aload_n (pc := 17) dX11_fewest_17 rfl ?_
  refine hJ.gR (pc := 18) (k' := 0) (i' := 0) dX11_fewest_18 fr_X11_10 rfl ?_
  refine hJ.gR (pc := 21) (k' := 2) (i' := 0) dX11_fewest_21 fr_X11_232 rfl ?_
  refine hJ.aload_n (pc := 24) dX11_fewest_24 rfl ?_
  refine hJ.gR (pc := 25) (k' := 0) (i' := 0) dX11_fewest_25 fr_X11_10 rfl ?_
  refine hJ.gI (pc := 28) dX11_fewest_28 fi_X11_80 ?_
  obtain ⟨r3, h2, hF⟩ := bn_some hF
  refine hJ.cV (pc := 31) [vi (S 0 0 8)] [] [vi r3] dX11_fewest_31 lk_X11_243 (ctX2_anyWentBy (S 0 0 8) _ _ _ h2) rfl rfl rfl rfl ?_
  refine hJ.if_eq (pc := 34) 39 dX11_fewest_34 (by decide) (fun h4 => ?_) (fun h4 => ?_)
  · rw [if_pos h4] at hF
    refine hJ.aload_n (pc := 39) dX11_fewest_39 rfl ?_
    refine hJ.gR (pc := 40) (k' := 8) (i' := 0) dX11_fewest_40 fr_X11_47 rfl ?_
    refine hJ.aload_n (pc := 43) dX11_fewest_43 rfl ?_
    refine hJ.gR (pc := 44) (k' := 0) (i' := 0) dX11_fewest_44 fr_X11_10 rfl ?_
    obtain ⟨S6, h5, hF⟩ := bn_some hF
    refine hJ.cV (pc := 47) [vr 0 0] [] [] dX11_fewest_47 lk_X11_246 (ctX8_weigh _ _ _ h5) rfl rfl rfl rfl ?_
    refine hJ.aload_n (pc := 50) dX11_fewest_50 rfl ?_
    refine hJ.gR (pc := 51) (k' := 8) (i' := 0) dX11_fewest_51 fr_X11_47 rfl ?_
    refine hJ.aload_n (pc := 54) dX11_fewest_54 rfl ?_
    refine hJ.gR (pc := 55) (k' := 0) (i' := 0) dX11_fewest_55 fr_X11_10 rfl ?_
    obtain ⟨r8, h7, hF⟩ := bn_some hF
    refine hJ.cV (pc := 58) [vr 0 0] [] [vi r8] dX11_fewest_58 lk_X11_250 (ctX8_leastSet _ _ _ h7) rfl rfl rfl rfl ?_
    refine hJ.istore_n (pc := 61) [some (vr 11 0), some (vi x1), none, some (vi r8)] dX11_fewest_61 (by decide) rfl ?_
    refine hJ.iload_n (pc := 62) dX11_fewest_62 rfl ?_
    refine hJ.if_eq (pc := 63) 71 dX11_fewest_63 (by decide) (fun h9 => ?_) (fun h9 => ?_)
    · rw [if_pos h9] at hF
      refine hJ.iload_n (pc := 71) dX11_fewest_71 rfl ?_
      cases hF
      exact hR.i (pc := 72) dX11_fewest_72
    · rw [if_neg h9] at hF
      refine hJ.iload_n (pc := 66) dX11_fewest_66 rfl ?_
      refine hJ.iconst (pc := 67) (-1) dX11_fewest_67 ic_m1 ?_
      refine hJ.icmp_ne (pc := 68) 73 dX11_fewest_68 (by decide) (fun h10 => ?_) (fun h10 => ?_)
      · rw [if_neg h10] at hF
        refine hJ.aload_n (pc := 73) dX11_fewest_73 rfl ?_
        refine hJ.gR (pc := 74) (k' := 8) (i' := 0) dX11_fewest_74 fr_X11_47 rfl ?_
        refine hJ.aload_n (pc := 77) dX11_fewest_77 rfl ?_
        refine hJ.gR (pc := 78) (k' := 0) (i' := 0) dX11_fewest_78 fr_X11_10 rfl ?_
        refine hJ.iload_n (pc := 81) dX11_fewest_81 rfl ?_
        refine hJ.bipush (pc := 82) 10 dX11_fewest_82 bc_10 ?_
        refine hJ.isub (pc := 84) dX11_fewest_84 ?_
        refine hJ.iload_n (pc := 85) dX11_fewest_85 rfl ?_
        obtain ⟨r12, h11, hF⟩ := bn_some hF
        refine hJ.cV (pc := 86) [vr 0 0, vi (x1 - 10), vi r8] [] [vi r12] dX11_fewest_86 lk_X11_254 (ctX8_readerOf (x1 - 10) r8 _ _ _ h11) rfl rfl rfl rfl ?_
        cases hF
        exact hR.i (pc := 89) dX11_fewest_89
      · rw [if_pos h10] at hF
        refine hJ.iload_n (pc := 71) dX11_fewest_71 rfl ?_
        cases hF
        exact hR.i (pc := 72) dX11_fewest_72
  · rw [if_neg h4] at hF
    refine hJ.iconst (pc := 37) (-1) dX11_fewest_37 ic_m1 ?_
    cases hF
    exact hR.i (pc := 38) dX11_fewest_38
set_option maxRecDepth 100000 in
set_option maxHeartbeats 4000000 in
theorem ctX11_fewest (p0 : Int32) (S Sm : Mem) (r : Int32) (S' : Mem) (hF : fX11_fewest p0 S = some (r, S')) : Ct yX11_fewest cX11_fewest 4 (some .int) 6 142 0 0 [vr 11 0, vi p0] wl0 L0 S Sm (some (vi r)) wl0 L0 S' Sm := by
  refine Ct.of RX11 false (by decide) rfl (fun h => by cases h) (Nat.le_of_ble_eq_true rfl) (fun J hJ hR => ?_)
  rw [fX11_fewest] at hF
  show J 0 [some (vr 11 0), some (vi p0), none, none] [] wl0 L0 0 0 S Sm
  refine hJ.iload_n (pc := 0) dX11_fewest_0 rfl ?_
  refine hJ.bipush (pc := 1) 10 dX11_fewest_1 bc_10 ?_
  refine hJ.bipush (pc := 3) 21 dX11_fewest_3 bc_21 ?_
  refine hJ.cS (pc := 5) [vi p0, vi 10, vi 21] [] [vi (fX11_within p0 10 21)] dX11_fewest_5 lk_X11_56 (ctX11_within p0 10 21 _ _ (fX11_within p0 10 21) rfl) rfl rfl rfl rfl ?_
  refine hJ.istore_n (pc := 8) [some (vr 11 0), some (vi p0), some (vi (fX11_within p0 10 21)), none] dX11_fewest_8 (by decide) rfl ?_
  refine hJ.iload_n (pc := 9) dX11_fewest_9 rfl ?_
  refine hJ.if_eq (pc := 10) 17 dX11_fewest_10 (by decide) (fun h1 => ?_) (fun h1 => ?_)
  · rw [if_pos h1] at hF
    refine hJ.weak [some (vr 11 0), some (vi p0), none, none] ⟨rfl, rfl, trivial⟩ ?_
    exact wX11_fewest_17 hJ hR p0 S hF
  · rw [if_neg h1] at hF
    refine hJ.iload_n (pc := 13) dX11_fewest_13 rfl ?_
    refine hJ.if_eq (pc := 14) 37 dX11_fewest_14 (by decide) (fun h13 => ?_) (fun h13 => ?_)
    · rw [if_pos h13] at hF
      refine hJ.iconst (pc := 37) (-1) dX11_fewest_37 ic_m1 ?_
      cases hF
      exact hR.i (pc := 38) dX11_fewest_38
    · rw [if_neg h13] at hF
      refine hJ.weak [some (vr 11 0), some (vi p0), none, none] ⟨rfl, rfl, trivial⟩ ?_
      exact wX11_fewest_17 hJ hR p0 S hF
set_option maxRecDepth 100000 in
set_option maxHeartbeats 4000000 in
theorem wX8_countThumb_17 {J : Nat → Lv → List AV → Obs → Lay → Nat → Nat → Mem → Mem → Prop} (hJ : Cl RX8 cX8_countThumb 3 0 0 0 0 none false J) {Sm S' : Mem} (hR : Rk cX8_countThumb none none wl0 L0 0 0 S' Sm J) (S : Mem) (hF : fX8_countThumb_17 S = S') : J 17 [some (vr 8 0), none, none] [] wl0 L0 0 0 S Sm := by
  rw [fX8_countThumb_17] at hF
  refine hJ.aload_n (pc := 17) dX8_countThumb_17 rfl ?_
  refine hJ.dup (pc := 18) dX8_countThumb_18 ?_
  refine hJ.gI (pc := 19) dX8_countThumb_19 fi_X8_22 ?_
  refine hJ.iconst (pc := 22) 1 dX8_countThumb_22 ic_1 ?_
  refine hJ.iadd (pc := 23) dX8_countThumb_23 ?_
  refine hJ.pI (pc := 24) dX8_countThumb_24 fp_X8_22 ?_
  cases hF
  exact hR.v (pc := 27) dX8_countThumb_27
set_option maxRecDepth 100000 in
set_option maxHeartbeats 4000000 in
theorem ctX8_countThumb (p0 : Int32) (p1 : Int32) (S Sm : Mem) (S' : Mem) (hF : fX8_countThumb p0 p1 S = S') : Ct yX8_countThumb cX8_countThumb 3 none 0 0 0 0 [vr 8 0, vi p0, vi p1] wl0 L0 S Sm none wl0 L0 S' Sm := by
  refine Ct.of RX8 false (by decide) rfl (fun h => by cases h) (Nat.le_of_ble_eq_true rfl) (fun J hJ hR => ?_)
  rw [fX8_countThumb] at hF
  show J 0 [some (vr 8 0), some (vi p0), some (vi p1)] [] wl0 L0 0 0 S Sm
  refine hJ.aload_n (pc := 0) dX8_countThumb_0 rfl ?_
  refine hJ.gI (pc := 1) dX8_countThumb_1 fi_X8_22 ?_
  refine hJ.if_ne (pc := 4) 17 dX8_countThumb_4 (by decide) (fun h1 => ?_) (fun h1 => ?_)
  · rw [if_neg h1] at hF
    refine hJ.weak [some (vr 8 0), none, none] ⟨rfl, trivial⟩ ?_
    exact wX8_countThumb_17 hJ hR S hF
  · rw [if_pos h1] at hF
    refine hJ.aload_n (pc := 7) dX8_countThumb_7 rfl ?_
    refine hJ.iload_n (pc := 8) dX8_countThumb_8 rfl ?_
    refine hJ.pI (pc := 9) dX8_countThumb_9 fp_X8_26 ?_
    refine hJ.aload_n (pc := 12) dX8_countThumb_12 rfl ?_
    refine hJ.iload_n (pc := 13) dX8_countThumb_13 rfl ?_
    refine hJ.pI (pc := 14) dX8_countThumb_14 fp_X8_29 ?_
    refine hJ.weak [some (vr 8 0), none, none] ⟨rfl, trivial⟩ ?_
    exact wX8_countThumb_17 hJ hR (up (up S 8 0 3 p0) 8 0 4 p1) hF
set_option maxRecDepth 100000 in
set_option maxHeartbeats 4000000 in
theorem wX8_seekThumbs_51 {J : Nat → Lv → List AV → Obs → Lay → Nat → Nat → Mem → Mem → Prop} (hJ : Cl RX8 cX8_seekThumbs 8 4 94 0 0 none false J) {Sm : Mem} : ∀ (n : Nat) (c2 : Nat) (x3 : Int32) (x4 : Int32) (x5 : Int32) (x6 : Int32) (S : Mem) {S' : Mem}, fX8_seekThumbs_51 n c2 x3 x4 x5 x6 S = some S' → J 105 [some (vr 8 0), some (vr 0 0), some (vr 5 c2), some (vi x3), some (vi x4), some (vi x5), none, none] [] wl0 L0 0 0 (S') Sm → J 51 [some (vr 8 0), some (vr 0 0), some (vr 5 c2), some (vi x3), some (vi x4), some (vi x5), some (vi x6), none] [] wl0 L0 0 0 S Sm := by
  intro n
  induction n with
  | zero =>
    intro c2 x3 x4 x5 x6 S S' hF hK
    rw [fX8_seekThumbs_51] at hF
    cases hF
  | succ n ih =>
    intro c2 x3 x4 x5 x6 S S' hF hK
    rw [fX8_seekThumbs_51] at hF
    refine hJ.iload (pc := 51) dX8_seekThumbs_51 rfl ?_
    refine hJ.aload_n (pc := 53) dX8_seekThumbs_53 rfl ?_
    refine hJ.gI (pc := 54) dX8_seekThumbs_54 fi_X8_48 ?_
    refine hJ.icmp_gt (pc := 57) 105 dX8_seekThumbs_57 (by decide) (fun h2 => ?_) (fun h2 => ?_)
    · rw [if_pos h2] at hF
      cases hF
      refine hJ.weak [some (vr 8 0), some (vr 0 0), some (vr 5 c2), some (vi x3), some (vi x4), some (vi x5), none, none] ⟨rfl, rfl, rfl, rfl, rfl, rfl, trivial⟩ ?_
      exact hK
    · rw [if_neg h2] at hF
      refine hJ.aload_n (pc := 60) dX8_seekThumbs_60 rfl ?_
      refine hJ.aload_n (pc := 61) dX8_seekThumbs_61 rfl ?_
      refine hJ.aload_n (pc := 62) dX8_seekThumbs_62 rfl ?_
      refine hJ.iload (pc := 63) dX8_seekThumbs_63 rfl ?_
      refine hJ.iload (pc := 65) dX8_seekThumbs_65 rfl ?_
      obtain ⟨r4, S5, h3, hF⟩ := bd_some hF
      refine hJ.cV (pc := 67) [vr 0 0, vr 5 c2, vi x5, vi x6] [] [vq 5 r4] dX8_seekThumbs_67 lk_X8_51 (ctX8_imagine c2 x5 x6 _ _ _ _ h3) rfl rfl rfl rfl ?_
      cases r4 with
      | none =>
        rw [mt_n] at hF
        refine hJ.astore (pc := 70) [some (vr 8 0), some (vr 0 0), some (vr 5 c2), some (vi x3), some (vi x4), some (vi x5), some (vi x6), some (vn)] dX8_seekThumbs_70 (by decide) rfl ?_
        refine hJ.aload (pc := 72) dX8_seekThumbs_72 rfl ?_
        refine hJ.ifnullY (pc := 74) 99 dX8_seekThumbs_74 (by decide) ?_
        refine hJ.iinc (pc := 99) (x6 + 1) [some (vr 8 0), some (vr 0 0), some (vr 5 c2), some (vi x3), some (vi x4), some (vi x5), some (vi (x6 + 1)), some (vn)] dX8_seekThumbs_99 (by decide) rfl (congrArg (fun z => x6 + z) ic_1) rfl ?_
        refine hJ.goto (pc := 102) 51 dX8_seekThumbs_102 (by decide) ?_
        refine hJ.weak [some (vr 8 0), some (vr 0 0), some (vr 5 c2), some (vi x3), some (vi x4), some (vi x5), some (vi (x6 + 1)), none] ⟨rfl, rfl, rfl, rfl, rfl, rfl, rfl, trivial⟩ ?_
        exact ih c2 x3 x4 x5 (x6 + 1) S5 hF hK
      | some i6 =>
        rw [mt_s] at hF
        refine hJ.astore (pc := 70) [some (vr 8 0), some (vr 0 0), some (vr 5 c2), some (vi x3), some (vi x4), some (vi x5), some (vi x6), some (vr 5 i6)] dX8_seekThumbs_70 (by decide) rfl ?_
        refine hJ.aload (pc := 72) dX8_seekThumbs_72 rfl ?_
        refine hJ.ifnullN (pc := 74) dX8_seekThumbs_74 ?_
        refine hJ.aload_n (pc := 77) dX8_seekThumbs_77 rfl ?_
        refine hJ.aload (pc := 78) dX8_seekThumbs_78 rfl ?_
        refine hJ.aload_n (pc := 80) dX8_seekThumbs_80 rfl ?_
        refine hJ.gI (pc := 81) dX8_seekThumbs_81 fi_X8_48 ?_
        obtain ⟨r9, S8, h7, hF⟩ := bd_some hF
        refine hJ.cV (pc := 84) [vr 5 i6, vi (S5 0 0 8)] [] [vi r9] dX8_seekThumbs_84 lk_X8_94 (ctX0_ageOf i6 (S5 0 0 8) _ _ _ _ h7) rfl rfl rfl rfl ?_
        refine hJ.iload_n (pc := 87) dX8_seekThumbs_87 rfl ?_
        refine hJ.icmp_ne (pc := 88) 99 dX8_seekThumbs_88 (by decide) (fun h10 => ?_) (fun h10 => ?_)
        · rw [if_neg h10] at hF
          refine hJ.iinc (pc := 99) (x6 + 1) [some (vr 8 0), some (vr 0 0), some (vr 5 c2), some (vi x3), some (vi x4), some (vi x5), some (vi (x6 + 1)), some (vr 5 i6)] dX8_seekThumbs_99 (by decide) rfl (congrArg (fun z => x6 + z) ic_1) rfl ?_
          refine hJ.goto (pc := 102) 51 dX8_seekThumbs_102 (by decide) ?_
          refine hJ.weak [some (vr 8 0), some (vr 0 0), some (vr 5 c2), some (vi x3), some (vi x4), some (vi x5), some (vi (x6 + 1)), none] ⟨rfl, rfl, rfl, rfl, rfl, rfl, rfl, trivial⟩ ?_
          exact ih c2 x3 x4 x5 (x6 + 1) S8 hF hK
        · rw [if_pos h10] at hF
          refine hJ.aload_n (pc := 91) dX8_seekThumbs_91 rfl ?_
          refine hJ.iload (pc := 92) dX8_seekThumbs_92 rfl ?_
          refine hJ.iload (pc := 94) dX8_seekThumbs_94 rfl ?_
          refine hJ.cV (pc := 96) [vi x5, vi x6] [] [] dX8_seekThumbs_96 lk_X8_129 (ctX8_countThumb x5 x6 _ _ (fX8_countThumb x5 x6 S8) rfl) rfl rfl rfl rfl ?_
          refine hJ.iinc (pc := 99) (x6 + 1) [some (vr 8 0), some (vr 0 0), some (vr 5 c2), some (vi x3), some (vi x4), some (vi x5), some (vi (x6 + 1)), some (vr 5 i6)] dX8_seekThumbs_99 (by decide) rfl (congrArg (fun z => x6 + z) ic_1) rfl ?_
          refine hJ.goto (pc := 102) 51 dX8_seekThumbs_102 (by decide) ?_
          refine hJ.weak [some (vr 8 0), some (vr 0 0), some (vr 5 c2), some (vi x3), some (vi x4), some (vi x5), some (vi (x6 + 1)), none] ⟨rfl, rfl, rfl, rfl, rfl, rfl, rfl, trivial⟩ ?_
          exact ih c2 x3 x4 x5 (x6 + 1) (fX8_countThumb x5 x6 S8) hF hK
set_option maxRecDepth 100000 in
set_option maxHeartbeats 4000000 in
theorem wX8_seekThumbs_38 {J : Nat → Lv → List AV → Obs → Lay → Nat → Nat → Mem → Mem → Prop} (hJ : Cl RX8 cX8_seekThumbs 8 4 94 0 0 none false J) {Sm S' : Mem} (hR : Rk cX8_seekThumbs none none wl0 L0 0 0 S' Sm J) : ∀ (n : Nat) (c2 : Nat) (x3 : Int32) (x4 : Int32) (x5 : Int32) (S : Mem), fX8_seekThumbs_38 n c2 x3 x4 x5 S = some (S') → J 38 [some (vr 8 0), some (vr 0 0), some (vr 5 c2), some (vi x3), some (vi x4), some (vi x5), none, none] [] wl0 L0 0 0 S Sm := by
  intro n
  induction n with
  | zero =>
    intro c2 x3 x4 x5 S hF
    rw [fX8_seekThumbs_38] at hF
    cases hF
  | succ n ih =>
    intro c2 x3 x4 x5 S hF
    rw [fX8_seekThumbs_38] at hF
    refine hJ.iload (pc := 38) dX8_seekThumbs_38 rfl ?_
    refine hJ.aload_n (pc := 40) dX8_seekThumbs_40 rfl ?_
    refine hJ.gI (pc := 41) dX8_seekThumbs_41 fi_X8_45 ?_
    refine hJ.icmp_ge (pc := 44) 111 dX8_seekThumbs_44 (by decide) (fun h1 => ?_) (fun h1 => ?_)
    · rw [if_pos h1] at hF
      cases hF
      exact hR.v (pc := 111) dX8_seekThumbs_111
    · rw [if_neg h1] at hF
      refine hJ.iload (pc := 47) dX8_seekThumbs_47 rfl ?_
      refine hJ.istore (pc := 49) [some (vr 8 0), some (vr 0 0), some (vr 5 c2), some (vi x3), some (vi x4), some (vi x5), some (vi x4), none] dX8_seekThumbs_49 (by decide) rfl ?_
      obtain ⟨S11, h12, hF⟩ := bn_some hF
      refine wX8_seekThumbs_51 hJ 5000 c2 x3 x4 x5 x4 S h12 ?_
      refine hJ.iinc (pc := 105) (x5 + 1) [some (vr 8 0), some (vr 0 0), some (vr 5 c2), some (vi x3), some (vi x4), some (vi (x5 + 1)), none, none] dX8_seekThumbs_105 (by decide) rfl (congrArg (fun z => x5 + z) ic_1) rfl ?_
      refine hJ.goto (pc := 108) 38 dX8_seekThumbs_108 (by decide) ?_
      exact ih c2 x3 x4 (x5 + 1) S11 hF
set_option maxRecDepth 100000 in
set_option maxHeartbeats 4000000 in
theorem ctX8_seekThumbs (b1 : Nat) (p2 : Int32) (S Sm : Mem) (S' : Mem) (hF : fX8_seekThumbs b1 p2 S = some (S')) : Ct yX8_seekThumbs cX8_seekThumbs 8 none 4 94 0 0 [vr 8 0, vr 0 0, vr 5 b1, vi p2] wl0 L0 S Sm none wl0 L0 S' Sm := by
  refine Ct.of RX8 false (by decide) rfl (fun h => by cases h) (Nat.le_of_ble_eq_true rfl) (fun J hJ hR => ?_)
  rw [fX8_seekThumbs] at hF
  show J 0 [some (vr 8 0), some (vr 0 0), some (vr 5 b1), some (vi p2), none, none, none, none] [] wl0 L0 0 0 S Sm
  refine hJ.aload_n (pc := 0) dX8_seekThumbs_0 rfl ?_
  refine hJ.iconst (pc := 1) 0 dX8_seekThumbs_1 ic_0 ?_
  refine hJ.pI (pc := 2) dX8_seekThumbs_2 fp_X8_22 ?_
  refine hJ.aload_n (pc := 5) dX8_seekThumbs_5 rfl ?_
  refine hJ.iconst (pc := 6) (-1) dX8_seekThumbs_6 ic_m1 ?_
  refine hJ.pI (pc := 7) dX8_seekThumbs_7 fp_X8_26 ?_
  refine hJ.aload_n (pc := 10) dX8_seekThumbs_10 rfl ?_
  refine hJ.iconst (pc := 11) (-1) dX8_seekThumbs_11 ic_m1 ?_
  refine hJ.pI (pc := 12) dX8_seekThumbs_12 fp_X8_29 ?_
  refine hJ.aload_n (pc := 15) dX8_seekThumbs_15 rfl ?_
  refine hJ.gI (pc := 16) dX8_seekThumbs_16 fi_X8_120 ?_
  refine hJ.iconst (pc := 19) 0 dX8_seekThumbs_19 ic_0 ?_
  refine hJ.aload_n (pc := 20) dX8_seekThumbs_20 rfl ?_
  refine hJ.gI (pc := 21) dX8_seekThumbs_21 fi_X8_48 ?_
  refine hJ.bipush (pc := 24) 99 dX8_seekThumbs_24 bc_99 ?_
  refine hJ.isub (pc := 26) dX8_seekThumbs_26 ?_
  refine hJ.mmax (pc := 27) dX8_seekThumbs_27 mw_X8_123 ⟨Nat.le_of_ble_eq_true rfl, Nat.le_of_ble_eq_true rfl, Nat.zero_le _, Nat.zero_le _⟩ ?_
  refine hJ.mmax (pc := 30) dX8_seekThumbs_30 mw_X8_123 ⟨Nat.le_of_ble_eq_true rfl, Nat.le_of_ble_eq_true rfl, Nat.zero_le _, Nat.zero_le _⟩ ?_
  refine hJ.istore (pc := 33) [some (vr 8 0), some (vr 0 0), some (vr 5 b1), some (vi p2), some (vi (if ((up (up (up S 8 0 2 0) 8 0 3 (-1)) 8 0 4 (-1)) 5 b1 2) < (if 0 < (((up (up (up S 8 0 2 0) 8 0 3 (-1)) 8 0 4 (-1)) 0 0 8) - 99) then (((up (up (up S 8 0 2 0) 8 0 3 (-1)) 8 0 4 (-1)) 0 0 8) - 99) else 0) then (if 0 < (((up (up (up S 8 0 2 0) 8 0 3 (-1)) 8 0 4 (-1)) 0 0 8) - 99) then (((up (up (up S 8 0 2 0) 8 0 3 (-1)) 8 0 4 (-1)) 0 0 8) - 99) else 0) else ((up (up (up S 8 0 2 0) 8 0 3 (-1)) 8 0 4 (-1)) 5 b1 2))), none, none, none] dX8_seekThumbs_33 (by decide) rfl ?_
  refine hJ.iconst (pc := 35) 0 dX8_seekThumbs_35 ic_0 ?_
  refine hJ.istore (pc := 36) [some (vr 8 0), some (vr 0 0), some (vr 5 b1), some (vi p2), some (vi (if ((up (up (up S 8 0 2 0) 8 0 3 (-1)) 8 0 4 (-1)) 5 b1 2) < (if 0 < (((up (up (up S 8 0 2 0) 8 0 3 (-1)) 8 0 4 (-1)) 0 0 8) - 99) then (((up (up (up S 8 0 2 0) 8 0 3 (-1)) 8 0 4 (-1)) 0 0 8) - 99) else 0) then (if 0 < (((up (up (up S 8 0 2 0) 8 0 3 (-1)) 8 0 4 (-1)) 0 0 8) - 99) then (((up (up (up S 8 0 2 0) 8 0 3 (-1)) 8 0 4 (-1)) 0 0 8) - 99) else 0) else ((up (up (up S 8 0 2 0) 8 0 3 (-1)) 8 0 4 (-1)) 5 b1 2))), some (vi 0), none, none] dX8_seekThumbs_36 (by decide) rfl ?_
  exact wX8_seekThumbs_38 hJ hR 5000 b1 p2 (if ((up (up (up S 8 0 2 0) 8 0 3 (-1)) 8 0 4 (-1)) 5 b1 2) < (if 0 < (((up (up (up S 8 0 2 0) 8 0 3 (-1)) 8 0 4 (-1)) 0 0 8) - 99) then (((up (up (up S 8 0 2 0) 8 0 3 (-1)) 8 0 4 (-1)) 0 0 8) - 99) else 0) then (if 0 < (((up (up (up S 8 0 2 0) 8 0 3 (-1)) 8 0 4 (-1)) 0 0 8) - 99) then (((up (up (up S 8 0 2 0) 8 0 3 (-1)) 8 0 4 (-1)) 0 0 8) - 99) else 0) else ((up (up (up S 8 0 2 0) 8 0 3 (-1)) 8 0 4 (-1)) 5 b1 2)) 0 (up (up (up S 8 0 2 0) 8 0 3 (-1)) 8 0 4 (-1)) hF
set_option maxRecDepth 100000 in
set_option maxHeartbeats 4000000 in
theorem ctX11_thumbs (p0 : Int32) (p1 : Int32) (p2 : Int32) (S Sm : Mem) (r : Int32) (S' : Mem) (hF : fX11_thumbs p0 p1 p2 S = some (r, S')) : Ct yX11_thumbs cX11_thumbs 5 (some .int) 5 121 0 0 [vr 11 0, vi p0, vi p1, vi p2] wl0 L0 S Sm (some (vi r)) wl0 L0 S' Sm := by
  refine Ct.of RX11 false (by decide) rfl (fun h => by cases h) (Nat.le_of_ble_eq_true rfl) (fun J hJ hR => ?_)
  rw [fX11_thumbs] at hF
  show J 0 [some (vr 11 0), some (vi p0), some (vi p1), some (vi p2), none] [] wl0 L0 0 0 S Sm
  refine hJ.aload_n (pc := 0) dX11_thumbs_0 rfl ?_
  refine hJ.gR (pc := 1) (k' := 0) (i' := 0) dX11_thumbs_1 fr_X11_10 rfl ?_
  refine hJ.iload_n (pc := 4) dX11_thumbs_4 rfl ?_
  obtain ⟨r2, h1, hF⟩ := bn_some hF
  refine hJ.cV (pc := 5) [vi p0] [] [vq 5 r2] dX11_thumbs_5 lk_X11_102 (ctX0_paperAt p0 _ _ _ h1) rfl rfl rfl rfl ?_
  cases r2 with
  | none =>
    rw [mt_n] at hF
    refine hJ.astore (pc := 8) [some (vr 11 0), some (vi p0), some (vi p1), some (vi p2), some (vn)] dX11_thumbs_8 (by decide) rfl ?_
    refine hJ.aload (pc := 10) dX11_thumbs_10 rfl ?_
    refine hJ.ifnullY (pc := 12) 35 dX11_thumbs_12 (by decide) ?_
    refine hJ.iconst (pc := 35) (-1) dX11_thumbs_35 ic_m1 ?_
    cases hF
    exact hR.i (pc := 36) dX11_thumbs_36
  | some i3 =>
    rw [mt_s] at hF
    refine hJ.astore (pc := 8) [some (vr 11 0), some (vi p0), some (vi p1), some (vi p2), some (vr 5 i3)] dX11_thumbs_8 (by decide) rfl ?_
    refine hJ.aload (pc := 10) dX11_thumbs_10 rfl ?_
    refine hJ.ifnullN (pc := 12) dX11_thumbs_12 ?_
    refine hJ.iload_n (pc := 15) dX11_thumbs_15 rfl ?_
    refine hJ.iconst (pc := 16) 0 dX11_thumbs_16 ic_0 ?_
    refine hJ.sipush (pc := 17) 999 dX11_thumbs_17 sc_999 ?_
    refine hJ.cS (pc := 20) [vi p1, vi 0, vi 999] [] [vi (fX11_within p1 0 999)] dX11_thumbs_20 lk_X11_56 (ctX11_within p1 0 999 _ _ (fX11_within p1 0 999) rfl) rfl rfl rfl rfl ?_
    refine hJ.if_eq (pc := 23) 35 dX11_thumbs_23 (by decide) (fun h4 => ?_) (fun h4 => ?_)
    · rw [if_pos h4] at hF
      refine hJ.iconst (pc := 35) (-1) dX11_thumbs_35 ic_m1 ?_
      cases hF
      exact hR.i (pc := 36) dX11_thumbs_36
    · rw [if_neg h4] at hF
      refine hJ.iload_n (pc := 26) dX11_thumbs_26 rfl ?_
      refine hJ.iconst (pc := 27) 0 dX11_thumbs_27 ic_0 ?_
      refine hJ.iconst (pc := 28) 2 dX11_thumbs_28 ic_2 ?_
      refine hJ.cS (pc := 29) [vi p2, vi 0, vi 2] [] [vi (fX11_within p2 0 2)] dX11_thumbs_29 lk_X11_56 (ctX11_within p2 0 2 _ _ (fX11_within p2 0 2) rfl) rfl rfl rfl rfl ?_
      refine hJ.if_ne (pc := 32) 37 dX11_thumbs_32 (by decide) (fun h5 => ?_) (fun h5 => ?_)
      · rw [if_neg h5] at hF
        refine hJ.aload_n (pc := 37) dX11_thumbs_37 rfl ?_
        refine hJ.gR (pc := 38) (k' := 8) (i' := 0) dX11_thumbs_38 fr_X11_47 rfl ?_
        refine hJ.aload_n (pc := 41) dX11_thumbs_41 rfl ?_
        refine hJ.gR (pc := 42) (k' := 0) (i' := 0) dX11_thumbs_42 fr_X11_10 rfl ?_
        refine hJ.aload (pc := 45) dX11_thumbs_45 rfl ?_
        refine hJ.iload_n (pc := 47) dX11_thumbs_47 rfl ?_
        obtain ⟨S7, h6, hF⟩ := bn_some hF
        refine hJ.cV (pc := 48) [vr 0 0, vr 5 i3, vi p1] [] [] dX11_thumbs_48 lk_X11_258 (ctX8_seekThumbs i3 p1 _ _ _ h6) rfl rfl rfl rfl ?_
        refine hJ.iload_n (pc := 51) dX11_thumbs_51 rfl ?_
        by_cases h8 : p2 = 0
        · rw [if_pos h8] at hF
          refine hJ.lsw (pc := 52) (off := (28)) 80 dX11_thumbs_52 (by decide) (by rw [h8]; decide) (by decide) ?_
          refine hJ.aload_n (pc := 80) dX11_thumbs_80 rfl ?_
          refine hJ.gR (pc := 81) (k' := 8) (i' := 0) dX11_thumbs_81 fr_X11_47 rfl ?_
          refine hJ.gI (pc := 84) dX11_thumbs_84 fi_X11_262 ?_
          cases hF
          exact hR.i (pc := 87) dX11_thumbs_87
        · rw [if_neg h8] at hF
          by_cases h9 : p2 = 1
          · rw [if_pos h9] at hF
            refine hJ.lsw (pc := 52) (off := (36)) 88 dX11_thumbs_52 (by decide) (by rw [h9]; decide) (by decide) ?_
            refine hJ.aload_n (pc := 88) dX11_thumbs_88 rfl ?_
            refine hJ.gR (pc := 89) (k' := 8) (i' := 0) dX11_thumbs_89 fr_X11_47 rfl ?_
            refine hJ.gI (pc := 92) dX11_thumbs_92 fi_X11_265 ?_
            cases hF
            exact hR.i (pc := 95) dX11_thumbs_95
          · rw [if_neg h9] at hF
            refine hJ.lsw (pc := 52) (off := (44)) 96 dX11_thumbs_52 (by decide) (by show Op.lookupswitch.offset [(0, 28), (1, 36)] _ _ = _; rw [lv_osw (k := 0) h8 (by decide), lv_osw (k := 1) h9 (by decide)]; rfl) (by decide) ?_
            refine hJ.aload_n (pc := 96) dX11_thumbs_96 rfl ?_
            refine hJ.gR (pc := 97) (k' := 8) (i' := 0) dX11_thumbs_97 fr_X11_47 rfl ?_
            refine hJ.gI (pc := 100) dX11_thumbs_100 fi_X11_268 ?_
            cases hF
            exact hR.i (pc := 103) dX11_thumbs_103
      · rw [if_pos h5] at hF
        refine hJ.iconst (pc := 35) (-1) dX11_thumbs_35 ic_m1 ?_
        cases hF
        exact hR.i (pc := 36) dX11_thumbs_36
set_option maxRecDepth 100000 in
set_option maxHeartbeats 4000000 in
theorem ctX1_leapOf (p0 : Int32) (S Sm : Mem) (r : Int32) (hF : fX1_leapOf p0 S = some r) : Ct yX1_leapOf cX1_leapOf 2 (some .int) 2 45 0 0 [vr 1 0, vi p0] wl0 L0 S Sm (some (vi r)) wl0 L0 S Sm := by
  refine Ct.of RX1 false (by decide) rfl (fun h => by cases h) (Nat.le_of_ble_eq_true rfl) (fun J hJ hR => ?_)
  rw [fX1_leapOf] at hF
  show J 0 [some (vr 1 0), some (vi p0)] [] wl0 L0 0 0 S Sm
  refine hJ.aload_n (pc := 0) dX1_leapOf_0 rfl ?_
  refine hJ.iload_n (pc := 1) dX1_leapOf_1 rfl ?_
  refine hJ.iconst (pc := 2) 4 dX1_leapOf_2 ic_4 ?_
  obtain ⟨r2, h1, hF⟩ := bn_some hF
  refine hJ.cV (pc := 3) [vi p0, vi 4] [] [vi r2] dX1_leapOf_3 lk_X1_27 (ctX1_entry p0 4 _ _ _ h1) rfl rfl rfl rfl ?_
  refine hJ.aload_n (pc := 6) dX1_leapOf_6 rfl ?_
  refine hJ.iload_n (pc := 7) dX1_leapOf_7 rfl ?_
  refine hJ.iconst (pc := 8) 3 dX1_leapOf_8 ic_3 ?_
  obtain ⟨r4, h3, hF⟩ := bn_some hF
  refine hJ.cV (pc := 9) [vi p0, vi 3] [vi r2] [vi r4, vi r2] dX1_leapOf_9 lk_X1_27 (ctX1_entry p0 3 _ _ _ h3) rfl rfl rfl rfl ?_
  refine hJ.isub (pc := 12) dX1_leapOf_12 ?_
  refine hJ.mabs (pc := 13) dX1_leapOf_13 mw_X1_31 ⟨Nat.le_of_ble_eq_true rfl, Nat.le_of_ble_eq_true rfl, Nat.zero_le _, Nat.zero_le _⟩ ?_
  cases hF
  exact hR.i (pc := 16) dX1_leapOf_16
set_option maxRecDepth 100000 in
set_option maxHeartbeats 4000000 in
theorem ctX0_isLeap (p0 : Int32) (p1 : Int32) (p2 : Int32) (S Sm : Mem) (r : Int32) (hF : fX0_isLeap p0 p1 p2 S = some r) : Ct yX0_isLeap cX0_isLeap 5 (some .boolean) 3 66 0 0 [vr 0 0, vi p0, vi p1, vi p2] wl0 L0 S Sm (some (vi r)) wl0 L0 S Sm := by
  refine Ct.of RX0 false (by decide) rfl (fun h => by cases h) (Nat.le_of_ble_eq_true rfl) (fun J hJ hR => ?_)
  rw [fX0_isLeap] at hF
  show J 0 [some (vr 0 0), some (vi p0), some (vi p1), some (vi p2), none] [] wl0 L0 0 0 S Sm
  refine hJ.aload_n (pc := 0) dX0_isLeap_0 rfl ?_
  refine hJ.aload_n (pc := 1) dX0_isLeap_1 rfl ?_
  refine hJ.gR (pc := 2) (k' := 1) (i' := 0) dX0_isLeap_2 fr_X0_26 rfl ?_
  refine hJ.iload_n (pc := 5) dX0_isLeap_5 rfl ?_
  refine hJ.iconst (pc := 6) 1 dX0_isLeap_6 ic_1 ?_
  obtain ⟨r2, h1, hF⟩ := bn_some hF
  refine hJ.cV (pc := 7) [vi p0, vi 1] [vr 0 0] [vi r2, vr 0 0] dX0_isLeap_7 lk_X0_156 (ctX1_entry p0 1 _ _ _ h1) rfl rfl rfl rfl ?_
  obtain ⟨r4, h3, hF⟩ := bn_some hF
  refine hJ.cV (pc := 10) [vi r2] [] [vq 6 r4] dX0_isLeap_10 lk_X0_75 (ctX0_readerAt r2 _ _ _ h3) rfl rfl rfl rfl ?_
  cases r4 with
  | none =>
    rw [mt_n] at hF
    refine hJ.astore (pc := 13) [some (vr 0 0), some (vi p0), some (vi p1), some (vi p2), some (vn)] dX0_isLeap_13 (by decide) rfl ?_
    refine hJ.aload (pc := 15) dX0_isLeap_15 rfl ?_
    refine hJ.ifnullY (pc := 17) 45 dX0_isLeap_17 (by decide) ?_
    refine hJ.iconst (pc := 45) 0 dX0_isLeap_45 ic_0 ?_
    cases hF
    exact hR.n (pc := 46) (by decide) dX0_isLeap_46
  | some i5 =>
    rw [mt_s] at hF
    refine hJ.astore (pc := 13) [some (vr 0 0), some (vi p0), some (vi p1), some (vi p2), some (vr 6 i5)] dX0_isLeap_13 (by decide) rfl ?_
    refine hJ.aload (pc := 15) dX0_isLeap_15 rfl ?_
    refine hJ.ifnullN (pc := 17) dX0_isLeap_17 ?_
    refine hJ.aload (pc := 20) dX0_isLeap_20 rfl ?_
    refine hJ.gI (pc := 22) dX0_isLeap_22 fi_X0_98 ?_
    refine hJ.iload_n (pc := 25) dX0_isLeap_25 rfl ?_
    refine hJ.icmp_ne (pc := 26) 45 dX0_isLeap_26 (by decide) (fun h6 => ?_) (fun h6 => ?_)
    · rw [if_neg h6] at hF
      refine hJ.iconst (pc := 45) 0 dX0_isLeap_45 ic_0 ?_
      cases hF
      exact hR.n (pc := 46) (by decide) dX0_isLeap_46
    · rw [if_pos h6] at hF
      refine hJ.aload_n (pc := 29) dX0_isLeap_29 rfl ?_
      refine hJ.gR (pc := 30) (k' := 1) (i' := 0) dX0_isLeap_30 fr_X0_26 rfl ?_
      refine hJ.iload_n (pc := 33) dX0_isLeap_33 rfl ?_
      obtain ⟨r8, h7, hF⟩ := bn_some hF
      refine hJ.cV (pc := 34) [vi p0] [] [vi r8] dX0_isLeap_34 lk_X0_160 (ctX1_leapOf p0 _ _ _ h7) rfl rfl rfl rfl ?_
      refine hJ.iload_n (pc := 37) dX0_isLeap_37 rfl ?_
      refine hJ.icmp_lt (pc := 38) 45 dX0_isLeap_38 (by decide) (fun h9 => ?_) (fun h9 => ?_)
      · rw [if_pos h9] at hF
        refine hJ.iconst (pc := 45) 0 dX0_isLeap_45 ic_0 ?_
        cases hF
        exact hR.n (pc := 46) (by decide) dX0_isLeap_46
      · rw [if_neg h9] at hF
        refine hJ.iconst (pc := 41) 1 dX0_isLeap_41 ic_1 ?_
        refine hJ.goto (pc := 42) 46 dX0_isLeap_42 (by decide) ?_
        cases hF
        exact hR.n (pc := 46) (by decide) dX0_isLeap_46
set_option maxRecDepth 100000 in
set_option maxHeartbeats 4000000 in
theorem wX0_countLeaps_5 {J : Nat → Lv → List AV → Obs → Lay → Nat → Nat → Mem → Mem → Prop} (hJ : Cl RX0 cX0_countLeaps 5 4 90 0 0 none false J) {r : Int32} {Sm S : Mem} (hR : Rk cX0_countLeaps (some .int) (some (vi r)) wl0 L0 0 0 S Sm J) : ∀ (n : Nat) (x1 : Int32) (x2 : Int32) (x3 : Int32) (x4 : Int32), fX0_countLeaps_5 n x1 x2 x3 x4 S = some r → J 5 [some (vr 0 0), some (vi x1), some (vi x2), some (vi x3), some (vi x4)] [] wl0 L0 0 0 S Sm := by
  intro n
  induction n with
  | zero =>
    intro x1 x2 x3 x4 hF
    rw [fX0_countLeaps_5] at hF
    cases hF
  | succ n ih =>
    intro x1 x2 x3 x4 hF
    rw [fX0_countLeaps_5] at hF
    refine hJ.iload (pc := 5) dX0_countLeaps_5 rfl ?_
    refine hJ.aload_n (pc := 7) dX0_countLeaps_7 rfl ?_
    refine hJ.gR (pc := 8) (k' := 1) (i' := 0) dX0_countLeaps_8 fr_X0_26 rfl ?_
    refine hJ.gI (pc := 11) dX0_countLeaps_11 fi_X0_150 ?_
    refine hJ.icmp_ge (pc := 14) 37 dX0_countLeaps_14 (by decide) (fun h1 => ?_) (fun h1 => ?_)
    · rw [if_pos h1] at hF
      refine hJ.iload_n (pc := 37) dX0_countLeaps_37 rfl ?_
      cases hF
      exact hR.i (pc := 38) dX0_countLeaps_38
    · rw [if_neg h1] at hF
      refine hJ.aload_n (pc := 17) dX0_countLeaps_17 rfl ?_
      refine hJ.iload (pc := 18) dX0_countLeaps_18 rfl ?_
      refine hJ.iload_n (pc := 20) dX0_countLeaps_20 rfl ?_
      refine hJ.iload_n (pc := 21) dX0_countLeaps_21 rfl ?_
      obtain ⟨r3, h2, hF⟩ := bn_some hF
      refine hJ.cV (pc := 22) [vi x4, vi x1, vi x2] [] [vi r3] dX0_countLeaps_22 lk_X0_153 (ctX0_isLeap x4 x1 x2 _ _ _ h2) rfl rfl rfl rfl ?_
      refine hJ.if_eq (pc := 25) 31 dX0_countLeaps_25 (by decide) (fun h4 => ?_) (fun h4 => ?_)
      · rw [if_pos h4] at hF
        refine hJ.iinc (pc := 31) (x4 + 1) [some (vr 0 0), some (vi x1), some (vi x2), some (vi x3), some (vi (x4 + 1))] dX0_countLeaps_31 (by decide) rfl (congrArg (fun z => x4 + z) ic_1) rfl ?_
        refine hJ.goto (pc := 34) 5 dX0_countLeaps_34 (by decide) ?_
        exact ih x1 x2 x3 (x4 + 1) hF
      · rw [if_neg h4] at hF
        refine hJ.iinc (pc := 28) (x3 + 1) [some (vr 0 0), some (vi x1), some (vi x2), some (vi (x3 + 1)), some (vi x4)] dX0_countLeaps_28 (by decide) rfl (congrArg (fun z => x3 + z) ic_1) rfl ?_
        refine hJ.iinc (pc := 31) (x4 + 1) [some (vr 0 0), some (vi x1), some (vi x2), some (vi (x3 + 1)), some (vi (x4 + 1))] dX0_countLeaps_31 (by decide) rfl (congrArg (fun z => x4 + z) ic_1) rfl ?_
        refine hJ.goto (pc := 34) 5 dX0_countLeaps_34 (by decide) ?_
        exact ih x1 x2 (x3 + 1) (x4 + 1) hF
set_option maxRecDepth 100000 in
set_option maxHeartbeats 4000000 in
theorem ctX0_countLeaps (p0 : Int32) (p1 : Int32) (S Sm : Mem) (r : Int32) (hF : fX0_countLeaps p0 p1 S = some r) : Ct yX0_countLeaps cX0_countLeaps 5 (some .int) 4 90 0 0 [vr 0 0, vi p0, vi p1] wl0 L0 S Sm (some (vi r)) wl0 L0 S Sm := by
  refine Ct.of RX0 false (by decide) rfl (fun h => by cases h) (Nat.le_of_ble_eq_true rfl) (fun J hJ hR => ?_)
  rw [fX0_countLeaps] at hF
  show J 0 [some (vr 0 0), some (vi p0), some (vi p1), none, none] [] wl0 L0 0 0 S Sm
  refine hJ.iconst (pc := 0) 0 dX0_countLeaps_0 ic_0 ?_
  refine hJ.istore_n (pc := 1) [some (vr 0 0), some (vi p0), some (vi p1), some (vi 0), none] dX0_countLeaps_1 (by decide) rfl ?_
  refine hJ.iconst (pc := 2) 0 dX0_countLeaps_2 ic_0 ?_
  refine hJ.istore (pc := 3) [some (vr 0 0), some (vi p0), some (vi p1), some (vi 0), some (vi 0)] dX0_countLeaps_3 (by decide) rfl ?_
  exact wX0_countLeaps_5 hJ hR 5000 p0 p1 0 0 hF
set_option maxRecDepth 100000 in
set_option maxHeartbeats 4000000 in
theorem wX0_firstLeap_2 {J : Nat → Lv → List AV → Obs → Lay → Nat → Nat → Mem → Mem → Prop} (hJ : Cl RX0 cX0_firstLeap 4 4 90 0 0 none false J) {r : Int32} {Sm S : Mem} (hR : Rk cX0_firstLeap (some .int) (some (vi r)) wl0 L0 0 0 S Sm J) : ∀ (n : Nat) (x1 : Int32) (x2 : Int32) (x3 : Int32), fX0_firstLeap_2 n x1 x2 x3 S = some r → J 2 [some (vr 0 0), some (vi x1), some (vi x2), some (vi x3)] [] wl0 L0 0 0 S Sm := by
  intro n
  induction n with
  | zero =>
    intro x1 x2 x3 hF
    rw [fX0_firstLeap_2] at hF
    cases hF
  | succ n ih =>
    intro x1 x2 x3 hF
    rw [fX0_firstLeap_2] at hF
    refine hJ.iload_n (pc := 2) dX0_firstLeap_2 rfl ?_
    refine hJ.aload_n (pc := 3) dX0_firstLeap_3 rfl ?_
    refine hJ.gR (pc := 4) (k' := 1) (i' := 0) dX0_firstLeap_4 fr_X0_26 rfl ?_
    refine hJ.gI (pc := 7) dX0_firstLeap_7 fi_X0_150 ?_
    refine hJ.icmp_ge (pc := 10) 31 dX0_firstLeap_10 (by decide) (fun h1 => ?_) (fun h1 => ?_)
    · rw [if_pos h1] at hF
      refine hJ.iconst (pc := 31) (-1) dX0_firstLeap_31 ic_m1 ?_
      cases hF
      exact hR.i (pc := 32) dX0_firstLeap_32
    · rw [if_neg h1] at hF
      refine hJ.aload_n (pc := 13) dX0_firstLeap_13 rfl ?_
      refine hJ.iload_n (pc := 14) dX0_firstLeap_14 rfl ?_
      refine hJ.iload_n (pc := 15) dX0_firstLeap_15 rfl ?_
      refine hJ.iload_n (pc := 16) dX0_firstLeap_16 rfl ?_
      obtain ⟨r3, h2, hF⟩ := bn_some hF
      refine hJ.cV (pc := 17) [vi x3, vi x1, vi x2] [] [vi r3] dX0_firstLeap_17 lk_X0_153 (ctX0_isLeap x3 x1 x2 _ _ _ h2) rfl rfl rfl rfl ?_
      refine hJ.if_eq (pc := 20) 25 dX0_firstLeap_20 (by decide) (fun h4 => ?_) (fun h4 => ?_)
      · rw [if_pos h4] at hF
        refine hJ.iinc (pc := 25) (x3 + 1) [some (vr 0 0), some (vi x1), some (vi x2), some (vi (x3 + 1))] dX0_firstLeap_25 (by decide) rfl (congrArg (fun z => x3 + z) ic_1) rfl ?_
        refine hJ.goto (pc := 28) 2 dX0_firstLeap_28 (by decide) ?_
        exact ih x1 x2 (x3 + 1) hF
      · rw [if_neg h4] at hF
        refine hJ.iload_n (pc := 23) dX0_firstLeap_23 rfl ?_
        cases hF
        exact hR.i (pc := 24) dX0_firstLeap_24
set_option maxRecDepth 100000 in
set_option maxHeartbeats 4000000 in
theorem ctX0_firstLeap (p0 : Int32) (p1 : Int32) (S Sm : Mem) (r : Int32) (hF : fX0_firstLeap p0 p1 S = some r) : Ct yX0_firstLeap cX0_firstLeap 4 (some .int) 4 90 0 0 [vr 0 0, vi p0, vi p1] wl0 L0 S Sm (some (vi r)) wl0 L0 S Sm := by
  refine Ct.of RX0 false (by decide) rfl (fun h => by cases h) (Nat.le_of_ble_eq_true rfl) (fun J hJ hR => ?_)
  rw [fX0_firstLeap] at hF
  show J 0 [some (vr 0 0), some (vi p0), some (vi p1), none] [] wl0 L0 0 0 S Sm
  refine hJ.iconst (pc := 0) 0 dX0_firstLeap_0 ic_0 ?_
  refine hJ.istore_n (pc := 1) [some (vr 0 0), some (vi p0), some (vi p1), some (vi 0)] dX0_firstLeap_1 (by decide) rfl ?_
  exact wX0_firstLeap_2 hJ hR 5000 p0 p1 0 hF
