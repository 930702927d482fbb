set_option maxRecDepth 100000 in
set_option maxHeartbeats 4000000 in
theorem ctX11_state (p0 : Int32) (S Sm : Mem) (r : Int32) (S' : Mem) (hF : fX11_state p0 S = (r, S')) : Ct yX11_state cX11_state 3 (some .int) 0 0 0 0 [vr 11 0, vi p0] wl0 L0 S Sm (some (vi r)) wl0 L0 S' Sm := by
  refine Ct.of RX11 false (by decide) rfl (fun h => by cases h) (Nat.le_of_ble_eq_true rfl) (fun J hJ hR => ?_)
  rw [fX11_state] at hF
  show J 0 [some (vr 11 0), some (vi p0), none] [] wl0 L0 0 0 S Sm
  refine hJ.aload_n (pc := 0) dX11_state_0 rfl ?_
  refine hJ.gR (pc := 1) (k' := 0) (i' := 0) dX11_state_1 fr_X11_10 rfl ?_
  refine hJ.gI (pc := 4) dX11_state_4 fi_X11_51 ?_
  refine hJ.istore_n (pc := 7) [some (vr 11 0), some (vi p0), some (vi (S 0 0 9))] dX11_state_7 (by decide) rfl ?_
  refine hJ.aload_n (pc := 8) dX11_state_8 rfl ?_
  refine hJ.gR (pc := 9) (k' := 0) (i' := 0) dX11_state_9 fr_X11_10 rfl ?_
  refine hJ.iload_n (pc := 12) dX11_state_12 rfl ?_
  refine hJ.pI (pc := 13) dX11_state_13 fp_X11_51 ?_
  refine hJ.iload_n (pc := 16) dX11_state_16 rfl ?_
  cases hF
  exact hR.i (pc := 17) dX11_state_17
set_option maxRecDepth 100000 in
set_option maxHeartbeats 4000000 in
theorem ctX11_within (p0 : Int32) (p1 : Int32) (p2 : Int32) (Sc Sm : Mem) (r : Int32) (hF : fX11_within p0 p1 p2 = r) : Ct yX11_within cX11_within 3 (some .boolean) 0 0 0 0 [vi p0, vi p1, vi p2] wl0 L0 Sc Sm (some (vi r)) wl0 L0 Sc Sm := by
  refine Ct.of RX11 false (by decide) rfl (fun h => by cases h) (Nat.le_of_ble_eq_true rfl) (fun J hJ hR => ?_)
  rw [fX11_within] at hF
  show J 0 [some (vi p0), some (vi p1), some (vi p2)] [] wl0 L0 0 0 Sc Sm
  refine hJ.iload_n (pc := 0) dX11_within_0 rfl ?_
  refine hJ.iload_n (pc := 1) dX11_within_1 rfl ?_
  refine hJ.icmp_lt (pc := 2) 14 dX11_within_2 (by decide) (fun h1 => ?_) (fun h1 => ?_)
  · rw [if_pos h1] at hF
    refine hJ.iconst (pc := 14) 0 dX11_within_14 ic_0 ?_
    cases hF
    exact hR.n (pc := 15) (by decide) dX11_within_15
  · rw [if_neg h1] at hF
    refine hJ.iload_n (pc := 5) dX11_within_5 rfl ?_
    refine hJ.iload_n (pc := 6) dX11_within_6 rfl ?_
    refine hJ.icmp_gt (pc := 7) 14 dX11_within_7 (by decide) (fun h2 => ?_) (fun h2 => ?_)
    · rw [if_pos h2] at hF
      refine hJ.iconst (pc := 14) 0 dX11_within_14 ic_0 ?_
      cases hF
      exact hR.n (pc := 15) (by decide) dX11_within_15
    · rw [if_neg h2] at hF
      refine hJ.iconst (pc := 10) 1 dX11_within_10 ic_1 ?_
      refine hJ.goto (pc := 11) 15 dX11_within_11 (by decide) ?_
      cases hF
      exact hR.n (pc := 15) (by decide) dX11_within_15
set_option maxRecDepth 100000 in
set_option maxHeartbeats 4000000 in
theorem ctX10_forget (S Sm : Mem) (S' : Mem) (hF : fX10_forget S = S') : Ct yX10_forget cX10_forget 1 none 0 0 0 0 [vr 10 0] wl0 L0 S Sm none wl0 L0 S' Sm := by
  refine Ct.of RX10 false (by decide) rfl (fun h => by cases h) (Nat.le_of_ble_eq_true rfl) (fun J hJ hR => ?_)
  rw [fX10_forget] at hF
  show J 0 [some (vr 10 0)] [] wl0 L0 0 0 S Sm
  refine hJ.aload_n (pc := 0) dX10_forget_0 rfl ?_
  refine hJ.iconst (pc := 1) 0 dX10_forget_1 ic_0 ?_
  refine hJ.pI (pc := 2) dX10_forget_2 fp_X10_23 ?_
  cases hF
  exact hR.v (pc := 5) dX10_forget_5
set_option maxRecDepth 100000 in
set_option maxHeartbeats 4000000 in
theorem ctX6_become (a0 : Nat) (p0 : Int32) (p1 : Int32) (p2 : Int32) (p3 : Int32) (S Sm : Mem) (S' : Mem) (hF : fX6_become a0 p0 p1 p2 p3 S = S') : Ct yX6_become cX6_become 5 none 0 0 0 0 [vr 6 a0, vi p0, vi p1, vi p2, vi p3] wl0 L0 S Sm none wl0 L0 S' Sm := by
  refine Ct.of RX6 false (by decide) rfl (fun h => by cases h) (Nat.le_of_ble_eq_true rfl) (fun J hJ hR => ?_)
  rw [fX6_become] at hF
  show J 0 [some (vr 6 a0), some (vi p0), some (vi p1), some (vi p2), some (vi p3)] [] wl0 L0 0 0 S Sm
  refine hJ.aload_n (pc := 0) dX6_become_0 rfl ?_
  refine hJ.iload_n (pc := 1) dX6_become_1 rfl ?_
  refine hJ.pI (pc := 2) dX6_become_2 fp_X6_9 ?_
  refine hJ.aload_n (pc := 5) dX6_become_5 rfl ?_
  refine hJ.iload_n (pc := 6) dX6_become_6 rfl ?_
  refine hJ.pI (pc := 7) dX6_become_7 fp_X6_15 ?_
  refine hJ.aload_n (pc := 10) dX6_become_10 rfl ?_
  refine hJ.iload_n (pc := 11) dX6_become_11 rfl ?_
  refine hJ.pI (pc := 12) dX6_become_12 fp_X6_18 ?_
  refine hJ.aload_n (pc := 15) dX6_become_15 rfl ?_
  refine hJ.iload (pc := 16) dX6_become_16 rfl ?_
  refine hJ.pI (pc := 18) dX6_become_18 fp_X6_21 ?_
  refine hJ.aload_n (pc := 21) dX6_become_21 rfl ?_
  refine hJ.iconst (pc := 22) 0 dX6_become_22 ic_0 ?_
  refine hJ.pI (pc := 23) dX6_become_23 fp_X6_24 ?_
  cases hF
  exact hR.v (pc := 26) dX6_become_26
set_option maxRecDepth 100000 in
set_option maxHeartbeats 4000000 in
theorem wX11_reader_47 {J : Nat → Lv → List AV → Obs → Lay → Nat → Nat → Mem → Mem → Prop} (hJ : Cl RX11 cX11_reader 7 1 24 0 0 none false J) {r : Int32} {Sm S' : Mem} (hR : Rk cX11_reader (some .int) (some (vi r)) wl0 L0 0 0 S' Sm J) (x1 : Int32) (x2 : Int32) (x3 : Int32) (x4 : Int32) (y0 : Int32) (S : Mem) (hF : fX11_reader_47 x1 x2 x3 x4 y0 S = some (r, S')) : J 47 [some (vr 11 0), some (vi x1), some (vi x2), some (vi x3), some (vi x4), none, none] [vi y0] wl0 L0 0 0 S Sm := by
  rw [fX11_reader_47] at hF
  refine hJ.istore (pc := 47) [some (vr 11 0), some (vi x1), some (vi x2), some (vi x3), some (vi x4), some (vi y0), none] dX11_reader_47 (by decide) rfl ?_
  refine hJ.iload (pc := 49) dX11_reader_49 rfl ?_
  refine hJ.if_eq (pc := 51) 66 dX11_reader_51 (by decide) (fun h2 => ?_) (fun h2 => ?_)
  · rw [if_pos h2] at hF
    refine hJ.iconst (pc := 66) (-1) dX11_reader_66 ic_m1 ?_
    cases hF
    exact hR.i (pc := 67) dX11_reader_67
  · rw [if_neg h2] at hF
    refine hJ.aload_n (pc := 54) dX11_reader_54 rfl ?_
    refine hJ.gR (pc := 55) (k' := 0) (i' := 0) dX11_reader_55 fr_X11_10 rfl ?_
    refine hJ.gI (pc := 58) dX11_reader_58 fi_X11_60 ?_
    refine hJ.bipush (pc := 61) 12 dX11_reader_61 bc_12 ?_
    refine hJ.icmp_lt (pc := 63) 68 dX11_reader_63 (by decide) (fun h3 => ?_) (fun h3 => ?_)
    · rw [if_pos h3] at hF
      refine hJ.aload_n (pc := 68) dX11_reader_68 rfl ?_
      refine hJ.gR (pc := 69) (k' := 10) (i' := 0) dX11_reader_69 fr_X11_40 rfl ?_
      refine hJ.cV (pc := 72) [] [] [] dX11_reader_72 lk_X11_63 (ctX10_forget _ _ (fX10_forget S) rfl) rfl rfl rfl rfl ?_
      refine hJ.aload_n (pc := 75) dX11_reader_75 rfl ?_
      refine hJ.gR (pc := 76) (k' := 0) (i' := 0) dX11_reader_76 fr_X11_10 rfl ?_
      refine hJ.gI (pc := 79) dX11_reader_79 fi_X11_60 ?_
      refine hJ.istore (pc := 82) [some (vr 11 0), some (vi x1), some (vi x2), some (vi x3), some (vi x4), some (vi y0), some (vi ((fX10_forget S) 0 0 6))] dX11_reader_82 (by decide) rfl ?_
      refine hJ.aload_n (pc := 84) dX11_reader_84 rfl ?_
      refine hJ.gR (pc := 85) (k' := 0) (i' := 0) dX11_reader_85 fr_X11_10 rfl ?_
      refine hJ.gR (pc := 88) (k' := 13) (i' := 0) dX11_reader_88 fr_X11_66 rfl ?_
      refine hJ.iload (pc := 91) dX11_reader_91 rfl ?_
      obtain ⟨j4, h5, hF⟩ := bn_some hF
      refine hJ.aald (pc := 93) (k' := 6) (i' := j4) dX11_reader_93 aq_13 rfl h5 (L0_13_0 (ix_some h5).2.2) ?_
      refine hJ.iload_n (pc := 94) dX11_reader_94 rfl ?_
      refine hJ.iload_n (pc := 95) dX11_reader_95 rfl ?_
      refine hJ.iload_n (pc := 96) dX11_reader_96 rfl ?_
      refine hJ.iload (pc := 97) dX11_reader_97 rfl ?_
      refine hJ.cV (pc := 99) [vi x1, vi x2, vi x3, vi x4] [] [] dX11_reader_99 lk_X11_70 (ctX6_become j4 x1 x2 x3 x4 _ _ (fX6_become j4 x1 x2 x3 x4 (fX10_forget S)) rfl) rfl rfl rfl rfl ?_
      refine hJ.aload_n (pc := 102) dX11_reader_102 rfl ?_
      refine hJ.gR (pc := 103) (k' := 0) (i' := 0) dX11_reader_103 fr_X11_10 rfl ?_
      refine hJ.iload (pc := 106) dX11_reader_106 rfl ?_
      refine hJ.iconst (pc := 108) 1 dX11_reader_108 ic_1 ?_
      refine hJ.iadd (pc := 109) dX11_reader_109 ?_
      refine hJ.pI (pc := 110) dX11_reader_110 fp_X11_60 ?_
      refine hJ.iload (pc := 113) dX11_reader_113 rfl ?_
      cases hF
      exact hR.i (pc := 115) dX11_reader_115
    · rw [if_neg h3] at hF
      refine hJ.iconst (pc := 66) (-1) dX11_reader_66 ic_m1 ?_
      cases hF
      exact hR.i (pc := 67) dX11_reader_67
set_option maxRecDepth 100000 in
set_option maxHeartbeats 4000000 in
theorem wX11_reader_46 {J : Nat → Lv → List AV → Obs → Lay → Nat → Nat → Mem → Mem → Prop} (hJ : Cl RX11 cX11_reader 7 1 24 0 0 none false J) {r : Int32} {Sm S' : Mem} (hR : Rk cX11_reader (some .int) (some (vi r)) wl0 L0 0 0 S' Sm J) (x1 : Int32) (x2 : Int32) (x3 : Int32) (x4 : Int32) (S : Mem) (hF : fX11_reader_46 x1 x2 x3 x4 S = some (r, S')) : J 46 [some (vr 11 0), some (vi x1), some (vi x2), some (vi x3), some (vi x4), none, none] [] wl0 L0 0 0 S Sm := by
  rw [fX11_reader_46] at hF
  refine hJ.iconst (pc := 46) 0 dX11_reader_46 ic_0 ?_
  exact wX11_reader_47 hJ hR x1 x2 x3 x4 0 S hF
set_option maxRecDepth 100000 in
set_option maxHeartbeats 4000000 in
theorem ctX11_reader (p0 : Int32) (p1 : Int32) (p2 : Int32) (p3 : Int32) (S Sm : Mem) (r : Int32) (S' : Mem) (hF : fX11_reader p0 p1 p2 p3 S = some (r, S')) : Ct yX11_reader cX11_reader 7 (some .int) 1 24 0 0 [vr 11 0, vi p0, vi p1, vi p2, vi p3] wl0 L0 S Sm (some (vi r)) wl0 L0 S' Sm := by
  refine Ct.of RX11 false (by decide) rfl (fun h => by cases h) (Nat.le_of_ble_eq_true rfl) (fun J hJ hR => ?_)
  rw [fX11_reader] at hF
  show J 0 [some (vr 11 0), some (vi p0), some (vi p1), some (vi p2), some (vi p3), none, none] [] wl0 L0 0 0 S Sm
  refine hJ.iload_n (pc := 0) dX11_reader_0 rfl ?_
  refine hJ.ldc (pc := 1) (v := (-36500)) dX11_reader_1 kw_X11_55 ?_
  refine hJ.sipush (pc := 3) 9999 dX11_reader_3 sc_9999 ?_
  refine hJ.cS (pc := 6) [vi p0, vi (-36500), vi 9999] [] [vi (fX11_within p0 (-36500) 9999)] dX11_reader_6 lk_X11_56 (ctX11_within p0 (-36500) 9999 _ _ (fX11_within p0 (-36500) 9999) rfl) rfl rfl rfl rfl ?_
  refine hJ.if_eq (pc := 9) 46 dX11_reader_9 (by decide) (fun h1 => ?_) (fun h1 => ?_)
  · rw [if_pos h1] at hF
    exact wX11_reader_46 hJ hR p0 p1 p2 p3 S hF
  · rw [if_neg h1] at hF
    refine hJ.iload_n (pc := 12) dX11_reader_12 rfl ?_
    refine hJ.iconst (pc := 13) (-1) dX11_reader_13 ic_m1 ?_
    refine hJ.sipush (pc := 14) 9999 dX11_reader_14 sc_9999 ?_
    refine hJ.cS (pc := 17) [vi p1, vi (-1), vi 9999] [] [vi (fX11_within p1 (-1) 9999)] dX11_reader_17 lk_X11_56 (ctX11_within p1 (-1) 9999 _ _ (fX11_within p1 (-1) 9999) rfl) rfl rfl rfl rfl ?_
    refine hJ.if_eq (pc := 20) 46 dX11_reader_20 (by decide) (fun h6 => ?_) (fun h6 => ?_)
    · rw [if_pos h6] at hF
      exact wX11_reader_46 hJ hR p0 p1 p2 p3 S hF
    · rw [if_neg h6] at hF
      refine hJ.iload_n (pc := 23) dX11_reader_23 rfl ?_
      refine hJ.iconst (pc := 24) 0 dX11_reader_24 ic_0 ?_
      refine hJ.iconst (pc := 25) 1 dX11_reader_25 ic_1 ?_
      refine hJ.cS (pc := 26) [vi p2, vi 0, vi 1] [] [vi (fX11_within p2 0 1)] dX11_reader_26 lk_X11_56 (ctX11_within p2 0 1 _ _ (fX11_within p2 0 1) rfl) rfl rfl rfl rfl ?_
      refine hJ.if_eq (pc := 29) 46 dX11_reader_29 (by decide) (fun h7 => ?_) (fun h7 => ?_)
      · rw [if_pos h7] at hF
        exact wX11_reader_46 hJ hR p0 p1 p2 p3 S hF
      · rw [if_neg h7] at hF
        refine hJ.iload (pc := 32) dX11_reader_32 rfl ?_
        refine hJ.iconst (pc := 34) 0 dX11_reader_34 ic_0 ?_
        refine hJ.iconst (pc := 35) 3 dX11_reader_35 ic_3 ?_
        refine hJ.cS (pc := 36) [vi p3, vi 0, vi 3] [] [vi (fX11_within p3 0 3)] dX11_reader_36 lk_X11_56 (ctX11_within p3 0 3 _ _ (fX11_within p3 0 3) rfl) rfl rfl rfl rfl ?_
        refine hJ.if_eq (pc := 39) 46 dX11_reader_39 (by decide) (fun h8 => ?_) (fun h8 => ?_)
        · rw [if_pos h8] at hF
          exact wX11_reader_46 hJ hR p0 p1 p2 p3 S hF
        · rw [if_neg h8] at hF
          refine hJ.iconst (pc := 42) 1 dX11_reader_42 ic_1 ?_
          refine hJ.goto (pc := 43) 47 dX11_reader_43 (by decide) ?_
          exact wX11_reader_47 hJ hR p0 p1 p2 p3 1 S hF
set_option maxRecDepth 100000 in
set_option maxHeartbeats 4000000 in
theorem ctX0_readerAt (p0 : Int32) (S Sm : Mem) (r : Option Nat) (hF : fX0_readerAt p0 S = some r) : Ct yX0_readerAt cX0_readerAt 2 (some (.object "PaperAger$Reader")) 1 22 0 0 [vr 0 0, vi p0] wl0 L0 S Sm (some (vq 6 r)) wl0 L0 S Sm := by
  refine Ct.of RX0 false (by decide) rfl (fun h => by cases h) (Nat.le_of_ble_eq_true rfl) (fun J hJ hR => ?_)
  rw [fX0_readerAt] at hF
  show J 0 [some (vr 0 0), some (vi p0)] [] wl0 L0 0 0 S Sm
  refine hJ.iload_n (pc := 0) dX0_readerAt_0 rfl ?_
  refine hJ.iconst (pc := 1) 0 dX0_readerAt_1 ic_0 ?_
  refine hJ.aload_n (pc := 2) dX0_readerAt_2 rfl ?_
  refine hJ.gI (pc := 3) dX0_readerAt_3 fi_X0_50 ?_
  refine hJ.iconst (pc := 6) 1 dX0_readerAt_6 ic_1 ?_
  refine hJ.isub (pc := 7) dX0_readerAt_7 ?_
  refine hJ.cSN (pc := 8) [vi p0, vi 0, vi ((S 0 0 6) - 1)] [] [vi (fX11_within p0 0 ((S 0 0 6) - 1))] dX0_readerAt_8 lk_X0_68 (ctX11_within p0 0 ((S 0 0 6) - 1) _ _ (fX11_within p0 0 ((S 0 0 6) - 1)) rfl) rfl rfl rfl rfl ?_
  refine hJ.if_eq (pc := 11) 23 dX0_readerAt_11 (by decide) (fun h1 => ?_) (fun h1 => ?_)
  · rw [if_pos h1] at hF
    refine hJ.aconst_null (pc := 23) dX0_readerAt_23 ?_
    cases hF
    exact hR.a (pc := 24) dX0_readerAt_24
  · rw [if_neg h1] at hF
    refine hJ.aload_n (pc := 14) dX0_readerAt_14 rfl ?_
    refine hJ.gR (pc := 15) (k' := 13) (i' := 0) dX0_readerAt_15 fr_X0_11 rfl ?_
    refine hJ.iload_n (pc := 18) dX0_readerAt_18 rfl ?_
    obtain ⟨j2, h3, hF⟩ := bn_some hF
    refine hJ.aald (pc := 19) (k' := 6) (i' := j2) dX0_readerAt_19 aq_13 rfl h3 (L0_13_0 (ix_some h3).2.2) ?_
    refine hJ.goto (pc := 20) 24 dX0_readerAt_20 (by decide) ?_
    cases hF
    exact hR.a (pc := 24) dX0_readerAt_24
set_option maxRecDepth 100000 in
set_option maxHeartbeats 4000000 in
theorem wX6_tell_48 {J : Nat → Lv → List AV → Obs → Lay → Nat → Nat → Mem → Mem → Prop} (hJ : Cl RX6 cX6_tell 4 1 22 0 0 none false J) {r : Int32} {Sm S' : Mem} (hR : Rk cX6_tell (some .boolean) (some (vi r)) wl0 L0 0 0 S' Sm J) (c0 : Nat) (x1 : Int32) (x2 : Int32) (S : Mem) (hF : fX6_tell_48 c0 x1 x2 S = (r, S')) : J 48 [some (vr 6 c0), some (vi x1), some (vi x2), none] [] wl0 L0 0 0 S Sm := by
  rw [fX6_tell_48] at hF
  refine hJ.iload_n (pc := 48) dX6_tell_48 rfl ?_
  refine hJ.iconst (pc := 49) 2 dX6_tell_49 ic_2 ?_
  refine hJ.icmp_ne (pc := 50) 71 dX6_tell_50 (by decide) (fun h6 => ?_) (fun h6 => ?_)
  · rw [if_neg h6] at hF
    refine hJ.iconst (pc := 71) 0 dX6_tell_71 ic_0 ?_
    cases hF
    exact hR.n (pc := 72) (by decide) dX6_tell_72
  · rw [if_pos h6] at hF
    refine hJ.iload_n (pc := 53) dX6_tell_53 rfl ?_
    refine hJ.iconst (pc := 54) 0 dX6_tell_54 ic_0 ?_
    refine hJ.sipush (pc := 55) 9999 dX6_tell_55 sc_9999 ?_
    refine hJ.cSN (pc := 58) [vi x2, vi 0, vi 9999] [] [vi (fX11_within x2 0 9999)] dX6_tell_58 lk_X6_27 (ctX11_within x2 0 9999 _ _ (fX11_within x2 0 9999) rfl) rfl rfl rfl rfl ?_
    refine hJ.if_eq (pc := 61) 71 dX6_tell_61 (by decide) (fun h7 => ?_) (fun h7 => ?_)
    · rw [if_pos h7] at hF
      refine hJ.iconst (pc := 71) 0 dX6_tell_71 ic_0 ?_
      cases hF
      exact hR.n (pc := 72) (by decide) dX6_tell_72
    · rw [if_neg h7] at hF
      refine hJ.aload_n (pc := 64) dX6_tell_64 rfl ?_
      refine hJ.iload_n (pc := 65) dX6_tell_65 rfl ?_
      refine hJ.pI (pc := 66) dX6_tell_66 fp_X6_24 ?_
      refine hJ.iconst (pc := 69) 1 dX6_tell_69 ic_1 ?_
      cases hF
      exact hR.n (pc := 70) (by decide) dX6_tell_70
set_option maxRecDepth 100000 in
set_option maxHeartbeats 4000000 in
theorem wX6_tell_27 {J : Nat → Lv → List AV → Obs → Lay → Nat → Nat → Mem → Mem → Prop} (hJ : Cl RX6 cX6_tell 4 1 22 0 0 none false J) {r : Int32} {Sm S' : Mem} (hR : Rk cX6_tell (some .boolean) (some (vi r)) wl0 L0 0 0 S' Sm J) (c0 : Nat) (x1 : Int32) (x2 : Int32) (S : Mem) (hF : fX6_tell_27 c0 x1 x2 S = (r, S')) : J 27 [some (vr 6 c0), some (vi x1), some (vi x2), none] [] wl0 L0 0 0 S Sm := by
  rw [fX6_tell_27] at hF
  refine hJ.iload_n (pc := 27) dX6_tell_27 rfl ?_
  refine hJ.iconst (pc := 28) 1 dX6_tell_28 ic_1 ?_
  refine hJ.icmp_ne (pc := 29) 48 dX6_tell_29 (by decide) (fun h4 => ?_) (fun h4 => ?_)
  · rw [if_neg h4] at hF
    exact wX6_tell_48 hJ hR c0 x1 x2 S hF
  · rw [if_pos h4] at hF
    refine hJ.iload_n (pc := 32) dX6_tell_32 rfl ?_
    refine hJ.iconst (pc := 33) 0 dX6_tell_33 ic_0 ?_
    refine hJ.iconst (pc := 34) 1 dX6_tell_34 ic_1 ?_
    refine hJ.cSN (pc := 35) [vi x2, vi 0, vi 1] [] [vi (fX11_within x2 0 1)] dX6_tell_35 lk_X6_27 (ctX11_within x2 0 1 _ _ (fX11_within x2 0 1) rfl) rfl rfl rfl rfl ?_
    refine hJ.if_eq (pc := 38) 48 dX6_tell_38 (by decide) (fun h5 => ?_) (fun h5 => ?_)
    · rw [if_pos h5] at hF
      exact wX6_tell_48 hJ hR c0 x1 x2 S hF
    · rw [if_neg h5] at hF
      refine hJ.aload_n (pc := 41) dX6_tell_41 rfl ?_
      refine hJ.iload_n (pc := 42) dX6_tell_42 rfl ?_
      refine hJ.pI (pc := 43) dX6_tell_43 fp_X6_18 ?_
      refine hJ.iconst (pc := 46) 1 dX6_tell_46 ic_1 ?_
      cases hF
      exact hR.n (pc := 47) (by decide) dX6_tell_47
set_option maxRecDepth 100000 in
set_option maxHeartbeats 4000000 in
theorem ctX6_tell (a0 : Nat) (p0 : Int32) (p1 : Int32) (p2 : Int32) (S Sm : Mem) (r : Int32) (S' : Mem) (hF : fX6_tell a0 p0 p1 p2 S = (r, S')) : Ct yX6_tell cX6_tell 4 (some .boolean) 1 22 0 0 [vr 6 a0, vi p0, vi p1, vi p2] wl0 L0 S Sm (some (vi r)) wl0 L0 S' Sm := by
  refine Ct.of RX6 false (by decide) rfl (fun h => by cases h) (Nat.le_of_ble_eq_true rfl) (fun J hJ hR => ?_)
  rw [fX6_tell] at hF
  show J 0 [some (vr 6 a0), some (vi p0), some (vi p1), some (vi p2)] [] wl0 L0 0 0 S Sm
  refine hJ.iload_n (pc := 0) dX6_tell_0 rfl ?_
  refine hJ.if_ne (pc := 1) 27 dX6_tell_1 (by decide) (fun h1 => ?_) (fun h1 => ?_)
  · rw [if_neg h1] at hF
    refine hJ.weak [some (vr 6 a0), some (vi p0), some (vi p1), none] ⟨rfl, rfl, rfl, trivial⟩ ?_
    exact wX6_tell_27 hJ hR a0 p0 p1 S hF
  · rw [if_pos h1] at hF
    refine hJ.iload_n (pc := 4) dX6_tell_4 rfl ?_
    refine hJ.iconst (pc := 5) (-1) dX6_tell_5 ic_m1 ?_
    refine hJ.icmp_eq (pc := 6) 20 dX6_tell_6 (by decide) (fun h2 => ?_) (fun h2 => ?_)
    · rw [if_pos h2] at hF
      refine hJ.aload_n (pc := 20) dX6_tell_20 rfl ?_
      refine hJ.iload_n (pc := 21) dX6_tell_21 rfl ?_
      refine hJ.pI (pc := 22) dX6_tell_22 fp_X6_15 ?_
      refine hJ.iconst (pc := 25) 1 dX6_tell_25 ic_1 ?_
      cases hF
      exact hR.n (pc := 26) (by decide) dX6_tell_26
    · rw [if_neg h2] at hF
      refine hJ.iload_n (pc := 9) dX6_tell_9 rfl ?_
      refine hJ.iload_n (pc := 10) dX6_tell_10 rfl ?_
      refine hJ.sipush (pc := 11) 9999 dX6_tell_11 sc_9999 ?_
      refine hJ.cSN (pc := 14) [vi p1, vi p2, vi 9999] [] [vi (fX11_within p1 p2 9999)] dX6_tell_14 lk_X6_27 (ctX11_within p1 p2 9999 _ _ (fX11_within p1 p2 9999) rfl) rfl rfl rfl rfl ?_
      refine hJ.if_eq (pc := 17) 27 dX6_tell_17 (by decide) (fun h3 => ?_) (fun h3 => ?_)
      · rw [if_pos h3] at hF
        refine hJ.weak [some (vr 6 a0), some (vi p0), some (vi p1), none] ⟨rfl, rfl, rfl, trivial⟩ ?_
        exact wX6_tell_27 hJ hR a0 p0 p1 S hF
      · rw [if_neg h3] at hF
        refine hJ.aload_n (pc := 20) dX6_tell_20 rfl ?_
        refine hJ.iload_n (pc := 21) dX6_tell_21 rfl ?_
        refine hJ.pI (pc := 22) dX6_tell_22 fp_X6_15 ?_
        refine hJ.iconst (pc := 25) 1 dX6_tell_25 ic_1 ?_
        cases hF
        exact hR.n (pc := 26) (by decide) dX6_tell_26
set_option maxRecDepth 100000 in
set_option maxHeartbeats 4000000 in
theorem ctX11_set (p0 : Int32) (p1 : Int32) (p2 : Int32) (S Sm : Mem) (r : Int32) (S' : Mem) (hF : fX11_set p0 p1 p2 S = some (r, S')) : Ct yX11_set cX11_set 6 (some .boolean) 2 45 0 0 [vr 11 0, vi p0, vi p1, vi p2] wl0 L0 S Sm (some (vi r)) wl0 L0 S' Sm := by
  refine Ct.of RX11 false (by decide) rfl (fun h => by cases h) (Nat.le_of_ble_eq_true rfl) (fun J hJ hR => ?_)
  rw [fX11_set] at hF
  show J 0 [some (vr 11 0), some (vi p0), some (vi p1), some (vi p2), none, none] [] wl0 L0 0 0 S Sm
  refine hJ.aload_n (pc := 0) dX11_set_0 rfl ?_
  refine hJ.gR (pc := 1) (k' := 0) (i' := 0) dX11_set_1 fr_X11_10 rfl ?_
  refine hJ.iload_n (pc := 4) dX11_set_4 rfl ?_
  obtain ⟨r2, h1, hF⟩ := bn_some hF
  refine hJ.cV (pc := 5) [vi p0] [] [vq 6 r2] dX11_set_5 lk_X11_76 (ctX0_readerAt p0 _ _ _ h1) rfl rfl rfl rfl ?_
  cases r2 with
  | none =>
    rw [mt_n] at hF
    refine hJ.astore (pc := 8) [some (vr 11 0), some (vi p0), some (vi p1), some (vi p2), some (vn), none] dX11_set_8 (by decide) rfl ?_
    refine hJ.aload (pc := 10) dX11_set_10 rfl ?_
    refine hJ.ifnonnullN (pc := 12) dX11_set_12 ?_
    refine hJ.iconst (pc := 15) 0 dX11_set_15 ic_0 ?_
    cases hF
    exact hR.n (pc := 16) (by decide) dX11_set_16
  | some i3 =>
    rw [mt_s] at hF
    refine hJ.astore (pc := 8) [some (vr 11 0), some (vi p0), some (vi p1), some (vi p2), some (vr 6 i3), none] dX11_set_8 (by decide) rfl ?_
    refine hJ.aload (pc := 10) dX11_set_10 rfl ?_
    refine hJ.ifnonnullY (pc := 12) 17 dX11_set_12 (by decide) ?_
    refine hJ.aload (pc := 17) dX11_set_17 rfl ?_
    refine hJ.iload_n (pc := 19) dX11_set_19 rfl ?_
    refine hJ.iload_n (pc := 20) dX11_set_20 rfl ?_
    refine hJ.aload_n (pc := 21) dX11_set_21 rfl ?_
    refine hJ.gR (pc := 22) (k' := 0) (i' := 0) dX11_set_22 fr_X11_10 rfl ?_
    refine hJ.gI (pc := 25) dX11_set_25 fi_X11_80 ?_
    refine hJ.cV (pc := 28) [vi p1, vi p2, vi (S 0 0 8)] [] [vi (fX6_tell i3 p1 p2 (S 0 0 8) S).1] dX11_set_28 lk_X11_83 (ctX6_tell i3 p1 p2 (S 0 0 8) _ _ (fX6_tell i3 p1 p2 (S 0 0 8) S).1 (fX6_tell i3 p1 p2 (S 0 0 8) S).2 rfl) rfl rfl rfl rfl ?_
    refine hJ.istore (pc := 31) [some (vr 11 0), some (vi p0), some (vi p1), some (vi p2), some (vr 6 i3), some (vi (fX6_tell i3 p1 p2 (S 0 0 8) S).1)] dX11_set_31 (by decide) rfl ?_
    refine hJ.iload (pc := 33) dX11_set_33 rfl ?_
    refine hJ.if_eq (pc := 35) 45 dX11_set_35 (by decide) (fun h4 => ?_) (fun h4 => ?_)
    · rw [if_pos h4] at hF
      refine hJ.iload (pc := 45) dX11_set_45 rfl ?_
      cases hF
      exact hR.n (pc := 47) (bool_nar (zX6_tell _ _ _ _ _ )).1 dX11_set_47
    · rw [if_neg h4] at hF
      refine hJ.aload_n (pc := 38) dX11_set_38 rfl ?_
      refine hJ.gR (pc := 39) (k' := 10) (i' := 0) dX11_set_39 fr_X11_40 rfl ?_
      refine hJ.cV (pc := 42) [] [] [] dX11_set_42 lk_X11_63 (ctX10_forget _ _ (fX10_forget (fX6_tell i3 p1 p2 (S 0 0 8) S).2) rfl) rfl rfl rfl rfl ?_
      refine hJ.iload (pc := 45) dX11_set_45 rfl ?_
      cases hF
      exact hR.n (pc := 47) (bool_nar (zX6_tell _ _ _ _ _ )).1 dX11_set_47
set_option maxRecDepth 100000 in
set_option maxHeartbeats 4000000 in
theorem ctX11_isShelf (p0 : Int32) (Sc Sm : Mem) (r : Int32) (hF : fX11_isShelf p0 = r) : Ct yX11_isShelf cX11_isShelf 1 (some .boolean) 1 22 0 0 [vi p0] wl0 L0 Sc Sm (some (vi r)) wl0 L0 Sc Sm := by
  refine Ct.of RX11 false (by decide) rfl (fun h => by cases h) (Nat.le_of_ble_eq_true rfl) (fun J hJ hR => ?_)
  rw [fX11_isShelf] at hF
  show J 0 [some (vi p0)] [] wl0 L0 0 0 Sc Sm
  refine hJ.iload_n (pc := 0) dX11_isShelf_0 rfl ?_
  refine hJ.iconst (pc := 1) 0 dX11_isShelf_1 ic_0 ?_
  refine hJ.iconst (pc := 2) 4 dX11_isShelf_2 ic_4 ?_
  refine hJ.cS (pc := 3) [vi p0, vi 0, vi 4] [] [vi (fX11_within p0 0 4)] dX11_isShelf_3 lk_X11_56 (ctX11_within p0 0 4 _ _ (fX11_within p0 0 4) rfl) rfl rfl rfl rfl ?_
  cases hF
  exact hR.n (pc := 6) (bool_nar (zX11_within _ _ _ )).1 dX11_isShelf_6
set_option maxRecDepth 100000 in
set_option maxHeartbeats 4000000 in
theorem ctX5_becomeUnread (a0 : Nat) (p0 : Int32) (S Sm : Mem) (S' : Mem) (hF : fX5_becomeUnread a0 p0 S = S') : Ct yX5_becomeUnread cX5_becomeUnread 2 none 0 0 0 0 [vr 5 a0, vi p0] wl0 L0 S Sm none wl0 L0 S' Sm := by
  refine Ct.of RX5 false (by decide) rfl (fun h => by cases h) (Nat.le_of_ble_eq_true rfl) (fun J hJ hR => ?_)
  rw [fX5_becomeUnread] at hF
  show J 0 [some (vr 5 a0), some (vi p0)] [] wl0 L0 0 0 S Sm
  refine hJ.aload_n (pc := 0) dX5_becomeUnread_0 rfl ?_
  refine hJ.iconst (pc := 1) (-1) dX5_becomeUnread_1 ic_m1 ?_
  refine hJ.pI (pc := 2) dX5_becomeUnread_2 fp_X5_28 ?_
  refine hJ.aload_n (pc := 5) dX5_becomeUnread_5 rfl ?_
  refine hJ.iconst (pc := 6) 0 dX5_becomeUnread_6 ic_0 ?_
  refine hJ.pI (pc := 7) dX5_becomeUnread_7 fp_X5_31 ?_
  refine hJ.aload_n (pc := 10) dX5_becomeUnread_10 rfl ?_
  refine hJ.iconst (pc := 11) 0 dX5_becomeUnread_11 ic_0 ?_
  refine hJ.pI (pc := 12) dX5_becomeUnread_12 fp_X5_34 ?_
  refine hJ.aload_n (pc := 15) dX5_becomeUnread_15 rfl ?_
  refine hJ.iload_n (pc := 16) dX5_becomeUnread_16 rfl ?_
  refine hJ.pI (pc := 17) dX5_becomeUnread_17 fp_X5_37 ?_
  cases hF
  exact hR.v (pc := 20) dX5_becomeUnread_20
set_option maxRecDepth 100000 in
set_option maxHeartbeats 4000000 in
theorem ctX5_become (a0 : Nat) (p0 : Int32) (p1 : Int32) (p2 : Int32) (S Sm : Mem) (S' : Mem) (hF : fX5_become a0 p0 p1 p2 S = S') : Ct yX5_become cX5_become 4 none 1 21 0 0 [vr 5 a0, vi p0, vi p1, vi p2] wl0 L0 S Sm none wl0 L0 S' Sm := by
  refine Ct.of RX5 false (by decide) rfl (fun h => by cases h) (Nat.le_of_ble_eq_true rfl) (fun J hJ hR => ?_)
  rw [fX5_become] at hF
  show J 0 [some (vr 5 a0), some (vi p0), some (vi p1), some (vi p2)] [] wl0 L0 0 0 S Sm
  refine hJ.aload_n (pc := 0) dX5_become_0 rfl ?_
  refine hJ.iload_n (pc := 1) dX5_become_1 rfl ?_
  refine hJ.pI (pc := 2) dX5_become_2 fp_X5_9 ?_
  refine hJ.aload_n (pc := 5) dX5_become_5 rfl ?_
  refine hJ.iload_n (pc := 6) dX5_become_6 rfl ?_
  refine hJ.pI (pc := 7) dX5_become_7 fp_X5_15 ?_
  refine hJ.aload_n (pc := 10) dX5_become_10 rfl ?_
  refine hJ.iload_n (pc := 11) dX5_become_11 rfl ?_
  refine hJ.pI (pc := 12) dX5_become_12 fp_X5_18 ?_
  refine hJ.aload_n (pc := 15) dX5_become_15 rfl ?_
  refine hJ.iconst (pc := 16) (-1) dX5_become_16 ic_m1 ?_
  refine hJ.pI (pc := 17) dX5_become_17 fp_X5_21 ?_
  refine hJ.aload_n (pc := 20) dX5_become_20 rfl ?_
  refine hJ.iload_n (pc := 21) dX5_become_21 rfl ?_
  refine hJ.cV (pc := 22) [vi p2] [] [] dX5_become_22 lk_X5_24 (ctX5_becomeUnread a0 p2 _ _ (fX5_becomeUnread a0 p2 (up (up (up (up S 5 a0 0 p0) 5 a0 1 p1) 5 a0 2 p2) 5 a0 7 (-1))) rfl) rfl rfl rfl rfl ?_
  cases hF
  exact hR.v (pc := 25) dX5_become_25
set_option maxRecDepth 100000 in
set_option maxHeartbeats 4000000 in
theorem ctX11_paper (p0 : Int32) (S Sm : Mem) (r : Int32) (S' : Mem) (hF : fX11_paper p0 S = some (r, S')) : Ct yX11_paper cX11_paper 3 (some .int) 2 44 0 0 [vr 11 0, vi p0] wl0 L0 S Sm (some (vi r)) wl0 L0 S' Sm := by
  refine Ct.of RX11 false (by decide) rfl (fun h => by cases h) (Nat.le_of_ble_eq_true rfl) (fun J hJ hR => ?_)
  rw [fX11_paper] at hF
  show J 0 [some (vr 11 0), some (vi p0), none] [] wl0 L0 0 0 S Sm
  refine hJ.iload_n (pc := 0) dX11_paper_0 rfl ?_
  refine hJ.cS (pc := 1) [vi p0] [] [vi (fX11_isShelf p0)] dX11_paper_1 lk_X11_86 (ctX11_isShelf p0 _ _ (fX11_isShelf p0) rfl) rfl rfl rfl rfl ?_
  refine hJ.if_eq (pc := 4) 19 dX11_paper_4 (by decide) (fun h1 => ?_) (fun h1 => ?_)
  · rw [if_pos h1] at hF
    refine hJ.iconst (pc := 19) (-1) dX11_paper_19 ic_m1 ?_
    cases hF
    exact hR.i (pc := 20) dX11_paper_20
  · rw [if_neg h1] at hF
    refine hJ.aload_n (pc := 7) dX11_paper_7 rfl ?_
    refine hJ.gR (pc := 8) (k' := 0) (i' := 0) dX11_paper_8 fr_X11_10 rfl ?_
    refine hJ.gI (pc := 11) dX11_paper_11 fi_X11_90 ?_
    refine hJ.bipush (pc := 14) 12 dX11_paper_14 bc_12 ?_
    refine hJ.icmp_lt (pc := 16) 21 dX11_paper_16 (by decide) (fun h2 => ?_) (fun h2 => ?_)
    · rw [if_pos h2] at hF
      refine hJ.aload_n (pc := 21) dX11_paper_21 rfl ?_
      refine hJ.gR (pc := 22) (k' := 10) (i' := 0) dX11_paper_22 fr_X11_40 rfl ?_
      refine hJ.cV (pc := 25) [] [] [] dX11_paper_25 lk_X11_63 (ctX10_forget _ _ (fX10_forget S) rfl) rfl rfl rfl rfl ?_
      refine hJ.aload_n (pc := 28) dX11_paper_28 rfl ?_
      refine hJ.gR (pc := 29) (k' := 0) (i' := 0) dX11_paper_29 fr_X11_10 rfl ?_
      refine hJ.gI (pc := 32) dX11_paper_32 fi_X11_90 ?_
      refine hJ.istore_n (pc := 35) [some (vr 11 0), some (vi p0), some (vi ((fX10_forget S) 0 0 7))] dX11_paper_35 (by decide) rfl ?_
      refine hJ.aload_n (pc := 36) dX11_paper_36 rfl ?_
      refine hJ.gR (pc := 37) (k' := 0) (i' := 0) dX11_paper_37 fr_X11_10 rfl ?_
      refine hJ.gR (pc := 40) (k' := 14) (i' := 0) dX11_paper_40 fr_X11_93 rfl ?_
      refine hJ.iload_n (pc := 43) dX11_paper_43 rfl ?_
      obtain ⟨j3, h4, hF⟩ := bn_some hF
      refine hJ.aald (pc := 44) (k' := 5) (i' := j3) dX11_paper_44 aq_14 rfl h4 (L0_14_0 (ix_some h4).2.2) ?_
      refine hJ.iload_n (pc := 45) dX11_paper_45 rfl ?_
      refine hJ.iload_n (pc := 46) dX11_paper_46 rfl ?_
      refine hJ.aload_n (pc := 47) dX11_paper_47 rfl ?_
      refine hJ.gR (pc := 48) (k' := 0) (i' := 0) dX11_paper_48 fr_X11_10 rfl ?_
      refine hJ.gI (pc := 51) dX11_paper_51 fi_X11_80 ?_
      refine hJ.cV (pc := 54) [vi ((fX10_forget S) 0 0 7), vi p0, vi ((fX10_forget S) 0 0 8)] [] [] dX11_paper_54 lk_X11_97 (ctX5_become j3 ((fX10_forget S) 0 0 7) p0 ((fX10_forget S) 0 0 8) _ _ (fX5_become j3 ((fX10_forget S) 0 0 7) p0 ((fX10_forget S) 0 0 8) (fX10_forget S)) rfl) rfl rfl rfl rfl ?_
      refine hJ.aload_n (pc := 57) dX11_paper_57 rfl ?_
      refine hJ.gR (pc := 58) (k' := 0) (i' := 0) dX11_paper_58 fr_X11_10 rfl ?_
      refine hJ.iload_n (pc := 61) dX11_paper_61 rfl ?_
      refine hJ.iconst (pc := 62) 1 dX11_paper_62 ic_1 ?_
      refine hJ.iadd (pc := 63) dX11_paper_63 ?_
      refine hJ.pI (pc := 64) dX11_paper_64 fp_X11_90 ?_
      refine hJ.iload_n (pc := 67) dX11_paper_67 rfl ?_
      cases hF
      exact hR.i (pc := 68) dX11_paper_68
    · rw [if_neg h2] at hF
      refine hJ.iconst (pc := 19) (-1) dX11_paper_19 ic_m1 ?_
      cases hF
      exact hR.i (pc := 20) dX11_paper_20
set_option maxRecDepth 100000 in
set_option maxHeartbeats 4000000 in
theorem ctX0_paperAt (p0 : Int32) (S Sm : Mem) (r : Option Nat) (hF : fX0_paperAt p0 S = some r) : Ct yX0_paperAt cX0_paperAt 2 (some (.object "PaperAger$Paper")) 1 22 0 0 [vr 0 0, vi p0] wl0 L0 S Sm (some (vq 5 r)) wl0 L0 S Sm := by
  refine Ct.of RX0 false (by decide) rfl (fun h => by cases h) (Nat.le_of_ble_eq_true rfl) (fun J hJ hR => ?_)
  rw [fX0_paperAt] at hF
  show J 0 [some (vr 0 0), some (vi p0)] [] wl0 L0 0 0 S Sm
  refine hJ.iload_n (pc := 0) dX0_paperAt_0 rfl ?_
  refine hJ.iconst (pc := 1) 0 dX0_paperAt_1 ic_0 ?_
  refine hJ.aload_n (pc := 2) dX0_paperAt_2 rfl ?_
  refine hJ.gI (pc := 3) dX0_paperAt_3 fi_X0_54 ?_
  refine hJ.iconst (pc := 6) 1 dX0_paperAt_6 ic_1 ?_
  refine hJ.isub (pc := 7) dX0_paperAt_7 ?_
  refine hJ.cSN (pc := 8) [vi p0, vi 0, vi ((S 0 0 7) - 1)] [] [vi (fX11_within p0 0 ((S 0 0 7) - 1))] dX0_paperAt_8 lk_X0_68 (ctX11_within p0 0 ((S 0 0 7) - 1) _ _ (fX11_within p0 0 ((S 0 0 7) - 1)) rfl) rfl rfl rfl rfl ?_
  refine hJ.if_eq (pc := 11) 23 dX0_paperAt_11 (by decide) (fun h1 => ?_) (fun h1 => ?_)
  · rw [if_pos h1] at hF
    refine hJ.aconst_null (pc := 23) dX0_paperAt_23 ?_
    cases hF
    exact hR.a (pc := 24) dX0_paperAt_24
  · rw [if_neg h1] at hF
    refine hJ.aload_n (pc := 14) dX0_paperAt_14 rfl ?_
    refine hJ.gR (pc := 15) (k' := 14) (i' := 0) dX0_paperAt_15 fr_X0_19 rfl ?_
    refine hJ.iload_n (pc := 18) dX0_paperAt_18 rfl ?_
    obtain ⟨j2, h3, hF⟩ := bn_some hF
    refine hJ.aald (pc := 19) (k' := 5) (i' := j2) dX0_paperAt_19 aq_14 rfl h3 (L0_14_0 (ix_some h3).2.2) ?_
    refine hJ.goto (pc := 20) 24 dX0_paperAt_20 (by decide) ?_
    cases hF
    exact hR.a (pc := 24) dX0_paperAt_24
set_option maxRecDepth 100000 in
set_option maxHeartbeats 4000000 in
theorem ctX11_move (p0 : Int32) (p1 : Int32) (S Sm : Mem) (r : Int32) (S' : Mem) (hF : fX11_move p0 p1 S = some (r, S')) : Ct yX11_move cX11_move 4 (some .boolean) 2 43 0 0 [vr 11 0, vi p0, vi p1] wl0 L0 S Sm (some (vi r)) wl0 L0 S' Sm := by
  refine Ct.of RX11 false (by decide) rfl (fun h => by cases h) (Nat.le_of_ble_eq_true rfl) (fun J hJ hR => ?_)
  rw [fX11_move] at hF
  show J 0 [some (vr 11 0), some (vi p0), some (vi p1), none] [] wl0 L0 0 0 S Sm
  refine hJ.aload_n (pc := 0) dX11_move_0 rfl ?_
  refine hJ.gR (pc := 1) (k' := 0) (i' := 0) dX11_move_1 fr_X11_10 rfl ?_
  refine hJ.iload_n (pc := 4) dX11_move_4 rfl ?_
  obtain ⟨r2, h1, hF⟩ := bn_some hF
  refine hJ.cV (pc := 5) [vi p0] [] [vq 5 r2] dX11_move_5 lk_X11_102 (ctX0_paperAt p0 _ _ _ h1) rfl rfl rfl rfl ?_
  cases r2 with
  | none =>
    rw [mt_n] at hF
    refine hJ.astore_n (pc := 8) [some (vr 11 0), some (vi p0), some (vi p1), some (vn)] dX11_move_8 (by decide) rfl ?_
    refine hJ.aload_n (pc := 9) dX11_move_9 rfl ?_
    refine hJ.ifnullY (pc := 10) 20 dX11_move_10 (by decide) ?_
    refine hJ.iconst (pc := 20) 0 dX11_move_20 ic_0 ?_
    cases hF
    exact hR.n (pc := 21) (by decide) dX11_move_21
  | some i3 =>
    rw [mt_s] at hF
    refine hJ.astore_n (pc := 8) [some (vr 11 0), some (vi p0), some (vi p1), some (vr 5 i3)] dX11_move_8 (by decide) rfl ?_
    refine hJ.aload_n (pc := 9) dX11_move_9 rfl ?_
    refine hJ.ifnullN (pc := 10) dX11_move_10 ?_
    refine hJ.iload_n (pc := 13) dX11_move_13 rfl ?_
    refine hJ.cS (pc := 14) [vi p1] [] [vi (fX11_isShelf p1)] dX11_move_14 lk_X11_86 (ctX11_isShelf p1 _ _ (fX11_isShelf p1) rfl) rfl rfl rfl rfl ?_
    refine hJ.if_ne (pc := 17) 22 dX11_move_17 (by decide) (fun h4 => ?_) (fun h4 => ?_)
    · rw [if_neg h4] at hF
      refine hJ.aload_n (pc := 22) dX11_move_22 rfl ?_
      refine hJ.gR (pc := 23) (k' := 10) (i' := 0) dX11_move_23 fr_X11_40 rfl ?_
      refine hJ.cV (pc := 26) [] [] [] dX11_move_26 lk_X11_63 (ctX10_forget _ _ (fX10_forget S) rfl) rfl rfl rfl rfl ?_
      refine hJ.aload_n (pc := 29) dX11_move_29 rfl ?_
      refine hJ.iload_n (pc := 30) dX11_move_30 rfl ?_
      refine hJ.pI (pc := 31) dX11_move_31 fp_X11_106 ?_
      refine hJ.iconst (pc := 34) 1 dX11_move_34 ic_1 ?_
      cases hF
      exact hR.n (pc := 35) (by decide) dX11_move_35
    · rw [if_pos h4] at hF
      refine hJ.iconst (pc := 20) 0 dX11_move_20 ic_0 ?_
      cases hF
      exact hR.n (pc := 21) (by decide) dX11_move_21
set_option maxRecDepth 100000 in
set_option maxHeartbeats 4000000 in
theorem wX0_changeShelves_2 {J : Nat → Lv → List AV → Obs → Lay → Nat → Nat → Mem → Mem → Prop} (hJ : Cl RX0 cX0_changeShelves 4 0 0 0 0 none false J) {Sm S' : Mem} (hR : Rk cX0_changeShelves none none wl0 L0 0 0 S' Sm J) : ∀ (n : Nat) (x1 : Int32) (x2 : Int32) (x3 : Int32) (S : Mem), fX0_changeShelves_2 n x1 x2 x3 S = some (S') → J 2 [some (vr 0 0), some (vi x1), some (vi x2), some (vi x3)] [] wl0 L0 0 0 S Sm := by
  intro n
  induction n with
  | zero =>
    intro x1 x2 x3 S hF
    rw [fX0_changeShelves_2] at hF
    cases hF
  | succ n ih =>
    intro x1 x2 x3 S hF
    rw [fX0_changeShelves_2] at hF
    refine hJ.iload_n (pc := 2) dX0_changeShelves_2 rfl ?_
    refine hJ.aload_n (pc := 3) dX0_changeShelves_3 rfl ?_
    refine hJ.gI (pc := 4) dX0_changeShelves_4 fi_X0_54 ?_
    refine hJ.icmp_ge (pc := 7) 65 dX0_changeShelves_7 (by decide) (fun h1 => ?_) (fun h1 => ?_)
    · rw [if_pos h1] at hF
      cases hF
      exact hR.v (pc := 65) dX0_changeShelves_65
    · rw [if_neg h1] at hF
      refine hJ.aload_n (pc := 10) dX0_changeShelves_10 rfl ?_
      refine hJ.gR (pc := 11) (k' := 14) (i' := 0) dX0_changeShelves_11 fr_X0_19 rfl ?_
      refine hJ.iload_n (pc := 14) dX0_changeShelves_14 rfl ?_
      obtain ⟨j2, h3, hF⟩ := bn_some hF
      refine hJ.aald (pc := 15) (k' := 5) (i' := j2) dX0_changeShelves_15 aq_14 rfl h3 (L0_14_0 (ix_some h3).2.2) ?_
      refine hJ.gI (pc := 16) dX0_changeShelves_16 fi_X0_95 ?_
      refine hJ.iload_n (pc := 19) dX0_changeShelves_19 rfl ?_
      refine hJ.icmp_ne (pc := 20) 36 dX0_changeShelves_20 (by decide) (fun h4 => ?_) (fun h4 => ?_)
      · rw [if_neg h4] at hF
        refine hJ.aload_n (pc := 36) dX0_changeShelves_36 rfl ?_
        refine hJ.gR (pc := 37) (k' := 14) (i' := 0) dX0_changeShelves_37 fr_X0_19 rfl ?_
        refine hJ.iload_n (pc := 40) dX0_changeShelves_40 rfl ?_
        refine hJ.aald (pc := 41) (k' := 5) (i' := j2) dX0_changeShelves_41 aq_14 rfl h3 (L0_14_0 (ix_some h3).2.2) ?_
        refine hJ.gI (pc := 42) dX0_changeShelves_42 fi_X0_95 ?_
        refine hJ.iload_n (pc := 45) dX0_changeShelves_45 rfl ?_
        refine hJ.icmp_ne (pc := 46) 59 dX0_changeShelves_46 (by decide) (fun h5 => ?_) (fun h5 => ?_)
        · rw [if_neg h5] at hF
          refine hJ.iinc (pc := 59) (x3 + 1) [some (vr 0 0), some (vi x1), some (vi x2), some (vi (x3 + 1))] dX0_changeShelves_59 (by decide) rfl (congrArg (fun z => x3 + z) ic_1) rfl ?_
          refine hJ.goto (pc := 62) 2 dX0_changeShelves_62 (by decide) ?_
          exact ih x1 x2 (x3 + 1) S hF
        · rw [if_pos h5] at hF
          refine hJ.aload_n (pc := 49) dX0_changeShelves_49 rfl ?_
          refine hJ.gR (pc := 50) (k' := 14) (i' := 0) dX0_changeShelves_50 fr_X0_19 rfl ?_
          refine hJ.iload_n (pc := 53) dX0_changeShelves_53 rfl ?_
          refine hJ.aald (pc := 54) (k' := 5) (i' := j2) dX0_changeShelves_54 aq_14 rfl h3 (L0_14_0 (ix_some h3).2.2) ?_
          refine hJ.iload_n (pc := 55) dX0_changeShelves_55 rfl ?_
          refine hJ.pI (pc := 56) dX0_changeShelves_56 fp_X0_95 ?_
          refine hJ.iinc (pc := 59) (x3 + 1) [some (vr 0 0), some (vi x1), some (vi x2), some (vi (x3 + 1))] dX0_changeShelves_59 (by decide) rfl (congrArg (fun z => x3 + z) ic_1) rfl ?_
          refine hJ.goto (pc := 62) 2 dX0_changeShelves_62 (by decide) ?_
          exact ih x1 x2 (x3 + 1) (up S 5 j2 1 x1) hF
      · rw [if_pos h4] at hF
        refine hJ.aload_n (pc := 23) dX0_changeShelves_23 rfl ?_
        refine hJ.gR (pc := 24) (k' := 14) (i' := 0) dX0_changeShelves_24 fr_X0_19 rfl ?_
        refine hJ.iload_n (pc := 27) dX0_changeShelves_27 rfl ?_
        refine hJ.aald (pc := 28) (k' := 5) (i' := j2) dX0_changeShelves_28 aq_14 rfl h3 (L0_14_0 (ix_some h3).2.2) ?_
        refine hJ.iload_n (pc := 29) dX0_changeShelves_29 rfl ?_
        refine hJ.pI (pc := 30) dX0_changeShelves_30 fp_X0_95 ?_
        refine hJ.goto (pc := 33) 59 dX0_changeShelves_33 (by decide) ?_
        refine hJ.iinc (pc := 59) (x3 + 1) [some (vr 0 0), some (vi x1), some (vi x2), some (vi (x3 + 1))] dX0_changeShelves_59 (by decide) rfl (congrArg (fun z => x3 + z) ic_1) rfl ?_
        refine hJ.goto (pc := 62) 2 dX0_changeShelves_62 (by decide) ?_
        exact ih x1 x2 (x3 + 1) (up S 5 j2 1 x2) hF
set_option maxRecDepth 100000 in
set_option maxHeartbeats 4000000 in
theorem ctX0_changeShelves (p0 : Int32) (p1 : Int32) (S Sm : Mem) (S' : Mem) (hF : fX0_changeShelves p0 p1 S = some (S')) : Ct yX0_changeShelves cX0_changeShelves 4 none 0 0 0 0 [vr 0 0, vi p0, vi p1] wl0 L0 S Sm none wl0 L0 S' Sm := by
  refine Ct.of RX0 false (by decide) rfl (fun h => by cases h) (Nat.le_of_ble_eq_true rfl) (fun J hJ hR => ?_)
  rw [fX0_changeShelves] at hF
  show J 0 [some (vr 0 0), some (vi p0), some (vi p1), none] [] wl0 L0 0 0 S Sm
  refine hJ.iconst (pc := 0) 0 dX0_changeShelves_0 ic_0 ?_
  refine hJ.istore_n (pc := 1) [some (vr 0 0), some (vi p0), some (vi p1), some (vi 0)] dX0_changeShelves_1 (by decide) rfl ?_
  exact wX0_changeShelves_2 hJ hR 5000 p0 p1 0 S hF
set_option maxRecDepth 100000 in
set_option maxHeartbeats 4000000 in
theorem ctX11_swap (p0 : Int32) (p1 : Int32) (S Sm : Mem) (r : Int32) (S' : Mem) (hF : fX11_swap p0 p1 S = some (r, S')) : Ct yX11_swap cX11_swap 3 (some .boolean) 2 42 0 0 [vr 11 0, vi p0, vi p1] wl0 L0 S Sm (some (vi r)) wl0 L0 S' Sm := by
  refine Ct.of RX11 false (by decide) rfl (fun h => by cases h) (Nat.le_of_ble_eq_true rfl) (fun J hJ hR => ?_)
  rw [fX11_swap] at hF
  show J 0 [some (vr 11 0), some (vi p0), some (vi p1)] [] wl0 L0 0 0 S Sm
  refine hJ.iload_n (pc := 0) dX11_swap_0 rfl ?_
  refine hJ.cS (pc := 1) [vi p0] [] [vi (fX11_isShelf p0)] dX11_swap_1 lk_X11_86 (ctX11_isShelf p0 _ _ (fX11_isShelf p0) rfl) rfl rfl rfl rfl ?_
  refine hJ.if_eq (pc := 4) 19 dX11_swap_4 (by decide) (fun h1 => ?_) (fun h1 => ?_)
  · rw [if_pos h1] at hF
    refine hJ.iconst (pc := 19) 0 dX11_swap_19 ic_0 ?_
    cases hF
    exact hR.n (pc := 20) (by decide) dX11_swap_20
  · rw [if_neg h1] at hF
    refine hJ.iload_n (pc := 7) dX11_swap_7 rfl ?_
    refine hJ.cS (pc := 8) [vi p1] [] [vi (fX11_isShelf p1)] dX11_swap_8 lk_X11_86 (ctX11_isShelf p1 _ _ (fX11_isShelf p1) rfl) rfl rfl rfl rfl ?_
    refine hJ.if_eq (pc := 11) 19 dX11_swap_11 (by decide) (fun h2 => ?_) (fun h2 => ?_)
    · rw [if_pos h2] at hF
      refine hJ.iconst (pc := 19) 0 dX11_swap_19 ic_0 ?_
      cases hF
      exact hR.n (pc := 20) (by decide) dX11_swap_20
    · rw [if_neg h2] at hF
      refine hJ.iload_n (pc := 14) dX11_swap_14 rfl ?_
      refine hJ.iload_n (pc := 15) dX11_swap_15 rfl ?_
      refine hJ.icmp_ne (pc := 16) 21 dX11_swap_16 (by decide) (fun h3 => ?_) (fun h3 => ?_)
      · rw [if_neg h3] at hF
        refine hJ.aload_n (pc := 21) dX11_swap_21 rfl ?_
        refine hJ.gR (pc := 22) (k' := 10) (i' := 0) dX11_swap_22 fr_X11_40 rfl ?_
        refine hJ.cV (pc := 25) [] [] [] dX11_swap_25 lk_X11_63 (ctX10_forget _ _ (fX10_forget S) rfl) rfl rfl rfl rfl ?_
        refine hJ.aload_n (pc := 28) dX11_swap_28 rfl ?_
        refine hJ.gR (pc := 29) (k' := 0) (i' := 0) dX11_swap_29 fr_X11_10 rfl ?_
        refine hJ.iload_n (pc := 32) dX11_swap_32 rfl ?_
        refine hJ.iload_n (pc := 33) dX11_swap_33 rfl ?_
        obtain ⟨S5, h4, hF⟩ := bn_some hF
        refine hJ.cV (pc := 34) [vi p0, vi p1] [] [] dX11_swap_34 lk_X11_109 (ctX0_changeShelves p0 p1 _ _ _ h4) rfl rfl rfl rfl ?_
        refine hJ.iconst (pc := 37) 1 dX11_swap_37 ic_1 ?_
        cases hF
        exact hR.n (pc := 38) (by decide) dX11_swap_38
      · rw [if_pos h3] at hF
        refine hJ.iconst (pc := 19) 0 dX11_swap_19 ic_0 ?_
        cases hF
        exact hR.n (pc := 20) (by decide) dX11_swap_20
set_option maxRecDepth 100000 in
set_option maxHeartbeats 4000000 in
theorem wX0_papersOn_4 {J : Nat → Lv → List AV → Obs → Lay → Nat → Nat → Mem → Mem → Prop} (hJ : Cl RX0 cX0_papersOn 4 0 0 0 0 none false J) {r : Int32} {Sm S : Mem} (hR : Rk cX0_papersOn (some .int) (some (vi r)) wl0 L0 0 0 S Sm J) : ∀ (n : Nat) (x1 : Int32) (x2 : Int32) (x3 : Int32), fX0_papersOn_4 n x1 x2 x3 S = some r → J 4 [some (vr 0 0), some (vi x1), some (vi x2), some (vi x3)] [] wl0 L0 0 0 S Sm := by
  intro n
  induction n with
  | zero =>
    intro x1 x2 x3 hF
    rw [fX0_papersOn_4] at hF
    cases hF
  | succ n ih =>
    intro x1 x2 x3 hF
    rw [fX0_papersOn_4] at hF
    refine hJ.iload_n (pc := 4) dX0_papersOn_4 rfl ?_
    refine hJ.aload_n (pc := 5) dX0_papersOn_5 rfl ?_
    refine hJ.gI (pc := 6) dX0_papersOn_6 fi_X0_54 ?_
    refine hJ.icmp_ge (pc := 9) 34 dX0_papersOn_9 (by decide) (fun h1 => ?_) (fun h1 => ?_)
    · rw [if_pos h1] at hF
      refine hJ.iload_n (pc := 34) dX0_papersOn_34 rfl ?_
      cases hF
      exact hR.i (pc := 35) dX0_papersOn_35
    · rw [if_neg h1] at hF
      refine hJ.aload_n (pc := 12) dX0_papersOn_12 rfl ?_
      refine hJ.gR (pc := 13) (k' := 14) (i' := 0) dX0_papersOn_13 fr_X0_19 rfl ?_
      refine hJ.iload_n (pc := 16) dX0_papersOn_16 rfl ?_
      obtain ⟨j2, h3, hF⟩ := bn_some hF
      refine hJ.aald (pc := 17) (k' := 5) (i' := j2) dX0_papersOn_17 aq_14 rfl h3 (L0_14_0 (ix_some h3).2.2) ?_
      refine hJ.gI (pc := 18) dX0_papersOn_18 fi_X0_95 ?_
      refine hJ.iload_n (pc := 21) dX0_papersOn_21 rfl ?_
      refine hJ.icmp_ne (pc := 22) 28 dX0_papersOn_22 (by decide) (fun h4 => ?_) (fun h4 => ?_)
      · rw [if_neg h4] at hF
        refine hJ.iinc (pc := 28) (x3 + 1) [some (vr 0 0), some (vi x1), some (vi x2), some (vi (x3 + 1))] dX0_papersOn_28 (by decide) rfl (congrArg (fun z => x3 + z) ic_1) rfl ?_
        refine hJ.goto (pc := 31) 4 dX0_papersOn_31 (by decide) ?_
        exact ih x1 x2 (x3 + 1) hF
      · rw [if_pos h4] at hF
        refine hJ.iinc (pc := 25) (x2 + 1) [some (vr 0 0), some (vi x1), some (vi (x2 + 1)), some (vi x3)] dX0_papersOn_25 (by decide) rfl (congrArg (fun z => x2 + z) ic_1) rfl ?_
        refine hJ.iinc (pc := 28) (x3 + 1) [some (vr 0 0), some (vi x1), some (vi (x2 + 1)), some (vi (x3 + 1))] dX0_papersOn_28 (by decide) rfl (congrArg (fun z => x3 + z) ic_1) rfl ?_
        refine hJ.goto (pc := 31) 4 dX0_papersOn_31 (by decide) ?_
        exact ih x1 (x2 + 1) (x3 + 1) hF
set_option maxRecDepth 100000 in
set_option maxHeartbeats 4000000 in
theorem ctX0_papersOn (p0 : Int32) (S Sm : Mem) (r : Int32) (hF : fX0_papersOn p0 S = some r) : Ct yX0_papersOn cX0_papersOn 4 (some .int) 0 0 0 0 [vr 0 0, vi p0] wl0 L0 S Sm (some (vi r)) wl0 L0 S Sm := by
  refine Ct.of RX0 false (by decide) rfl (fun h => by cases h) (Nat.le_of_ble_eq_true rfl) (fun J hJ hR => ?_)
  rw [fX0_papersOn] at hF
  show J 0 [some (vr 0 0), some (vi p0), none, none] [] wl0 L0 0 0 S Sm
  refine hJ.iconst (pc := 0) 0 dX0_papersOn_0 ic_0 ?_
  refine hJ.istore_n (pc := 1) [some (vr 0 0), some (vi p0), some (vi 0), none] dX0_papersOn_1 (by decide) rfl ?_
  refine hJ.iconst (pc := 2) 0 dX0_papersOn_2 ic_0 ?_
  refine hJ.istore_n (pc := 3) [some (vr 0 0), some (vi p0), some (vi 0), some (vi 0)] dX0_papersOn_3 (by decide) rfl ?_
  exact wX0_papersOn_4 hJ hR 5000 p0 0 0 hF
set_option maxRecDepth 100000 in
set_option maxHeartbeats 4000000 in
theorem wX0_burn_2 {J : Nat → Lv → List AV → Obs → Lay → Nat → Nat → Mem → Mem → Prop} (hJ : Cl RX0 cX0_burn 3 1 23 0 0 none false J) {r : Int32} {Sm S' : Mem} (hR : Rk cX0_burn (some .int) (some (vi r)) wl0 L0 0 0 S' Sm J) : ∀ (n : Nat) (x1 : Int32) (x2 : Int32) (S : Mem), fX0_burn_2 n x1 x2 S = some (r, S') → J 2 [some (vr 0 0), some (vi x1), some (vi x2)] [] wl0 L0 0 0 S Sm := by
  intro n
  induction n with
  | zero =>
    intro x1 x2 S hF
    rw [fX0_burn_2] at hF
    cases hF
  | succ n ih =>
    intro x1 x2 S hF
    rw [fX0_burn_2] at hF
    refine hJ.iload_n (pc := 2) dX0_burn_2 rfl ?_
    refine hJ.aload_n (pc := 3) dX0_burn_3 rfl ?_
    refine hJ.gI (pc := 4) dX0_burn_4 fi_X0_54 ?_
    refine hJ.icmp_ge (pc := 7) 42 dX0_burn_7 (by decide) (fun h1 => ?_) (fun h1 => ?_)
    · rw [if_pos h1] at hF
      refine hJ.aload_n (pc := 42) dX0_burn_42 rfl ?_
      refine hJ.iload_n (pc := 43) dX0_burn_43 rfl ?_
      obtain ⟨r3, h2, hF⟩ := bn_some hF
      refine hJ.cV (pc := 44) [vi x1] [] [vi r3] dX0_burn_44 lk_X0_120 (ctX0_papersOn x1 _ _ _ h2) rfl rfl rfl rfl ?_
      cases hF
      exact hR.i (pc := 47) dX0_burn_47
    · rw [if_neg h1] at hF
      refine hJ.aload_n (pc := 10) dX0_burn_10 rfl ?_
      refine hJ.gR (pc := 11) (k' := 14) (i' := 0) dX0_burn_11 fr_X0_19 rfl ?_
      refine hJ.iload_n (pc := 14) dX0_burn_14 rfl ?_
      obtain ⟨j4, h5, hF⟩ := bn_some hF
      refine hJ.aald (pc := 15) (k' := 5) (i' := j4) dX0_burn_15 aq_14 rfl h5 (L0_14_0 (ix_some h5).2.2) ?_
      refine hJ.gI (pc := 16) dX0_burn_16 fi_X0_95 ?_
      refine hJ.iload_n (pc := 19) dX0_burn_19 rfl ?_
      refine hJ.icmp_ne (pc := 20) 36 dX0_burn_20 (by decide) (fun h6 => ?_) (fun h6 => ?_)
      · rw [if_neg h6] at hF
        refine hJ.iinc (pc := 36) (x2 + 1) [some (vr 0 0), some (vi x1), some (vi (x2 + 1))] dX0_burn_36 (by decide) rfl (congrArg (fun z => x2 + z) ic_1) rfl ?_
        refine hJ.goto (pc := 39) 2 dX0_burn_39 (by decide) ?_
        exact ih x1 (x2 + 1) S hF
      · rw [if_pos h6] at hF
        refine hJ.aload_n (pc := 23) dX0_burn_23 rfl ?_
        refine hJ.gR (pc := 24) (k' := 14) (i' := 0) dX0_burn_24 fr_X0_19 rfl ?_
        refine hJ.iload_n (pc := 27) dX0_burn_27 rfl ?_
        refine hJ.aald (pc := 28) (k' := 5) (i' := j4) dX0_burn_28 aq_14 rfl h5 (L0_14_0 (ix_some h5).2.2) ?_
        refine hJ.aload_n (pc := 29) dX0_burn_29 rfl ?_
        refine hJ.gI (pc := 30) dX0_burn_30 fi_X0_57 ?_
        refine hJ.cV (pc := 33) [vi (S 0 0 8)] [] [] dX0_burn_33 lk_X0_116 (ctX5_becomeUnread j4 (S 0 0 8) _ _ (fX5_becomeUnread j4 (S 0 0 8) S) rfl) rfl rfl rfl rfl ?_
        refine hJ.iinc (pc := 36) (x2 + 1) [some (vr 0 0), some (vi x1), some (vi (x2 + 1))] dX0_burn_36 (by decide) rfl (congrArg (fun z => x2 + z) ic_1) rfl ?_
        refine hJ.goto (pc := 39) 2 dX0_burn_39 (by decide) ?_
        exact ih x1 (x2 + 1) (fX5_becomeUnread j4 (S 0 0 8) S) hF
set_option maxRecDepth 100000 in
set_option maxHeartbeats 4000000 in
theorem ctX0_burn (p0 : Int32) (S Sm : Mem) (r : Int32) (S' : Mem) (hF : fX0_burn p0 S = some (r, S')) : Ct yX0_burn cX0_burn 3 (some .int) 1 23 0 0 [vr 0 0, vi p0] wl0 L0 S Sm (some (vi r)) wl0 L0 S' Sm := by
  refine Ct.of RX0 false (by decide) rfl (fun h => by cases h) (Nat.le_of_ble_eq_true rfl) (fun J hJ hR => ?_)
  rw [fX0_burn] at hF
  show J 0 [some (vr 0 0), some (vi p0), none] [] wl0 L0 0 0 S Sm
  refine hJ.iconst (pc := 0) 0 dX0_burn_0 ic_0 ?_
  refine hJ.istore_n (pc := 1) [some (vr 0 0), some (vi p0), some (vi 0)] dX0_burn_1 (by decide) rfl ?_
  exact wX0_burn_2 hJ hR 5000 p0 0 S hF
set_option maxRecDepth 100000 in
set_option maxHeartbeats 4000000 in
theorem ctX11_fire (p0 : Int32) (S Sm : Mem) (r : Int32) (S' : Mem) (hF : fX11_fire p0 S = some (r, S')) : Ct yX11_fire cX11_fire 2 (some .int) 2 45 0 0 [vr 11 0, vi p0] wl0 L0 S Sm (some (vi r)) wl0 L0 S' Sm := by
  refine Ct.of RX11 false (by decide) rfl (fun h => by cases h) (Nat.le_of_ble_eq_true rfl) (fun J hJ hR => ?_)
  rw [fX11_fire] at hF
  show J 0 [some (vr 11 0), some (vi p0)] [] wl0 L0 0 0 S Sm
  refine hJ.iload_n (pc := 0) dX11_fire_0 rfl ?_
  refine hJ.cS (pc := 1) [vi p0] [] [vi (fX11_isShelf p0)] dX11_fire_1 lk_X11_86 (ctX11_isShelf p0 _ _ (fX11_isShelf p0) rfl) rfl rfl rfl rfl ?_
  refine hJ.if_ne (pc := 4) 9 dX11_fire_4 (by decide) (fun h1 => ?_) (fun h1 => ?_)
  · rw [if_neg h1] at hF
    refine hJ.aload_n (pc := 9) dX11_fire_9 rfl ?_
    refine hJ.gR (pc := 10) (k' := 10) (i' := 0) dX11_fire_10 fr_X11_40 rfl ?_
    refine hJ.cV (pc := 13) [] [] [] dX11_fire_13 lk_X11_63 (ctX10_forget _ _ (fX10_forget S) rfl) rfl rfl rfl rfl ?_
    refine hJ.aload_n (pc := 16) dX11_fire_16 rfl ?_
    refine hJ.gR (pc := 17) (k' := 0) (i' := 0) dX11_fire_17 fr_X11_10 rfl ?_
    refine hJ.iload_n (pc := 20) dX11_fire_20 rfl ?_
    obtain ⟨r4, S3, h2, hF⟩ := bd_some hF
    refine hJ.cV (pc := 21) [vi p0] [] [vi r4] dX11_fire_21 lk_X11_113 (ctX0_burn p0 _ _ _ _ h2) rfl rfl rfl rfl ?_
    cases hF
    exact hR.i (pc := 24) dX11_fire_24
  · rw [if_pos h1] at hF
    refine hJ.iconst (pc := 7) (-1) dX11_fire_7 ic_m1 ?_
    cases hF
    exact hR.i (pc := 8) dX11_fire_8
set_option maxRecDepth 100000 in
set_option maxHeartbeats 4000000 in
theorem ctX6_livesOn (a0 : Nat) (p0 : Int32) (S Sm : Mem) (r : Int32) (hF : fX6_livesOn a0 p0 S = r) : Ct yX6_livesOn cX6_livesOn 2 (some .boolean) 0 0 0 0 [vr 6 a0, vi p0] wl0 L0 S Sm (some (vi r)) wl0 L0 S Sm := by
  refine Ct.of RX6 false (by decide) rfl (fun h => by cases h) (Nat.le_of_ble_eq_true rfl) (fun J hJ hR => ?_)
  rw [fX6_livesOn] at hF
  show J 0 [some (vr 6 a0), some (vi p0)] [] wl0 L0 0 0 S Sm
  refine hJ.iload_n (pc := 0) dX6_livesOn_0 rfl ?_
  refine hJ.aload_n (pc := 1) dX6_livesOn_1 rfl ?_
  refine hJ.gI (pc := 2) dX6_livesOn_2 fi_X6_9 ?_
  refine hJ.icmp_lt (pc := 5) 28 dX6_livesOn_5 (by decide) (fun h1 => ?_) (fun h1 => ?_)
  · rw [if_pos h1] at hF
    refine hJ.iconst (pc := 28) 0 dX6_livesOn_28 ic_0 ?_
    cases hF
    exact hR.n (pc := 29) (by decide) dX6_livesOn_29
  · rw [if_neg h1] at hF
    refine hJ.aload_n (pc := 8) dX6_livesOn_8 rfl ?_
    refine hJ.gI (pc := 9) dX6_livesOn_9 fi_X6_15 ?_
    refine hJ.iconst (pc := 12) (-1) dX6_livesOn_12 ic_m1 ?_
    refine hJ.icmp_eq (pc := 13) 24 dX6_livesOn_13 (by decide) (fun h2 => ?_) (fun h2 => ?_)
    · rw [if_pos h2] at hF
      refine hJ.iconst (pc := 24) 1 dX6_livesOn_24 ic_1 ?_
      refine hJ.goto (pc := 25) 29 dX6_livesOn_25 (by decide) ?_
      cases hF
      exact hR.n (pc := 29) (by decide) dX6_livesOn_29
    · rw [if_neg h2] at hF
      refine hJ.iload_n (pc := 16) dX6_livesOn_16 rfl ?_
      refine hJ.aload_n (pc := 17) dX6_livesOn_17 rfl ?_
      refine hJ.gI (pc := 18) dX6_livesOn_18 fi_X6_15 ?_
      refine hJ.icmp_ge (pc := 21) 28 dX6_livesOn_21 (by decide) (fun h3 => ?_) (fun h3 => ?_)
      · rw [if_pos h3] at hF
        refine hJ.iconst (pc := 28) 0 dX6_livesOn_28 ic_0 ?_
        cases hF
        exact hR.n (pc := 29) (by decide) dX6_livesOn_29
      · rw [if_neg h3] at hF
        refine hJ.iconst (pc := 24) 1 dX6_livesOn_24 ic_1 ?_
        refine hJ.goto (pc := 25) 29 dX6_livesOn_25 (by decide) ?_
        cases hF
        exact hR.n (pc := 29) (by decide) dX6_livesOn_29
set_option maxRecDepth 100000 in
set_option maxHeartbeats 4000000 in
theorem ctX3_held (p0 : Int32) (Sc Sm : Mem) (r : Int32) (hF : fX3_held p0 = r) : Ct yX3_held cX3_held 1 (some .int) 1 21 0 0 [vi p0] wl0 L0 Sc Sm (some (vi r)) wl0 L0 Sc Sm := by
  refine Ct.of RX3 false (by decide) rfl (fun h => by cases h) (Nat.le_of_ble_eq_true rfl) (fun J hJ hR => ?_)
  rw [fX3_held] at hF
  show J 0 [some (vi p0)] [] wl0 L0 0 0 Sc Sm
  refine hJ.iconst (pc := 0) 0 dX3_held_0 ic_0 ?_
  refine hJ.sipush (pc := 1) 999 dX3_held_1 sc_999 ?_
  refine hJ.iload_n (pc := 4) dX3_held_4 rfl ?_
  refine hJ.mmin (pc := 5) dX3_held_5 mw_X3_54 ⟨Nat.le_of_ble_eq_true rfl, Nat.le_of_ble_eq_true rfl, Nat.zero_le _, Nat.zero_le _⟩ ?_
  refine hJ.mmax (pc := 8) dX3_held_8 mw_X3_60 ⟨Nat.le_of_ble_eq_true rfl, Nat.le_of_ble_eq_true rfl, Nat.zero_le _, Nat.zero_le _⟩ ?_
  cases hF
  exact hR.i (pc := 11) dX3_held_11
set_option maxRecDepth 100000 in
set_option maxHeartbeats 4000000 in
theorem ctX3_joined (p0 : Int32) (p1 : Int32) (p2 : Int32) (Sc Sm : Mem) (r : Int32) (hF : fX3_joined p0 p1 p2 = r) : Ct yX3_joined cX3_joined 3 (some .int) 0 0 0 0 [vi p0, vi p1, vi p2] wl0 L0 Sc Sm (some (vi r)) wl0 L0 Sc Sm := by
  refine Ct.of RX3 false (by decide) rfl (fun h => by cases h) (Nat.le_of_ble_eq_true rfl) (fun J hJ hR => ?_)
  rw [fX3_joined] at hF
  show J 0 [some (vi p0), some (vi p1), some (vi p2)] [] wl0 L0 0 0 Sc Sm
  refine hJ.iload_n (pc := 0) dX3_joined_0 rfl ?_
  by_cases h1 : p0 = 6
  · rw [if_pos h1] at hF
    refine hJ.tswIn (pc := 1) (off := (156)) 157 dX3_joined_1 (by rw [h1]; decide) (by rw [h1]; decide) (by rw [h1]; decide) (by decide) ?_
    refine hJ.iload_n (pc := 157) dX3_joined_157 rfl ?_
    refine hJ.iload_n (pc := 158) dX3_joined_158 rfl ?_
    refine hJ.iand (pc := 159) dX3_joined_159 ?_
    cases hF
    exact hR.i (pc := 160) dX3_joined_160
  · rw [if_neg h1] at hF
    by_cases h2 : p0 = 18
    · rw [if_pos h2] at hF
      refine hJ.tswIn (pc := 1) (off := (99)) 100 dX3_joined_1 (by rw [h2]; decide) (by rw [h2]; decide) (by rw [h2]; decide) (by decide) ?_
      refine hJ.iload_n (pc := 100) dX3_joined_100 rfl ?_
      refine hJ.iload_n (pc := 101) dX3_joined_101 rfl ?_
      refine hJ.iadd (pc := 102) dX3_joined_102 ?_
      cases hF
      exact hR.i (pc := 103) dX3_joined_103
    · rw [if_neg h2] at hF
      by_cases h3 : p0 = 19
      · rw [if_pos h3] at hF
        refine hJ.tswIn (pc := 1) (off := (103)) 104 dX3_joined_1 (by rw [h3]; decide) (by rw [h3]; decide) (by rw [h3]; decide) (by decide) ?_
        refine hJ.iload_n (pc := 104) dX3_joined_104 rfl ?_
        refine hJ.iload_n (pc := 105) dX3_joined_105 rfl ?_
        refine hJ.isub (pc := 106) dX3_joined_106 ?_
        cases hF
        exact hR.i (pc := 107) dX3_joined_107
      · rw [if_neg h3] at hF
        by_cases h4 : p0 = 20
        · rw [if_pos h4] at hF
          refine hJ.tswIn (pc := 1) (off := (107)) 108 dX3_joined_1 (by rw [h4]; decide) (by rw [h4]; decide) (by rw [h4]; decide) (by decide) ?_
          refine hJ.iload_n (pc := 108) dX3_joined_108 rfl ?_
          refine hJ.iload_n (pc := 109) dX3_joined_109 rfl ?_
          refine hJ.imul (pc := 110) dX3_joined_110 ?_
          cases hF
          exact hR.i (pc := 111) dX3_joined_111
        · rw [if_neg h4] at hF
          by_cases h5 : p0 = 21
          · rw [if_pos h5] at hF
            refine hJ.tswIn (pc := 1) (off := (111)) 112 dX3_joined_1 (by rw [h5]; decide) (by rw [h5]; decide) (by rw [h5]; decide) (by decide) ?_
            refine hJ.iload_n (pc := 112) dX3_joined_112 rfl ?_
            refine hJ.if_ne (pc := 113) 120 dX3_joined_113 (by decide) (fun h6 => ?_) (fun h6 => ?_)
            · rw [if_neg h6] at hF
              refine hJ.iload_n (pc := 120) dX3_joined_120 rfl ?_
              refine hJ.iload_n (pc := 121) dX3_joined_121 rfl ?_
              refine hJ.idiv (pc := 122) dX3_joined_122 h6 ?_
              cases hF
              exact hR.i (pc := 123) dX3_joined_123
            · rw [if_pos h6] at hF
              refine hJ.iconst (pc := 116) 0 dX3_joined_116 ic_0 ?_
              refine hJ.goto (pc := 117) 123 dX3_joined_117 (by decide) ?_
              cases hF
              exact hR.i (pc := 123) dX3_joined_123
          · rw [if_neg h5] at hF
            by_cases h7 : p0 = 24
            · rw [if_pos h7] at hF
              refine hJ.tswIn (pc := 1) (off := (123)) 124 dX3_joined_1 (by rw [h7]; decide) (by rw [h7]; decide) (by rw [h7]; decide) (by decide) ?_
              refine hJ.iload_n (pc := 124) dX3_joined_124 rfl ?_
              refine hJ.iload_n (pc := 125) dX3_joined_125 rfl ?_
              refine hJ.icmp_ge (pc := 126) 133 dX3_joined_126 (by decide) (fun h8 => ?_) (fun h8 => ?_)
              · rw [if_pos h8] at hF
                refine hJ.iconst (pc := 133) 0 dX3_joined_133 ic_0 ?_
                cases hF
                exact hR.i (pc := 134) dX3_joined_134
              · rw [if_neg h8] at hF
                refine hJ.iconst (pc := 129) 1 dX3_joined_129 ic_1 ?_
                refine hJ.goto (pc := 130) 134 dX3_joined_130 (by decide) ?_
                cases hF
                exact hR.i (pc := 134) dX3_joined_134
            · rw [if_neg h7] at hF
              by_cases h9 : p0 = 25
              · rw [if_pos h9] at hF
                refine hJ.tswIn (pc := 1) (off := (134)) 135 dX3_joined_1 (by rw [h9]; decide) (by rw [h9]; decide) (by rw [h9]; decide) (by decide) ?_
                refine hJ.iload_n (pc := 135) dX3_joined_135 rfl ?_
                refine hJ.iload_n (pc := 136) dX3_joined_136 rfl ?_
                refine hJ.icmp_ne (pc := 137) 144 dX3_joined_137 (by decide) (fun h10 => ?_) (fun h10 => ?_)
                · rw [if_neg h10] at hF
                  refine hJ.iconst (pc := 144) 0 dX3_joined_144 ic_0 ?_
                  cases hF
                  exact hR.i (pc := 145) dX3_joined_145
                · rw [if_pos h10] at hF
                  refine hJ.iconst (pc := 140) 1 dX3_joined_140 ic_1 ?_
                  refine hJ.goto (pc := 141) 145 dX3_joined_141 (by decide) ?_
                  cases hF
                  exact hR.i (pc := 145) dX3_joined_145
              · rw [if_neg h9] at hF
                by_cases h11 : p0 = 26
                · rw [if_pos h11] at hF
                  refine hJ.tswIn (pc := 1) (off := (145)) 146 dX3_joined_1 (by rw [h11]; decide) (by rw [h11]; decide) (by rw [h11]; decide) (by decide) ?_
                  refine hJ.iload_n (pc := 146) dX3_joined_146 rfl ?_
                  refine hJ.iload_n (pc := 147) dX3_joined_147 rfl ?_
                  refine hJ.icmp_le (pc := 148) 155 dX3_joined_148 (by decide) (fun h12 => ?_) (fun h12 => ?_)
                  · rw [if_pos h12] at hF
                    refine hJ.iconst (pc := 155) 0 dX3_joined_155 ic_0 ?_
                    cases hF
                    exact hR.i (pc := 156) dX3_joined_156
                  · rw [if_neg h12] at hF
                    refine hJ.iconst (pc := 151) 1 dX3_joined_151 ic_1 ?_
                    refine hJ.goto (pc := 152) 156 dX3_joined_152 (by decide) ?_
                    cases hF
                    exact hR.i (pc := 156) dX3_joined_156
                · rw [if_neg h11] at hF
                  refine hJ.tswD (pc := 1) 161 [6, 18, 19, 20, 21, 24, 25, 26] dX3_joined_1 (List.forall_mem_cons.mpr ⟨lv_neT (k := 6) (a := (6)) h1 (by decide), List.forall_mem_cons.mpr ⟨lv_neT (k := 18) (a := (18)) h2 (by decide), List.forall_mem_cons.mpr ⟨lv_neT (k := 19) (a := (19)) h3 (by decide), List.forall_mem_cons.mpr ⟨lv_neT (k := 20) (a := (20)) h4 (by decide), List.forall_mem_cons.mpr ⟨lv_neT (k := 21) (a := (21)) h5 (by decide), List.forall_mem_cons.mpr ⟨lv_neT (k := 24) (a := (24)) h7 (by decide), List.forall_mem_cons.mpr ⟨lv_neT (k := 25) (a := (25)) h9 (by decide), List.forall_mem_cons.mpr ⟨lv_neT (k := 26) (a := (26)) h11 (by decide), List.forall_mem_nil _⟩⟩⟩⟩⟩⟩⟩⟩) (by decide) (by decide) ?_
                  refine hJ.iload_n (pc := 161) dX3_joined_161 rfl ?_
                  refine hJ.iload_n (pc := 162) dX3_joined_162 rfl ?_
                  refine hJ.ior (pc := 163) dX3_joined_163 ?_
                  cases hF
                  exact hR.i (pc := 164) dX3_joined_164
set_option maxRecDepth 100000 in
set_option maxHeartbeats 4000000 in
theorem ctX3_operand (p0 : Int32) (S Sm : Mem) (r : Int32) (hF : fX3_operand p0 S = some r) : Ct yX3_operand cX3_operand 3 (some .int) 0 0 0 0 [vi p0, vr 15 0] wl0 L0 S Sm (some (vi r)) wl0 L0 S Sm := by
  refine Ct.of RX3 false (by decide) rfl (fun h => by cases h) (Nat.le_of_ble_eq_true rfl) (fun J hJ hR => ?_)
  rw [fX3_operand] at hF
  show J 0 [some (vi p0), some (vr 15 0), none] [] wl0 L0 0 0 S Sm
  refine hJ.iload_n (pc := 0) dX3_operand_0 rfl ?_
  refine hJ.sipush (pc := 1) 10000 dX3_operand_1 sc_10000 ?_
  refine hJ.isub (pc := 4) dX3_operand_4 ?_
  refine hJ.istore_n (pc := 5) [some (vi p0), some (vr 15 0), some (vi (p0 - 10000))] dX3_operand_5 (by decide) rfl ?_
  refine hJ.iload_n (pc := 6) dX3_operand_6 rfl ?_
  refine hJ.if_ge (pc := 7) 12 dX3_operand_7 (by decide) (fun h1 => ?_) (fun h1 => ?_)
  · rw [if_pos h1] at hF
    refine hJ.iload_n (pc := 12) dX3_operand_12 rfl ?_
    refine hJ.aload_n (pc := 13) dX3_operand_13 rfl ?_
    refine hJ.alen (pc := 14) (n := 9) (v := 9) dX3_operand_14 rfl rfl (by decide) ?_
    refine hJ.icmp_ge (pc := 15) 24 dX3_operand_15 (by decide) (fun h2 => ?_) (fun h2 => ?_)
    · rw [if_pos h2] at hF
      refine hJ.iconst (pc := 24) 0 dX3_operand_24 ic_0 ?_
      cases hF
      exact hR.i (pc := 25) dX3_operand_25
    · rw [if_neg h2] at hF
      refine hJ.aload_n (pc := 18) dX3_operand_18 rfl ?_
      refine hJ.iload_n (pc := 19) dX3_operand_19 rfl ?_
      obtain ⟨j3, h4, hF⟩ := bn_some hF
      refine hJ.liald (pc := 20) dX3_operand_20 al_15 h4 ?_
      refine hJ.goto (pc := 21) 25 dX3_operand_21 (by decide) ?_
      cases hF
      exact hR.i (pc := 25) dX3_operand_25
  · rw [if_neg h1] at hF
    refine hJ.iload_n (pc := 10) dX3_operand_10 rfl ?_
    cases hF
    exact hR.i (pc := 11) dX3_operand_11
set_option maxRecDepth 100000 in
set_option maxHeartbeats 4000000 in
theorem wX3_work_6 {J : Nat → Lv → List AV → Obs → Lay → Nat → Nat → Mem → Mem → Prop} (hJ : Cl RX3 cX3_work 7 1 22 0 0 none false J) {r : Int32} {Sm S' : Mem} (hR : Rk cX3_work (some .int) (some (vi r)) wl0 L0 0 0 S' Sm J) : ∀ (n : Nat) (x2 : Int32) (x4 : Int32) (x5 : Int32) (S : Mem), fX3_work_6 n x2 x4 x5 S = some (r, S') → J 6 [some (vr 3 0), none, some (vi x2), some (vr 15 0), some (vi x4), some (vi x5), none] [] wl0 L0 0 0 S Sm := by
  intro n
  induction n with
  | zero =>
    intro x2 x4 x5 S hF
    rw [fX3_work_6] at hF
    cases hF
  | succ n ih =>
    intro x2 x4 x5 S hF
    rw [fX3_work_6] at hF
    refine hJ.iload (pc := 6) dX3_work_6 rfl ?_
    refine hJ.iload_n (pc := 8) dX3_work_8 rfl ?_
    refine hJ.icmp_ge (pc := 9) 139 dX3_work_9 (by decide) (fun h1 => ?_) (fun h1 => ?_)
    · rw [if_pos h1] at hF
      refine hJ.iload (pc := 139) dX3_work_139 rfl ?_
      refine hJ.if_le (pc := 141) 153 dX3_work_141 (by decide) (fun h2 => ?_) (fun h2 => ?_)
      · rw [if_pos h2] at hF
        refine hJ.iconst (pc := 153) 0 dX3_work_153 ic_0 ?_
        cases hF
        exact hR.i (pc := 154) dX3_work_154
      · rw [if_neg h2] at hF
        refine hJ.aload_n (pc := 144) dX3_work_144 rfl ?_
        refine hJ.gR (pc := 145) (k' := 25) (i' := 0) dX3_work_145 fr_X3_26 rfl ?_
        refine hJ.iconst (pc := 148) 0 dX3_work_148 ic_0 ?_
        refine hJ.liald (pc := 149) dX3_work_149 al_25 (show ix 0 40 = some 0 by decide) ?_
        refine hJ.goto (pc := 150) 154 dX3_work_150 (by decide) ?_
        cases hF
        exact hR.i (pc := 154) dX3_work_154
    · rw [if_neg h1] at hF
      refine hJ.aload_n (pc := 12) dX3_work_12 rfl ?_
      refine hJ.gR (pc := 13) (k' := 21) (i' := 0) dX3_work_13 fr_X3_11 rfl ?_
      refine hJ.iload (pc := 16) dX3_work_16 rfl ?_
      obtain ⟨j3, h4, hF⟩ := bn_some hF
      refine hJ.liald (pc := 18) dX3_work_18 al_21 h4 ?_
      refine hJ.istore (pc := 19) [some (vr 3 0), none, some (vi x2), some (vr 15 0), some (vi x4), some (vi x5), some (vi (S 21 0 j3))] dX3_work_19 (by decide) rfl ?_
      refine hJ.iload (pc := 21) dX3_work_21 rfl ?_
      refine hJ.if_lt (pc := 23) 52 dX3_work_23 (by decide) (fun h5 => ?_) (fun h5 => ?_)
      · rw [if_pos h5] at hF
        refine hJ.iload (pc := 52) dX3_work_52 rfl ?_
        refine hJ.bipush (pc := 54) (-7) dX3_work_54 bc_m7 ?_
        refine hJ.icmp_ne (pc := 56) 88 dX3_work_56 (by decide) (fun h6 => ?_) (fun h6 => ?_)
        · rw [if_neg h6] at hF
          refine hJ.iload (pc := 88) dX3_work_88 rfl ?_
          refine hJ.if_ge (pc := 90) 133 dX3_work_90 (by decide) (fun h0 => absurd h0 (Int32.not_le.mpr h5)) (fun _ => ?_)
          refine hJ.iload (pc := 93) dX3_work_93 rfl ?_
          refine hJ.iconst (pc := 95) 2 dX3_work_95 ic_2 ?_
          refine hJ.icmp_lt (pc := 96) 133 dX3_work_96 (by decide) (fun h15 => ?_) (fun h15 => ?_)
          · rw [if_pos h15] at hF
            refine hJ.iinc (pc := 133) (x5 + 1) [some (vr 3 0), none, some (vi x2), some (vr 15 0), some (vi x4), some (vi (x5 + 1)), some (vi (S 21 0 j3))] dX3_work_133 (by decide) rfl (congrArg (fun z => x5 + z) ic_1) rfl ?_
            refine hJ.goto (pc := 136) 6 dX3_work_136 (by decide) ?_
            refine hJ.weak [some (vr 3 0), none, some (vi x2), some (vr 15 0), some (vi x4), some (vi (x5 + 1)), none] ⟨rfl, rfl, rfl, rfl, rfl, trivial⟩ ?_
            exact ih x2 x4 (x5 + 1) S hF
          · rw [if_neg h15] at hF
            refine hJ.iinc (pc := 99) (x4 + (-1)) [some (vr 3 0), none, some (vi x2), some (vr 15 0), some (vi (x4 + (-1))), some (vi x5), some (vi (S 21 0 j3))] dX3_work_99 (by decide) rfl (congrArg (fun z => x4 + z) ic_m1) rfl ?_
            refine hJ.aload_n (pc := 102) dX3_work_102 rfl ?_
            refine hJ.gR (pc := 103) (k' := 25) (i' := 0) dX3_work_103 fr_X3_26 rfl ?_
            refine hJ.iload (pc := 106) dX3_work_106 rfl ?_
            refine hJ.iconst (pc := 108) 1 dX3_work_108 ic_1 ?_
            refine hJ.isub (pc := 109) dX3_work_109 ?_
            refine hJ.iload (pc := 110) dX3_work_110 rfl ?_
            refine hJ.ineg (pc := 112) dX3_work_112 ?_
            refine hJ.aload_n (pc := 113) dX3_work_113 rfl ?_
            refine hJ.gR (pc := 114) (k' := 25) (i' := 0) dX3_work_114 fr_X3_26 rfl ?_
            refine hJ.iload (pc := 117) dX3_work_117 rfl ?_
            refine hJ.iconst (pc := 119) 1 dX3_work_119 ic_1 ?_
            refine hJ.isub (pc := 120) dX3_work_120 ?_
            obtain ⟨j16, h17, hF⟩ := bn_some hF
            refine hJ.liald (pc := 121) dX3_work_121 al_25 h17 ?_
            refine hJ.aload_n (pc := 122) dX3_work_122 rfl ?_
            refine hJ.gR (pc := 123) (k' := 25) (i' := 0) dX3_work_123 fr_X3_26 rfl ?_
            refine hJ.iload (pc := 126) dX3_work_126 rfl ?_
            obtain ⟨j18, h19, hF⟩ := bn_some hF
            refine hJ.liald (pc := 128) dX3_work_128 al_25 h19 ?_
            refine hJ.cS (pc := 129) [vi (-(S 21 0 j3)), vi (S 25 0 j16), vi (S 25 0 j18)] [vi ((x4 + (-1)) - 1), vr 25 0] [vi (fX3_joined (-(S 21 0 j3)) (S 25 0 j16) (S 25 0 j18)), vi ((x4 + (-1)) - 1), vr 25 0] dX3_work_129 lk_X3_67 (ctX3_joined (-(S 21 0 j3)) (S 25 0 j16) (S 25 0 j18) _ _ (fX3_joined (-(S 21 0 j3)) (S 25 0 j16) (S 25 0 j18)) rfl) rfl rfl rfl rfl ?_
            refine hJ.siast (pc := 132) dX3_work_132 al_25 h17 ?_
            refine hJ.iinc (pc := 133) (x5 + 1) [some (vr 3 0), none, some (vi x2), some (vr 15 0), some (vi (x4 + (-1))), some (vi (x5 + 1)), some (vi (S 21 0 j3))] dX3_work_133 (by decide) rfl (congrArg (fun z => x5 + z) ic_1) rfl ?_
            refine hJ.goto (pc := 136) 6 dX3_work_136 (by decide) ?_
            refine hJ.weak [some (vr 3 0), none, some (vi x2), some (vr 15 0), some (vi (x4 + (-1))), some (vi (x5 + 1)), none] ⟨rfl, rfl, rfl, rfl, rfl, trivial⟩ ?_
            exact ih x2 (x4 + (-1)) (x5 + 1) (up S 25 0 j16 (fX3_joined (-(S 21 0 j3)) (S 25 0 j16) (S 25 0 j18))) hF
        · rw [if_pos h6] at hF
          refine hJ.iload (pc := 59) dX3_work_59 rfl ?_
          refine hJ.iconst (pc := 61) 1 dX3_work_61 ic_1 ?_
          refine hJ.icmp_lt (pc := 62) 88 dX3_work_62 (by decide) (fun h7 => ?_) (fun h7 => ?_)
          · rw [if_pos h7] at hF
            refine hJ.iload (pc := 88) dX3_work_88 rfl ?_
            refine hJ.if_ge (pc := 90) 133 dX3_work_90 (by decide) (fun h0 => absurd h0 (Int32.not_le.mpr h5)) (fun _ => ?_)
            refine hJ.iload (pc := 93) dX3_work_93 rfl ?_
            refine hJ.iconst (pc := 95) 2 dX3_work_95 ic_2 ?_
            refine hJ.icmp_lt (pc := 96) 133 dX3_work_96 (by decide) (fun h8 => ?_) (fun h8 => ?_)
            · rw [if_pos h8] at hF
              refine hJ.iinc (pc := 133) (x5 + 1) [some (vr 3 0), none, some (vi x2), some (vr 15 0), some (vi x4), some (vi (x5 + 1)), some (vi (S 21 0 j3))] dX3_work_133 (by decide) rfl (congrArg (fun z => x5 + z) ic_1) rfl ?_
              refine hJ.goto (pc := 136) 6 dX3_work_136 (by decide) ?_
              refine hJ.weak [some (vr 3 0), none, some (vi x2), some (vr 15 0), some (vi x4), some (vi (x5 + 1)), none] ⟨rfl, rfl, rfl, rfl, rfl, trivial⟩ ?_
              exact ih x2 x4 (x5 + 1) S hF
            · rw [if_neg h8] at hF
              refine hJ.iinc (pc := 99) (x4 + (-1)) [some (vr 3 0), none, some (vi x2), some (vr 15 0), some (vi (x4 + (-1))), some (vi x5), some (vi (S 21 0 j3))] dX3_work_99 (by decide) rfl (congrArg (fun z => x4 + z) ic_m1) rfl ?_
              refine hJ.aload_n (pc := 102) dX3_work_102 rfl ?_
              refine hJ.gR (pc := 103) (k' := 25) (i' := 0) dX3_work_103 fr_X3_26 rfl ?_
              refine hJ.iload (pc := 106) dX3_work_106 rfl ?_
              refine hJ.iconst (pc := 108) 1 dX3_work_108 ic_1 ?_
              refine hJ.isub (pc := 109) dX3_work_109 ?_
              refine hJ.iload (pc := 110) dX3_work_110 rfl ?_
              refine hJ.ineg (pc := 112) dX3_work_112 ?_
              refine hJ.aload_n (pc := 113) dX3_work_113 rfl ?_
              refine hJ.gR (pc := 114) (k' := 25) (i' := 0) dX3_work_114 fr_X3_26 rfl ?_
              refine hJ.iload (pc := 117) dX3_work_117 rfl ?_
              refine hJ.iconst (pc := 119) 1 dX3_work_119 ic_1 ?_
              refine hJ.isub (pc := 120) dX3_work_120 ?_
              obtain ⟨j9, h10, hF⟩ := bn_some hF
              refine hJ.liald (pc := 121) dX3_work_121 al_25 h10 ?_
              refine hJ.aload_n (pc := 122) dX3_work_122 rfl ?_
              refine hJ.gR (pc := 123) (k' := 25) (i' := 0) dX3_work_123 fr_X3_26 rfl ?_
              refine hJ.iload (pc := 126) dX3_work_126 rfl ?_
              obtain ⟨j11, h12, hF⟩ := bn_some hF
              refine hJ.liald (pc := 128) dX3_work_128 al_25 h12 ?_
              refine hJ.cS (pc := 129) [vi (-(S 21 0 j3)), vi (S 25 0 j9), vi (S 25 0 j11)] [vi ((x4 + (-1)) - 1), vr 25 0] [vi (fX3_joined (-(S 21 0 j3)) (S 25 0 j9) (S 25 0 j11)), vi ((x4 + (-1)) - 1), vr 25 0] dX3_work_129 lk_X3_67 (ctX3_joined (-(S 21 0 j3)) (S 25 0 j9) (S 25 0 j11) _ _ (fX3_joined (-(S 21 0 j3)) (S 25 0 j9) (S 25 0 j11)) rfl) rfl rfl rfl rfl ?_
              refine hJ.siast (pc := 132) dX3_work_132 al_25 h10 ?_
              refine hJ.iinc (pc := 133) (x5 + 1) [some (vr 3 0), none, some (vi x2), some (vr 15 0), some (vi (x4 + (-1))), some (vi (x5 + 1)), some (vi (S 21 0 j3))] dX3_work_133 (by decide) rfl (congrArg (fun z => x5 + z) ic_1) rfl ?_
              refine hJ.goto (pc := 136) 6 dX3_work_136 (by decide) ?_
              refine hJ.weak [some (vr 3 0), none, some (vi x2), some (vr 15 0), some (vi (x4 + (-1))), some (vi (x5 + 1)), none] ⟨rfl, rfl, rfl, rfl, rfl, trivial⟩ ?_
              exact ih x2 (x4 + (-1)) (x5 + 1) (up S 25 0 j9 (fX3_joined (-(S 21 0 j3)) (S 25 0 j9) (S 25 0 j11))) hF
          · rw [if_neg h7] at hF
            refine hJ.aload_n (pc := 65) dX3_work_65 rfl ?_
            refine hJ.gR (pc := 66) (k' := 25) (i' := 0) dX3_work_66 fr_X3_26 rfl ?_
            refine hJ.iload (pc := 69) dX3_work_69 rfl ?_
            refine hJ.iconst (pc := 71) 1 dX3_work_71 ic_1 ?_
            refine hJ.isub (pc := 72) dX3_work_72 ?_
            refine hJ.iconst (pc := 73) 1 dX3_work_73 ic_1 ?_
            refine hJ.aload_n (pc := 74) dX3_work_74 rfl ?_
            refine hJ.gR (pc := 75) (k' := 25) (i' := 0) dX3_work_75 fr_X3_26 rfl ?_
            refine hJ.iload (pc := 78) dX3_work_78 rfl ?_
            refine hJ.iconst (pc := 80) 1 dX3_work_80 ic_1 ?_
            refine hJ.isub (pc := 81) dX3_work_81 ?_
            obtain ⟨j13, h14, hF⟩ := bn_some hF
            refine hJ.liald (pc := 82) dX3_work_82 al_25 h14 ?_
            refine hJ.isub (pc := 83) dX3_work_83 ?_
            refine hJ.siast (pc := 84) dX3_work_84 al_25 h14 ?_
            refine hJ.goto (pc := 85) 133 dX3_work_85 (by decide) ?_
            refine hJ.iinc (pc := 133) (x5 + 1) [some (vr 3 0), none, some (vi x2), some (vr 15 0), some (vi x4), some (vi (x5 + 1)), some (vi (S 21 0 j3))] dX3_work_133 (by decide) rfl (congrArg (fun z => x5 + z) ic_1) rfl ?_
            refine hJ.goto (pc := 136) 6 dX3_work_136 (by decide) ?_
            refine hJ.weak [some (vr 3 0), none, some (vi x2), some (vr 15 0), some (vi x4), some (vi (x5 + 1)), none] ⟨rfl, rfl, rfl, rfl, rfl, trivial⟩ ?_
            exact ih x2 x4 (x5 + 1) (up S 25 0 j13 (1 - (S 25 0 j13))) hF
      · rw [if_neg h5] at hF
        refine hJ.iload (pc := 26) dX3_work_26 rfl ?_
        refine hJ.bipush (pc := 28) 40 dX3_work_28 bc_40 ?_
        refine hJ.icmp_ge (pc := 30) 52 dX3_work_30 (by decide) (fun h20 => ?_) (fun h20 => ?_)
        · rw [if_pos h20] at hF
          refine hJ.iload (pc := 52) dX3_work_52 rfl ?_
          refine hJ.bipush (pc := 54) (-7) dX3_work_54 bc_m7 ?_
          refine hJ.icmp_ne (pc := 56) 88 dX3_work_56 (by decide) (fun h21 => ?_) (fun h21 => ?_)
          · rw [if_neg h21] at hF
            refine hJ.iload (pc := 88) dX3_work_88 rfl ?_
            refine hJ.if_ge (pc := 90) 133 dX3_work_90 (by decide) (fun _ => ?_) (fun h0 => absurd (Int32.not_lt.mp h5) h0)
            refine hJ.iinc (pc := 133) (x5 + 1) [some (vr 3 0), none, some (vi x2), some (vr 15 0), some (vi x4), some (vi (x5 + 1)), some (vi (S 21 0 j3))] dX3_work_133 (by decide) rfl (congrArg (fun z => x5 + z) ic_1) rfl ?_
            refine hJ.goto (pc := 136) 6 dX3_work_136 (by decide) ?_
            refine hJ.weak [some (vr 3 0), none, some (vi x2), some (vr 15 0), some (vi x4), some (vi (x5 + 1)), none] ⟨rfl, rfl, rfl, rfl, rfl, trivial⟩ ?_
            exact ih x2 x4 (x5 + 1) S hF
          · rw [if_pos h21] at hF
            refine hJ.iload (pc := 59) dX3_work_59 rfl ?_
            refine hJ.iconst (pc := 61) 1 dX3_work_61 ic_1 ?_
            refine hJ.icmp_lt (pc := 62) 88 dX3_work_62 (by decide) (fun h22 => ?_) (fun h22 => ?_)
            · rw [if_pos h22] at hF
              refine hJ.iload (pc := 88) dX3_work_88 rfl ?_
              refine hJ.if_ge (pc := 90) 133 dX3_work_90 (by decide) (fun _ => ?_) (fun h0 => absurd (Int32.not_lt.mp h5) h0)
              refine hJ.iinc (pc := 133) (x5 + 1) [some (vr 3 0), none, some (vi x2), some (vr 15 0), some (vi x4), some (vi (x5 + 1)), some (vi (S 21 0 j3))] dX3_work_133 (by decide) rfl (congrArg (fun z => x5 + z) ic_1) rfl ?_
              refine hJ.goto (pc := 136) 6 dX3_work_136 (by decide) ?_
              refine hJ.weak [some (vr 3 0), none, some (vi x2), some (vr 15 0), some (vi x4), some (vi (x5 + 1)), none] ⟨rfl, rfl, rfl, rfl, rfl, trivial⟩ ?_
              exact ih x2 x4 (x5 + 1) S hF
            · rw [if_neg h22] at hF
              refine hJ.aload_n (pc := 65) dX3_work_65 rfl ?_
              refine hJ.gR (pc := 66) (k' := 25) (i' := 0) dX3_work_66 fr_X3_26 rfl ?_
              refine hJ.iload (pc := 69) dX3_work_69 rfl ?_
              refine hJ.iconst (pc := 71) 1 dX3_work_71 ic_1 ?_
              refine hJ.isub (pc := 72) dX3_work_72 ?_
              refine hJ.iconst (pc := 73) 1 dX3_work_73 ic_1 ?_
              refine hJ.aload_n (pc := 74) dX3_work_74 rfl ?_
              refine hJ.gR (pc := 75) (k' := 25) (i' := 0) dX3_work_75 fr_X3_26 rfl ?_
              refine hJ.iload (pc := 78) dX3_work_78 rfl ?_
              refine hJ.iconst (pc := 80) 1 dX3_work_80 ic_1 ?_
              refine hJ.isub (pc := 81) dX3_work_81 ?_
              obtain ⟨j23, h24, hF⟩ := bn_some hF
              refine hJ.liald (pc := 82) dX3_work_82 al_25 h24 ?_
              refine hJ.isub (pc := 83) dX3_work_83 ?_
              refine hJ.siast (pc := 84) dX3_work_84 al_25 h24 ?_
              refine hJ.goto (pc := 85) 133 dX3_work_85 (by decide) ?_
              refine hJ.iinc (pc := 133) (x5 + 1) [some (vr 3 0), none, some (vi x2), some (vr 15 0), some (vi x4), some (vi (x5 + 1)), some (vi (S 21 0 j3))] dX3_work_133 (by decide) rfl (congrArg (fun z => x5 + z) ic_1) rfl ?_
              refine hJ.goto (pc := 136) 6 dX3_work_136 (by decide) ?_
              refine hJ.weak [some (vr 3 0), none, some (vi x2), some (vr 15 0), some (vi x4), some (vi (x5 + 1)), none] ⟨rfl, rfl, rfl, rfl, rfl, trivial⟩ ?_
              exact ih x2 x4 (x5 + 1) (up S 25 0 j23 (1 - (S 25 0 j23))) hF
        · rw [if_neg h20] at hF
          refine hJ.aload_n (pc := 33) dX3_work_33 rfl ?_
          refine hJ.gR (pc := 34) (k' := 25) (i' := 0) dX3_work_34 fr_X3_26 rfl ?_
          refine hJ.iload (pc := 37) dX3_work_37 rfl ?_
          refine hJ.iload (pc := 39) dX3_work_39 rfl ?_
          refine hJ.aload_n (pc := 41) dX3_work_41 rfl ?_
          obtain ⟨r26, h25, hF⟩ := bn_some hF
          refine hJ.cS (pc := 42) [vi (S 21 0 j3), vr 15 0] [vi x4, vr 25 0] [vi r26, vi x4, vr 25 0] dX3_work_42 lk_X3_63 (ctX3_operand (S 21 0 j3) _ _ _ h25) rfl rfl rfl rfl ?_
          obtain ⟨j27, h28, hF⟩ := bn_some hF
          refine hJ.siast (pc := 45) dX3_work_45 al_25 h28 ?_
          refine hJ.iinc (pc := 46) (x4 + 1) [some (vr 3 0), none, some (vi x2), some (vr 15 0), some (vi (x4 + 1)), some (vi x5), some (vi (S 21 0 j3))] dX3_work_46 (by decide) rfl (congrArg (fun z => x4 + z) ic_1) rfl ?_
          refine hJ.goto (pc := 49) 133 dX3_work_49 (by decide) ?_
          refine hJ.iinc (pc := 133) (x5 + 1) [some (vr 3 0), none, some (vi x2), some (vr 15 0), some (vi (x4 + 1)), some (vi (x5 + 1)), some (vi (S 21 0 j3))] dX3_work_133 (by decide) rfl (congrArg (fun z => x5 + z) ic_1) rfl ?_
          refine hJ.goto (pc := 136) 6 dX3_work_136 (by decide) ?_
          refine hJ.weak [some (vr 3 0), none, some (vi x2), some (vr 15 0), some (vi (x4 + 1)), some (vi (x5 + 1)), none] ⟨rfl, rfl, rfl, rfl, rfl, trivial⟩ ?_
          exact ih x2 (x4 + 1) (x5 + 1) (up S 25 0 j27 r26) hF
set_option maxRecDepth 100000 in
set_option maxHeartbeats 4000000 in
theorem ctX3_work (p0 : Int32) (p1 : Int32) (S Sm : Mem) (r : Int32) (S' : Mem) (hF : fX3_work p0 p1 S = some (r, S')) : Ct yX3_work cX3_work 7 (some .int) 1 22 0 0 [vr 3 0, vi p0, vi p1, vr 15 0] wl0 L0 S Sm (some (vi r)) wl0 L0 S' Sm := by
  refine Ct.of RX3 false (by decide) rfl (fun h => by cases h) (Nat.le_of_ble_eq_true rfl) (fun J hJ hR => ?_)
  rw [fX3_work] at hF
  show J 0 [some (vr 3 0), some (vi p0), some (vi p1), some (vr 15 0), none, none, none] [] wl0 L0 0 0 S Sm
  refine hJ.iconst (pc := 0) 0 dX3_work_0 ic_0 ?_
  refine hJ.istore (pc := 1) [some (vr 3 0), some (vi p0), some (vi p1), some (vr 15 0), some (vi 0), none, none] dX3_work_1 (by decide) rfl ?_
  refine hJ.iload_n (pc := 3) dX3_work_3 rfl ?_
  refine hJ.istore (pc := 4) [some (vr 3 0), some (vi p0), some (vi p1), some (vr 15 0), some (vi 0), some (vi p0), none] dX3_work_4 (by decide) rfl ?_
  refine hJ.weak [some (vr 3 0), none, some (vi p1), some (vr 15 0), some (vi 0), some (vi p0), none] ⟨rfl, rfl, rfl, rfl, rfl, trivial⟩ ?_
  exact wX3_work_6 hJ hR 5000 p1 0 p0 S hF
set_option maxRecDepth 100000 in
set_option maxHeartbeats 4000000 in
theorem wX3_ageBy_55 {J : Nat → Lv → List AV → Obs → Lay → Nat → Nat → Mem → Mem → Prop} (hJ : Cl RX3 cX3_ageBy 4 2 48 0 0 none false J) {r : Int32} {Sm S' : Mem} (hR : Rk cX3_ageBy (some .int) (some (vi r)) wl0 L0 0 0 S' Sm J) (x2 : Int32) (S : Mem) (hF : fX3_ageBy_55 x2 S = some (r, S')) : J 55 [some (vr 3 0), some (vr 15 0), some (vi x2), none] [] wl0 L0 0 0 S Sm := by
  rw [fX3_ageBy_55] at hF
  refine hJ.aload_n (pc := 55) dX3_ageBy_55 rfl ?_
  refine hJ.aload_n (pc := 56) dX3_ageBy_56 rfl ?_
  refine hJ.gR (pc := 57) (k' := 22) (i' := 0) dX3_ageBy_57 fr_X3_17 rfl ?_
  refine hJ.iload_n (pc := 60) dX3_ageBy_60 rfl ?_
  obtain ⟨j5, h6, hF⟩ := bn_some hF
  refine hJ.liald (pc := 61) dX3_ageBy_61 al_22 h6 ?_
  refine hJ.aload_n (pc := 62) dX3_ageBy_62 rfl ?_
  refine hJ.gR (pc := 63) (k' := 23) (i' := 0) dX3_ageBy_63 fr_X3_20 rfl ?_
  refine hJ.iload_n (pc := 66) dX3_ageBy_66 rfl ?_
  refine hJ.liald (pc := 67) dX3_ageBy_67 al_23 h6 ?_
  refine hJ.aload_n (pc := 68) dX3_ageBy_68 rfl ?_
  obtain ⟨r9, S8, h7, hF⟩ := bd_some hF
  refine hJ.cV (pc := 69) [vi (S 22 0 j5), vi (S 23 0 j5), vr 15 0] [] [vi r9] dX3_ageBy_69 lk_X3_46 (ctX3_work (S 22 0 j5) (S 23 0 j5) _ _ _ _ h7) rfl rfl rfl rfl ?_
  refine hJ.cS (pc := 72) [vi r9] [] [vi (fX3_held r9)] dX3_ageBy_72 lk_X3_50 (ctX3_held r9 _ _ (fX3_held r9) rfl) rfl rfl rfl rfl ?_
  cases hF
  exact hR.i (pc := 75) dX3_ageBy_75
set_option maxRecDepth 100000 in
set_option maxHeartbeats 4000000 in
theorem wX3_ageBy_2 {J : Nat → Lv → List AV → Obs → Lay → Nat → Nat → Mem → Mem → Prop} (hJ : Cl RX3 cX3_ageBy 4 2 48 0 0 none false J) {r : Int32} {Sm S' : Mem} (hR : Rk cX3_ageBy (some .int) (some (vi r)) wl0 L0 0 0 S' Sm J) : ∀ (n : Nat) (x2 : Int32) (S : Mem), fX3_ageBy_2 n x2 S = some (r, S') → J 2 [some (vr 3 0), some (vr 15 0), some (vi x2), none] [] wl0 L0 0 0 S Sm := by
  intro n
  induction n with
  | zero =>
    intro x2 S hF
    rw [fX3_ageBy_2] at hF
    cases hF
  | succ n ih =>
    intro x2 S hF
    rw [fX3_ageBy_2] at hF
    refine hJ.iload_n (pc := 2) dX3_ageBy_2 rfl ?_
    refine hJ.aload_n (pc := 3) dX3_ageBy_3 rfl ?_
    refine hJ.gI (pc := 4) dX3_ageBy_4 fi_X3_33 ?_
    refine hJ.icmp_ge (pc := 7) 82 dX3_ageBy_7 (by decide) (fun h1 => ?_) (fun h1 => ?_)
    · rw [if_pos h1] at hF
      refine hJ.aload_n (pc := 82) dX3_ageBy_82 rfl ?_
      refine hJ.iconst (pc := 83) 0 dX3_ageBy_83 ic_0 ?_
      refine hJ.liald (pc := 84) dX3_ageBy_84 al_15 (show ix 0 9 = some 0 by decide) ?_
      refine hJ.cS (pc := 85) [vi (S 15 0 0)] [] [vi (fX3_held (S 15 0 0))] dX3_ageBy_85 lk_X3_50 (ctX3_held (S 15 0 0) _ _ (fX3_held (S 15 0 0)) rfl) rfl rfl rfl rfl ?_
      cases hF
      exact hR.i (pc := 88) dX3_ageBy_88
    · rw [if_neg h1] at hF
      refine hJ.aload_n (pc := 10) dX3_ageBy_10 rfl ?_
      refine hJ.gR (pc := 11) (k' := 23) (i' := 0) dX3_ageBy_11 fr_X3_20 rfl ?_
      refine hJ.iload_n (pc := 14) dX3_ageBy_14 rfl ?_
      obtain ⟨j2, h3, hF⟩ := bn_some hF
      refine hJ.liald (pc := 15) dX3_ageBy_15 al_23 h3 ?_
      refine hJ.aload_n (pc := 16) dX3_ageBy_16 rfl ?_
      refine hJ.gR (pc := 17) (k' := 24) (i' := 0) dX3_ageBy_17 fr_X3_23 rfl ?_
      refine hJ.iload_n (pc := 20) dX3_ageBy_20 rfl ?_
      refine hJ.liald (pc := 21) dX3_ageBy_21 al_24 h3 ?_
      refine hJ.icmp_ne (pc := 22) 29 dX3_ageBy_22 (by decide) (fun h4 => ?_) (fun h4 => ?_)
      · rw [if_neg h4] at hF
        refine hJ.iconst (pc := 29) 0 dX3_ageBy_29 ic_0 ?_
        refine hJ.istore_n (pc := 30) [some (vr 3 0), some (vr 15 0), some (vi x2), some (vi 0)] dX3_ageBy_30 (by decide) rfl ?_
        refine hJ.iload_n (pc := 31) dX3_ageBy_31 rfl ?_
        refine hJ.if_ne (pc := 32) 55 dX3_ageBy_32 (by decide) (fun h0 => absurd h0 (by decide)) (fun _ => ?_)
        refine hJ.aload_n (pc := 35) dX3_ageBy_35 rfl ?_
        refine hJ.aload_n (pc := 36) dX3_ageBy_36 rfl ?_
        refine hJ.gR (pc := 37) (k' := 23) (i' := 0) dX3_ageBy_37 fr_X3_20 rfl ?_
        refine hJ.iload_n (pc := 40) dX3_ageBy_40 rfl ?_
        refine hJ.liald (pc := 41) dX3_ageBy_41 al_23 h3 ?_
        refine hJ.aload_n (pc := 42) dX3_ageBy_42 rfl ?_
        refine hJ.gR (pc := 43) (k' := 24) (i' := 0) dX3_ageBy_43 fr_X3_23 rfl ?_
        refine hJ.iload_n (pc := 46) dX3_ageBy_46 rfl ?_
        refine hJ.liald (pc := 47) dX3_ageBy_47 al_24 h3 ?_
        refine hJ.aload_n (pc := 48) dX3_ageBy_48 rfl ?_
        obtain ⟨r12, S11, h10, hF⟩ := bd_some hF
        refine hJ.cV (pc := 49) [vi (S 23 0 j2), vi (S 24 0 j2), vr 15 0] [] [vi r12] dX3_ageBy_49 lk_X3_46 (ctX3_work (S 23 0 j2) (S 24 0 j2) _ _ _ _ h10) rfl rfl rfl rfl ?_
        refine hJ.if_eq (pc := 52) 76 dX3_ageBy_52 (by decide) (fun h13 => ?_) (fun h13 => ?_)
        · rw [if_pos h13] at hF
          refine hJ.iinc (pc := 76) (x2 + 1) [some (vr 3 0), some (vr 15 0), some (vi (x2 + 1)), some (vi 0)] dX3_ageBy_76 (by decide) rfl (congrArg (fun z => x2 + z) ic_1) rfl ?_
          refine hJ.goto (pc := 79) 2 dX3_ageBy_79 (by decide) ?_
          refine hJ.weak [some (vr 3 0), some (vr 15 0), some (vi (x2 + 1)), none] ⟨rfl, rfl, rfl, trivial⟩ ?_
          exact ih (x2 + 1) S11 hF
        · rw [if_neg h13] at hF
          refine hJ.weak [some (vr 3 0), some (vr 15 0), some (vi x2), none] ⟨rfl, rfl, rfl, trivial⟩ ?_
          exact wX3_ageBy_55 hJ hR x2 S11 hF
      · rw [if_pos h4] at hF
        refine hJ.iconst (pc := 25) 1 dX3_ageBy_25 ic_1 ?_
        refine hJ.goto (pc := 26) 30 dX3_ageBy_26 (by decide) ?_
        refine hJ.istore_n (pc := 30) [some (vr 3 0), some (vr 15 0), some (vi x2), some (vi 1)] dX3_ageBy_30 (by decide) rfl ?_
        refine hJ.iload_n (pc := 31) dX3_ageBy_31 rfl ?_
        refine hJ.if_ne (pc := 32) 55 dX3_ageBy_32 (by decide) (fun _ => ?_) (fun h0 => absurd h0 (by decide))
        refine hJ.weak [some (vr 3 0), some (vr 15 0), some (vi x2), none] ⟨rfl, rfl, rfl, trivial⟩ ?_
        exact wX3_ageBy_55 hJ hR x2 S hF
set_option maxRecDepth 100000 in
set_option maxHeartbeats 4000000 in
theorem ctX3_ageBy (S Sm : Mem) (r : Int32) (S' : Mem) (hF : fX3_ageBy S = some (r, S')) : Ct yX3_ageBy cX3_ageBy 4 (some .int) 2 48 0 0 [vr 3 0, vr 15 0] wl0 L0 S Sm (some (vi r)) wl0 L0 S' Sm := by
  refine Ct.of RX3 false (by decide) rfl (fun h => by cases h) (Nat.le_of_ble_eq_true rfl) (fun J hJ hR => ?_)
  rw [fX3_ageBy] at hF
  show J 0 [some (vr 3 0), some (vr 15 0), none, none] [] wl0 L0 0 0 S Sm
  refine hJ.iconst (pc := 0) 0 dX3_ageBy_0 ic_0 ?_
  refine hJ.istore_n (pc := 1) [some (vr 3 0), some (vr 15 0), some (vi 0), none] dX3_ageBy_1 (by decide) rfl ?_
  exact wX3_ageBy_2 hJ hR 5000 0 S hF
set_option maxRecDepth 100000 in
set_option maxHeartbeats 4000000 in
theorem ctX6_yearsOn (a0 : Nat) (p0 : Int32) (S Sm : Mem) (r : Int32) (hF : fX6_yearsOn a0 p0 S = r) : Ct yX6_yearsOn cX6_yearsOn 2 (some .int) 1 21 0 0 [vr 6 a0, vi p0] wl0 L0 S Sm (some (vi r)) wl0 L0 S Sm := by
  refine Ct.of RX6 false (by decide) rfl (fun h => by cases h) (Nat.le_of_ble_eq_true rfl) (fun J hJ hR => ?_)
  rw [fX6_yearsOn] at hF
  show J 0 [some (vr 6 a0), some (vi p0)] [] wl0 L0 0 0 S Sm
  refine hJ.iconst (pc := 0) 0 dX6_yearsOn_0 ic_0 ?_
  refine hJ.iload_n (pc := 1) dX6_yearsOn_1 rfl ?_
  refine hJ.aload_n (pc := 2) dX6_yearsOn_2 rfl ?_
  refine hJ.gI (pc := 3) dX6_yearsOn_3 fi_X6_9 ?_
  refine hJ.isub (pc := 6) dX6_yearsOn_6 ?_
  refine hJ.mmax (pc := 7) dX6_yearsOn_7 mw_X6_31 ⟨Nat.le_of_ble_eq_true rfl, Nat.le_of_ble_eq_true rfl, Nat.zero_le _, Nat.zero_le _⟩ ?_
  refine hJ.sipush (pc := 10) 365 dX6_yearsOn_10 sc_365 ?_
  refine hJ.idiv (pc := 13) dX6_yearsOn_13 (by decide) ?_
  refine hJ.bipush (pc := 14) 10 dX6_yearsOn_14 bc_10 ?_
  refine hJ.aload_n (pc := 16) dX6_yearsOn_16 rfl ?_
  refine hJ.gI (pc := 17) dX6_yearsOn_17 fi_X6_18 ?_
  refine hJ.imul (pc := 20) dX6_yearsOn_20 ?_
  refine hJ.iadd (pc := 21) dX6_yearsOn_21 ?_
  cases hF
  exact hR.i (pc := 22) dX6_yearsOn_22
set_option maxRecDepth 100000 in
set_option maxHeartbeats 4000000 in
theorem wX0_ageOf_129 {J : Nat → Lv → List AV → Obs → Lay → Nat → Nat → Mem → Mem → Prop} (hJ : Cl RX0 cX0_ageOf 4 3 71 0 0 none false J) {r : Int32} {Sm S' : Mem} (hR : Rk cX0_ageOf (some .int) (some (vi r)) wl0 L0 0 0 S' Sm J) (c1 : Nat) (y0 : Int32) (y1 : Int32) (S : Mem) (hF : fX0_ageOf_129 c1 y0 y1 S = some (r, S')) : J 129 [some (vr 0 0), some (vr 5 c1), none, none] [vi y0, vi y1, vr 15 0] wl0 L0 0 0 S Sm := by
  rw [fX0_ageOf_129] at hF
  obtain ⟨j8, h9, hF⟩ := bn_some hF
  refine hJ.siast (pc := 129) dX0_ageOf_129 al_15 h9 ?_
  refine hJ.aload_n (pc := 130) dX0_ageOf_130 rfl ?_
  refine hJ.gR (pc := 131) (k' := 15) (i' := 0) dX0_ageOf_131 fr_X0_46 rfl ?_
  refine hJ.bipush (pc := 134) 8 dX0_ageOf_134 bc_8 ?_
  refine hJ.aload_n (pc := 136) dX0_ageOf_136 rfl ?_
  refine hJ.gI (pc := 137) dX0_ageOf_137 fi_X0_105 ?_
  refine hJ.siast (pc := 140) dX0_ageOf_140 al_15 (show ix 8 9 = some 8 by decide) ?_
  refine hJ.aload_n (pc := 141) dX0_ageOf_141 rfl ?_
  refine hJ.gR (pc := 142) (k' := 3) (i' := 0) dX0_ageOf_142 fr_X0_40 rfl ?_
  refine hJ.aload_n (pc := 145) dX0_ageOf_145 rfl ?_
  refine hJ.gR (pc := 146) (k' := 15) (i' := 0) dX0_ageOf_146 fr_X0_46 rfl ?_
  obtain ⟨r12, S11, h10, hF⟩ := bd_some hF
  refine hJ.cV (pc := 149) [vr 15 0] [] [vi r12] dX0_ageOf_149 lk_X0_108 (ctX3_ageBy _ _ _ _ h10) rfl rfl rfl rfl ?_
  cases hF
  exact hR.i (pc := 152) dX0_ageOf_152
set_option maxRecDepth 100000 in
set_option maxHeartbeats 4000000 in
theorem wX0_ageOf_128 {J : Nat → Lv → List AV → Obs → Lay → Nat → Nat → Mem → Mem → Prop} (hJ : Cl RX0 cX0_ageOf 4 3 71 0 0 none false J) {r : Int32} {Sm S' : Mem} (hR : Rk cX0_ageOf (some .int) (some (vi r)) wl0 L0 0 0 S' Sm J) (c1 : Nat) (y0 : Int32) (S : Mem) (hF : fX0_ageOf_128 c1 y0 S = some (r, S')) : J 128 [some (vr 0 0), some (vr 5 c1), none, none] [vi y0, vr 15 0] wl0 L0 0 0 S Sm := by
  rw [fX0_ageOf_128] at hF
  refine hJ.iconst (pc := 128) 0 dX0_ageOf_128 ic_0 ?_
  exact wX0_ageOf_129 hJ hR c1 0 y0 S hF
set_option maxRecDepth 100000 in
set_option maxHeartbeats 4000000 in
theorem wX0_ageOf_105 {J : Nat → Lv → List AV → Obs → Lay → Nat → Nat → Mem → Mem → Prop} (hJ : Cl RX0 cX0_ageOf 4 3 71 0 0 none false J) {r : Int32} {Sm S' : Mem} (hR : Rk cX0_ageOf (some .int) (some (vi r)) wl0 L0 0 0 S' Sm J) (c1 : Nat) (x2 : Int32) (y0 : Int32) (y1 : Int32) (S : Mem) (hF : fX0_ageOf_105 c1 x2 y0 y1 S = some (r, S')) : J 105 [some (vr 0 0), some (vr 5 c1), some (vi x2), some (vn)] [vi y0, vi y1, vr 15 0] wl0 L0 0 0 S Sm := by
  rw [fX0_ageOf_105] at hF
  obtain ⟨j6, h7, hF⟩ := bn_some hF
  refine hJ.siast (pc := 105) dX0_ageOf_105 al_15 h7 ?_
  refine hJ.aload_n (pc := 106) dX0_ageOf_106 rfl ?_
  refine hJ.gR (pc := 107) (k' := 15) (i' := 0) dX0_ageOf_107 fr_X0_46 rfl ?_
  refine hJ.bipush (pc := 110) 7 dX0_ageOf_110 bc_7 ?_
  refine hJ.aload_n (pc := 112) dX0_ageOf_112 rfl ?_
  refine hJ.ifnullY (pc := 113) 128 dX0_ageOf_113 (by decide) ?_
  refine hJ.weak [some (vr 0 0), some (vr 5 c1), none, none] ⟨rfl, rfl, trivial⟩ ?_
  exact wX0_ageOf_128 hJ hR c1 7 (up S 15 0 j6 y0) hF
set_option maxRecDepth 100000 in
set_option maxHeartbeats 4000000 in
theorem wX0_ageOf_37 {J : Nat → Lv → List AV → Obs → Lay → Nat → Nat → Mem → Mem → Prop} (hJ : Cl RX0 cX0_ageOf 4 3 71 0 0 none false J) {r : Int32} {Sm S' : Mem} (hR : Rk cX0_ageOf (some .int) (some (vi r)) wl0 L0 0 0 S' Sm J) (c1 : Nat) (x2 : Int32) (y0 : Int32) (y1 : Int32) (S : Mem) (hF : fX0_ageOf_37 c1 x2 y0 y1 S = some (r, S')) : J 37 [some (vr 0 0), some (vr 5 c1), some (vi x2), some (vn)] [vi y0, vi y1, vr 15 0] wl0 L0 0 0 S Sm := by
  rw [fX0_ageOf_37] at hF
  obtain ⟨j4, h5, hF⟩ := bn_some hF
  refine hJ.siast (pc := 37) dX0_ageOf_37 al_15 h5 ?_
  refine hJ.aload_n (pc := 38) dX0_ageOf_38 rfl ?_
  refine hJ.gR (pc := 39) (k' := 15) (i' := 0) dX0_ageOf_39 fr_X0_46 rfl ?_
  refine hJ.iconst (pc := 42) 2 dX0_ageOf_42 ic_2 ?_
  refine hJ.iload_n (pc := 43) dX0_ageOf_43 rfl ?_
  refine hJ.aload_n (pc := 44) dX0_ageOf_44 rfl ?_
  refine hJ.gI (pc := 45) dX0_ageOf_45 fi_X0_86 ?_
  refine hJ.isub (pc := 48) dX0_ageOf_48 ?_
  refine hJ.siast (pc := 49) dX0_ageOf_49 al_15 (show ix 2 9 = some 2 by decide) ?_
  refine hJ.aload_n (pc := 50) dX0_ageOf_50 rfl ?_
  refine hJ.gR (pc := 51) (k' := 15) (i' := 0) dX0_ageOf_51 fr_X0_46 rfl ?_
  refine hJ.iconst (pc := 54) 3 dX0_ageOf_54 ic_3 ?_
  refine hJ.iload_n (pc := 55) dX0_ageOf_55 rfl ?_
  refine hJ.aload_n (pc := 56) dX0_ageOf_56 rfl ?_
  refine hJ.gI (pc := 57) dX0_ageOf_57 fi_X0_89 ?_
  refine hJ.isub (pc := 60) dX0_ageOf_60 ?_
  refine hJ.sipush (pc := 61) 365 dX0_ageOf_61 sc_365 ?_
  refine hJ.idiv (pc := 64) dX0_ageOf_64 (by decide) ?_
  refine hJ.siast (pc := 65) dX0_ageOf_65 al_15 (show ix 3 9 = some 3 by decide) ?_
  refine hJ.aload_n (pc := 66) dX0_ageOf_66 rfl ?_
  refine hJ.gR (pc := 67) (k' := 15) (i' := 0) dX0_ageOf_67 fr_X0_46 rfl ?_
  refine hJ.iconst (pc := 70) 4 dX0_ageOf_70 ic_4 ?_
  refine hJ.aload_n (pc := 71) dX0_ageOf_71 rfl ?_
  refine hJ.gI (pc := 72) dX0_ageOf_72 fi_X0_92 ?_
  refine hJ.siast (pc := 75) dX0_ageOf_75 al_15 (show ix 4 9 = some 4 by decide) ?_
  refine hJ.aload_n (pc := 76) dX0_ageOf_76 rfl ?_
  refine hJ.gR (pc := 77) (k' := 15) (i' := 0) dX0_ageOf_77 fr_X0_46 rfl ?_
  refine hJ.iconst (pc := 80) 5 dX0_ageOf_80 ic_5 ?_
  refine hJ.aload_n (pc := 81) dX0_ageOf_81 rfl ?_
  refine hJ.gI (pc := 82) dX0_ageOf_82 fi_X0_95 ?_
  refine hJ.siast (pc := 85) dX0_ageOf_85 al_15 (show ix 5 9 = some 5 by decide) ?_
  refine hJ.aload_n (pc := 86) dX0_ageOf_86 rfl ?_
  refine hJ.gR (pc := 87) (k' := 15) (i' := 0) dX0_ageOf_87 fr_X0_46 rfl ?_
  refine hJ.bipush (pc := 90) 6 dX0_ageOf_90 bc_6 ?_
  refine hJ.aload_n (pc := 92) dX0_ageOf_92 rfl ?_
  refine hJ.ifnonnullN (pc := 93) dX0_ageOf_93 ?_
  refine hJ.bipush (pc := 96) 9 dX0_ageOf_96 bc_9 ?_
  refine hJ.goto (pc := 98) 105 dX0_ageOf_98 (by decide) ?_
  exact wX0_ageOf_105 hJ hR c1 x2 9 6 (up (up (up (up (up S 15 0 j4 y0) 15 0 2 (x2 - ((up S 15 0 j4 y0) 5 c1 6))) 15 0 3 ((x2 - ((up (up S 15 0 j4 y0) 15 0 2 (x2 - ((up S 15 0 j4 y0) 5 c1 6))) 5 c1 2)) / 365)) 15 0 4 ((up (up (up S 15 0 j4 y0) 15 0 2 (x2 - ((up S 15 0 j4 y0) 5 c1 6))) 15 0 3 ((x2 - ((up (up S 15 0 j4 y0) 15 0 2 (x2 - ((up S 15 0 j4 y0) 5 c1 6))) 5 c1 2)) / 365)) 5 c1 5)) 15 0 5 ((up (up (up (up S 15 0 j4 y0) 15 0 2 (x2 - ((up S 15 0 j4 y0) 5 c1 6))) 15 0 3 ((x2 - ((up (up S 15 0 j4 y0) 15 0 2 (x2 - ((up S 15 0 j4 y0) 5 c1 6))) 5 c1 2)) / 365)) 15 0 4 ((up (up (up S 15 0 j4 y0) 15 0 2 (x2 - ((up S 15 0 j4 y0) 5 c1 6))) 15 0 3 ((x2 - ((up (up S 15 0 j4 y0) 15 0 2 (x2 - ((up S 15 0 j4 y0) 5 c1 6))) 5 c1 2)) / 365)) 5 c1 5)) 5 c1 1)) hF
set_option maxRecDepth 100000 in
set_option maxHeartbeats 4000000 in
theorem wX0_ageOf_105v1 {J : Nat → Lv → List AV → Obs → Lay → Nat → Nat → Mem → Mem → Prop} (hJ : Cl RX0 cX0_ageOf 4 3 71 0 0 none false J) {r : Int32} {Sm S' : Mem} (hR : Rk cX0_ageOf (some .int) (some (vi r)) wl0 L0 0 0 S' Sm J) (c1 : Nat) (x2 : Int32) (c3 : Nat) (y0 : Int32) (y1 : Int32) (S : Mem) (hF : fX0_ageOf_105v1 c1 x2 c3 y0 y1 S = some (r, S')) : J 105 [some (vr 0 0), some (vr 5 c1), some (vi x2), some (vr 6 c3)] [vi y0, vi y1, vr 15 0] wl0 L0 0 0 S Sm := by
  rw [fX0_ageOf_105v1] at hF
  obtain ⟨j15, h16, hF⟩ := bn_some hF
  refine hJ.siast (pc := 105) dX0_ageOf_105 al_15 h16 ?_
  refine hJ.aload_n (pc := 106) dX0_ageOf_106 rfl ?_
  refine hJ.gR (pc := 107) (k' := 15) (i' := 0) dX0_ageOf_107 fr_X0_46 rfl ?_
  refine hJ.bipush (pc := 110) 7 dX0_ageOf_110 bc_7 ?_
  refine hJ.aload_n (pc := 112) dX0_ageOf_112 rfl ?_
  refine hJ.ifnullN (pc := 113) dX0_ageOf_113 ?_
  refine hJ.aload_n (pc := 116) dX0_ageOf_116 rfl ?_
  refine hJ.iload_n (pc := 117) dX0_ageOf_117 rfl ?_
  refine hJ.cV (pc := 118) [vi x2] [vi 7, vr 15 0] [vi (fX6_livesOn c3 x2 (up S 15 0 j15 y0)), vi 7, vr 15 0] dX0_ageOf_118 lk_X0_101 (ctX6_livesOn c3 x2 _ _ (fX6_livesOn c3 x2 (up S 15 0 j15 y0)) rfl) rfl rfl rfl rfl ?_
  refine hJ.if_eq (pc := 121) 128 dX0_ageOf_121 (by decide) (fun h17 => ?_) (fun h17 => ?_)
  · rw [if_pos h17] at hF
    refine hJ.weak [some (vr 0 0), some (vr 5 c1), none, none] ⟨rfl, rfl, trivial⟩ ?_
    exact wX0_ageOf_128 hJ hR c1 7 (up S 15 0 j15 y0) hF
  · rw [if_neg h17] at hF
    refine hJ.iconst (pc := 124) 1 dX0_ageOf_124 ic_1 ?_
    refine hJ.goto (pc := 125) 129 dX0_ageOf_125 (by decide) ?_
    refine hJ.weak [some (vr 0 0), some (vr 5 c1), none, none] ⟨rfl, rfl, trivial⟩ ?_
    exact wX0_ageOf_129 hJ hR c1 1 7 (up S 15 0 j15 y0) hF
set_option maxRecDepth 100000 in
set_option maxHeartbeats 4000000 in
theorem wX0_ageOf_37v1 {J : Nat → Lv → List AV → Obs → Lay → Nat → Nat → Mem → Mem → Prop} (hJ : Cl RX0 cX0_ageOf 4 3 71 0 0 none false J) {r : Int32} {Sm S' : Mem} (hR : Rk cX0_ageOf (some .int) (some (vi r)) wl0 L0 0 0 S' Sm J) (c1 : Nat) (x2 : Int32) (c3 : Nat) (y0 : Int32) (y1 : Int32) (S : Mem) (hF : fX0_ageOf_37v1 c1 x2 c3 y0 y1 S = some (r, S')) : J 37 [some (vr 0 0), some (vr 5 c1), some (vi x2), some (vr 6 c3)] [vi y0, vi y1, vr 15 0] wl0 L0 0 0 S Sm := by
  rw [fX0_ageOf_37v1] at hF
  obtain ⟨j13, h14, hF⟩ := bn_some hF
  refine hJ.siast (pc := 37) dX0_ageOf_37 al_15 h14 ?_
  refine hJ.aload_n (pc := 38) dX0_ageOf_38 rfl ?_
  refine hJ.gR (pc := 39) (k' := 15) (i' := 0) dX0_ageOf_39 fr_X0_46 rfl ?_
  refine hJ.iconst (pc := 42) 2 dX0_ageOf_42 ic_2 ?_
  refine hJ.iload_n (pc := 43) dX0_ageOf_43 rfl ?_
  refine hJ.aload_n (pc := 44) dX0_ageOf_44 rfl ?_
  refine hJ.gI (pc := 45) dX0_ageOf_45 fi_X0_86 ?_
  refine hJ.isub (pc := 48) dX0_ageOf_48 ?_
  refine hJ.siast (pc := 49) dX0_ageOf_49 al_15 (show ix 2 9 = some 2 by decide) ?_
  refine hJ.aload_n (pc := 50) dX0_ageOf_50 rfl ?_
  refine hJ.gR (pc := 51) (k' := 15) (i' := 0) dX0_ageOf_51 fr_X0_46 rfl ?_
  refine hJ.iconst (pc := 54) 3 dX0_ageOf_54 ic_3 ?_
  refine hJ.iload_n (pc := 55) dX0_ageOf_55 rfl ?_
  refine hJ.aload_n (pc := 56) dX0_ageOf_56 rfl ?_
  refine hJ.gI (pc := 57) dX0_ageOf_57 fi_X0_89 ?_
  refine hJ.isub (pc := 60) dX0_ageOf_60 ?_
  refine hJ.sipush (pc := 61) 365 dX0_ageOf_61 sc_365 ?_
  refine hJ.idiv (pc := 64) dX0_ageOf_64 (by decide) ?_
  refine hJ.siast (pc := 65) dX0_ageOf_65 al_15 (show ix 3 9 = some 3 by decide) ?_
  refine hJ.aload_n (pc := 66) dX0_ageOf_66 rfl ?_
  refine hJ.gR (pc := 67) (k' := 15) (i' := 0) dX0_ageOf_67 fr_X0_46 rfl ?_
  refine hJ.iconst (pc := 70) 4 dX0_ageOf_70 ic_4 ?_
  refine hJ.aload_n (pc := 71) dX0_ageOf_71 rfl ?_
  refine hJ.gI (pc := 72) dX0_ageOf_72 fi_X0_92 ?_
  refine hJ.siast (pc := 75) dX0_ageOf_75 al_15 (show ix 4 9 = some 4 by decide) ?_
  refine hJ.aload_n (pc := 76) dX0_ageOf_76 rfl ?_
  refine hJ.gR (pc := 77) (k' := 15) (i' := 0) dX0_ageOf_77 fr_X0_46 rfl ?_
  refine hJ.iconst (pc := 80) 5 dX0_ageOf_80 ic_5 ?_
  refine hJ.aload_n (pc := 81) dX0_ageOf_81 rfl ?_
  refine hJ.gI (pc := 82) dX0_ageOf_82 fi_X0_95 ?_
  refine hJ.siast (pc := 85) dX0_ageOf_85 al_15 (show ix 5 9 = some 5 by decide) ?_
  refine hJ.aload_n (pc := 86) dX0_ageOf_86 rfl ?_
  refine hJ.gR (pc := 87) (k' := 15) (i' := 0) dX0_ageOf_87 fr_X0_46 rfl ?_
  refine hJ.bipush (pc := 90) 6 dX0_ageOf_90 bc_6 ?_
  refine hJ.aload_n (pc := 92) dX0_ageOf_92 rfl ?_
  refine hJ.ifnonnullY (pc := 93) 101 dX0_ageOf_93 (by decide) ?_
  refine hJ.aload_n (pc := 101) dX0_ageOf_101 rfl ?_
  refine hJ.gI (pc := 102) dX0_ageOf_102 fi_X0_98 ?_
  exact wX0_ageOf_105v1 hJ hR c1 x2 c3 ((up (up (up (up (up S 15 0 j13 y0) 15 0 2 (x2 - ((up S 15 0 j13 y0) 5 c1 6))) 15 0 3 ((x2 - ((up (up S 15 0 j13 y0) 15 0 2 (x2 - ((up S 15 0 j13 y0) 5 c1 6))) 5 c1 2)) / 365)) 15 0 4 ((up (up (up S 15 0 j13 y0) 15 0 2 (x2 - ((up S 15 0 j13 y0) 5 c1 6))) 15 0 3 ((x2 - ((up (up S 15 0 j13 y0) 15 0 2 (x2 - ((up S 15 0 j13 y0) 5 c1 6))) 5 c1 2)) / 365)) 5 c1 5)) 15 0 5 ((up (up (up (up S 15 0 j13 y0) 15 0 2 (x2 - ((up S 15 0 j13 y0) 5 c1 6))) 15 0 3 ((x2 - ((up (up S 15 0 j13 y0) 15 0 2 (x2 - ((up S 15 0 j13 y0) 5 c1 6))) 5 c1 2)) / 365)) 15 0 4 ((up (up (up S 15 0 j13 y0) 15 0 2 (x2 - ((up S 15 0 j13 y0) 5 c1 6))) 15 0 3 ((x2 - ((up (up S 15 0 j13 y0) 15 0 2 (x2 - ((up S 15 0 j13 y0) 5 c1 6))) 5 c1 2)) / 365)) 5 c1 5)) 5 c1 1)) 6 c3 3) 6 (up (up (up (up (up S 15 0 j13 y0) 15 0 2 (x2 - ((up S 15 0 j13 y0) 5 c1 6))) 15 0 3 ((x2 - ((up (up S 15 0 j13 y0) 15 0 2 (x2 - ((up S 15 0 j13 y0) 5 c1 6))) 5 c1 2)) / 365)) 15 0 4 ((up (up (up S 15 0 j13 y0) 15 0 2 (x2 - ((up S 15 0 j13 y0) 5 c1 6))) 15 0 3 ((x2 - ((up (up S 15 0 j13 y0) 15 0 2 (x2 - ((up S 15 0 j13 y0) 5 c1 6))) 5 c1 2)) / 365)) 5 c1 5)) 15 0 5 ((up (up (up (up S 15 0 j13 y0) 15 0 2 (x2 - ((up S 15 0 j13 y0) 5 c1 6))) 15 0 3 ((x2 - ((up (up S 15 0 j13 y0) 15 0 2 (x2 - ((up S 15 0 j13 y0) 5 c1 6))) 5 c1 2)) / 365)) 15 0 4 ((up (up (up S 15 0 j13 y0) 15 0 2 (x2 - ((up S 15 0 j13 y0) 5 c1 6))) 15 0 3 ((x2 - ((up (up S 15 0 j13 y0) 15 0 2 (x2 - ((up S 15 0 j13 y0) 5 c1 6))) 5 c1 2)) / 365)) 5 c1 5)) 5 c1 1)) hF
set_option maxRecDepth 100000 in
set_option maxHeartbeats 4000000 in
theorem ctX0_ageOf (b0 : Nat) (p1 : Int32) (S Sm : Mem) (r : Int32) (S' : Mem) (hF : fX0_ageOf b0 p1 S = some (r, S')) : Ct yX0_ageOf cX0_ageOf 4 (some .int) 3 71 0 0 [vr 0 0, vr 5 b0, vi p1] wl0 L0 S Sm (some (vi r)) wl0 L0 S' Sm := by
  refine Ct.of RX0 false (by decide) rfl (fun h => by cases h) (Nat.le_of_ble_eq_true rfl) (fun J hJ hR => ?_)
  rw [fX0_ageOf] at hF
  show J 0 [some (vr 0 0), some (vr 5 b0), some (vi p1), none] [] wl0 L0 0 0 S Sm
  refine hJ.aload_n (pc := 0) dX0_ageOf_0 rfl ?_
  refine hJ.aload_n (pc := 1) dX0_ageOf_1 rfl ?_
  refine hJ.gI (pc := 2) dX0_ageOf_2 fi_X0_72 ?_
  obtain ⟨r2, h1, hF⟩ := bn_some hF
  refine hJ.cV (pc := 5) [vi (S 5 b0 3)] [] [vq 6 r2] dX0_ageOf_5 lk_X0_75 (ctX0_readerAt (S 5 b0 3) _ _ _ h1) rfl rfl rfl rfl ?_
  cases r2 with
  | none =>
    rw [mt_n] at hF
    refine hJ.astore_n (pc := 8) [some (vr 0 0), some (vr 5 b0), some (vi p1), some (vn)] dX0_ageOf_8 (by decide) rfl ?_
    refine hJ.aload_n (pc := 9) dX0_ageOf_9 rfl ?_
    refine hJ.gR (pc := 10) (k' := 15) (i' := 0) dX0_ageOf_10 fr_X0_46 rfl ?_
    refine hJ.iconst (pc := 13) 0 dX0_ageOf_13 ic_0 ?_
    refine hJ.aload_n (pc := 14) dX0_ageOf_14 rfl ?_
    refine hJ.gI (pc := 15) dX0_ageOf_15 fi_X0_79 ?_
    refine hJ.siast (pc := 18) dX0_ageOf_18 al_15 (show ix 0 9 = some 0 by decide) ?_
    refine hJ.aload_n (pc := 19) dX0_ageOf_19 rfl ?_
    refine hJ.gR (pc := 20) (k' := 15) (i' := 0) dX0_ageOf_20 fr_X0_46 rfl ?_
    refine hJ.iconst (pc := 23) 1 dX0_ageOf_23 ic_1 ?_
    refine hJ.aload_n (pc := 24) dX0_ageOf_24 rfl ?_
    refine hJ.ifnonnullN (pc := 25) dX0_ageOf_25 ?_
    refine hJ.iconst (pc := 28) 0 dX0_ageOf_28 ic_0 ?_
    refine hJ.goto (pc := 29) 37 dX0_ageOf_29 (by decide) ?_
    exact wX0_ageOf_37 hJ hR b0 p1 0 1 (up S 15 0 0 (S 5 b0 4)) hF
  | some i3 =>
    rw [mt_s] at hF
    refine hJ.astore_n (pc := 8) [some (vr 0 0), some (vr 5 b0), some (vi p1), some (vr 6 i3)] dX0_ageOf_8 (by decide) rfl ?_
    refine hJ.aload_n (pc := 9) dX0_ageOf_9 rfl ?_
    refine hJ.gR (pc := 10) (k' := 15) (i' := 0) dX0_ageOf_10 fr_X0_46 rfl ?_
    refine hJ.iconst (pc := 13) 0 dX0_ageOf_13 ic_0 ?_
    refine hJ.aload_n (pc := 14) dX0_ageOf_14 rfl ?_
    refine hJ.gI (pc := 15) dX0_ageOf_15 fi_X0_79 ?_
    refine hJ.siast (pc := 18) dX0_ageOf_18 al_15 (show ix 0 9 = some 0 by decide) ?_
    refine hJ.aload_n (pc := 19) dX0_ageOf_19 rfl ?_
    refine hJ.gR (pc := 20) (k' := 15) (i' := 0) dX0_ageOf_20 fr_X0_46 rfl ?_
    refine hJ.iconst (pc := 23) 1 dX0_ageOf_23 ic_1 ?_
    refine hJ.aload_n (pc := 24) dX0_ageOf_24 rfl ?_
    refine hJ.ifnonnullY (pc := 25) 32 dX0_ageOf_25 (by decide) ?_
    refine hJ.aload_n (pc := 32) dX0_ageOf_32 rfl ?_
    refine hJ.iload_n (pc := 33) dX0_ageOf_33 rfl ?_
    refine hJ.cV (pc := 34) [vi p1] [vi 1, vr 15 0] [vi (fX6_yearsOn i3 p1 (up S 15 0 0 (S 5 b0 4))), vi 1, vr 15 0] dX0_ageOf_34 lk_X0_82 (ctX6_yearsOn i3 p1 _ _ (fX6_yearsOn i3 p1 (up S 15 0 0 (S 5 b0 4))) rfl) rfl rfl rfl rfl ?_
    exact wX0_ageOf_37v1 hJ hR b0 p1 i3 (fX6_yearsOn i3 p1 (up S 15 0 0 (S 5 b0 4))) 1 (up S 15 0 0 (S 5 b0 4)) hF
set_option maxRecDepth 100000 in
set_option maxHeartbeats 4000000 in
theorem ctX1_hasRoom (S Sm : Mem) (r : Int32) (hF : fX1_hasRoom S = r) : Ct yX1_hasRoom cX1_hasRoom 1 (some .boolean) 0 0 0 0 [vr 1 0] wl0 L0 S Sm (some (vi r)) wl0 L0 S Sm := by
  refine Ct.of RX1 false (by decide) rfl (fun h => by cases h) (Nat.le_of_ble_eq_true rfl) (fun J hJ hR => ?_)
  rw [fX1_hasRoom] at hF
  show J 0 [some (vr 1 0)] [] wl0 L0 0 0 S Sm
  refine hJ.aload_n (pc := 0) dX1_hasRoom_0 rfl ?_
  refine hJ.gI (pc := 1) dX1_hasRoom_1 fi_X1_15 ?_
  refine hJ.bipush (pc := 4) 120 dX1_hasRoom_4 bc_120 ?_
  refine hJ.icmp_ge (pc := 6) 13 dX1_hasRoom_6 (by decide) (fun h1 => ?_) (fun h1 => ?_)
  · rw [if_pos h1] at hF
    refine hJ.iconst (pc := 13) 0 dX1_hasRoom_13 ic_0 ?_
    cases hF
    exact hR.n (pc := 14) (by decide) dX1_hasRoom_14
  · rw [if_neg h1] at hF
    refine hJ.iconst (pc := 9) 1 dX1_hasRoom_9 ic_1 ?_
    refine hJ.goto (pc := 10) 14 dX1_hasRoom_10 (by decide) ?_
    cases hF
    exact hR.n (pc := 14) (by decide) dX1_hasRoom_14
set_option maxRecDepth 100000 in
set_option maxHeartbeats 4000000 in
theorem ctX5_copyFrom (a0 : Nat) (b0 : Nat) (S Sm : Mem) (S' : Mem) (hF : fX5_copyFrom a0 b0 S = S') : Ct yX5_copyFrom cX5_copyFrom 2 none 0 0 0 0 [vr 5 a0, vr 5 b0] wl0 L0 S Sm none wl0 L0 S' Sm := by
  refine Ct.of RX5 false (by decide) rfl (fun h => by cases h) (Nat.le_of_ble_eq_true rfl) (fun J hJ hR => ?_)
  rw [fX5_copyFrom] at hF
  show J 0 [some (vr 5 a0), some (vr 5 b0)] [] wl0 L0 0 0 S Sm
  refine hJ.aload_n (pc := 0) dX5_copyFrom_0 rfl ?_
  refine hJ.aload_n (pc := 1) dX5_copyFrom_1 rfl ?_
  refine hJ.gI (pc := 2) dX5_copyFrom_2 fi_X5_9 ?_
  refine hJ.pI (pc := 5) dX5_copyFrom_5 fp_X5_9 ?_
  refine hJ.aload_n (pc := 8) dX5_copyFrom_8 rfl ?_
  refine hJ.aload_n (pc := 9) dX5_copyFrom_9 rfl ?_
  refine hJ.gI (pc := 10) dX5_copyFrom_10 fi_X5_15 ?_
  refine hJ.pI (pc := 13) dX5_copyFrom_13 fp_X5_15 ?_
  refine hJ.aload_n (pc := 16) dX5_copyFrom_16 rfl ?_
  refine hJ.aload_n (pc := 17) dX5_copyFrom_17 rfl ?_
  refine hJ.gI (pc := 18) dX5_copyFrom_18 fi_X5_18 ?_
  refine hJ.pI (pc := 21) dX5_copyFrom_21 fp_X5_18 ?_
  refine hJ.aload_n (pc := 24) dX5_copyFrom_24 rfl ?_
  refine hJ.aload_n (pc := 25) dX5_copyFrom_25 rfl ?_
  refine hJ.gI (pc := 26) dX5_copyFrom_26 fi_X5_28 ?_
  refine hJ.pI (pc := 29) dX5_copyFrom_29 fp_X5_28 ?_
  refine hJ.aload_n (pc := 32) dX5_copyFrom_32 rfl ?_
  refine hJ.aload_n (pc := 33) dX5_copyFrom_33 rfl ?_
  refine hJ.gI (pc := 34) dX5_copyFrom_34 fi_X5_31 ?_
  refine hJ.pI (pc := 37) dX5_copyFrom_37 fp_X5_31 ?_
  refine hJ.aload_n (pc := 40) dX5_copyFrom_40 rfl ?_
  refine hJ.aload_n (pc := 41) dX5_copyFrom_41 rfl ?_
  refine hJ.gI (pc := 42) dX5_copyFrom_42 fi_X5_34 ?_
  refine hJ.pI (pc := 45) dX5_copyFrom_45 fp_X5_34 ?_
  refine hJ.aload_n (pc := 48) dX5_copyFrom_48 rfl ?_
  refine hJ.aload_n (pc := 49) dX5_copyFrom_49 rfl ?_
  refine hJ.gI (pc := 50) dX5_copyFrom_50 fi_X5_37 ?_
  refine hJ.pI (pc := 53) dX5_copyFrom_53 fp_X5_37 ?_
  refine hJ.aload_n (pc := 56) dX5_copyFrom_56 rfl ?_
  refine hJ.aload_n (pc := 57) dX5_copyFrom_57 rfl ?_
  refine hJ.gI (pc := 58) dX5_copyFrom_58 fi_X5_21 ?_
  refine hJ.pI (pc := 61) dX5_copyFrom_61 fp_X5_21 ?_
  cases hF
  exact hR.v (pc := 64) dX5_copyFrom_64
set_option maxRecDepth 100000 in
set_option maxHeartbeats 4000000 in
theorem ctX10_keep (b0 : Nat) (p1 : Int32) (S Sm : Mem) (S' : Mem) (hF : fX10_keep b0 p1 S = some (S')) : Ct yX10_keep cX10_keep 3 none 1 21 0 0 [vr 10 0, vr 5 b0, vi p1] wl0 L0 S Sm none wl0 L0 S' Sm := by
  refine Ct.of RX10 false (by decide) rfl (fun h => by cases h) (Nat.le_of_ble_eq_true rfl) (fun J hJ hR => ?_)
  rw [fX10_keep] at hF
  show J 0 [some (vr 10 0), some (vr 5 b0), some (vi p1)] [] wl0 L0 0 0 S Sm
  refine hJ.aload_n (pc := 0) dX10_keep_0 rfl ?_
  refine hJ.aload_n (pc := 1) dX10_keep_1 rfl ?_
  refine hJ.gI (pc := 2) dX10_keep_2 fi_X10_19 ?_
  refine hJ.iconst (pc := 5) 1 dX10_keep_5 ic_1 ?_
  refine hJ.iadd (pc := 6) dX10_keep_6 ?_
  refine hJ.bipush (pc := 7) 10 dX10_keep_7 bc_10 ?_
  refine hJ.irem (pc := 9) dX10_keep_9 (by decide) ?_
  refine hJ.pI (pc := 10) dX10_keep_10 fp_X10_19 ?_
  refine hJ.aload_n (pc := 13) dX10_keep_13 rfl ?_
  refine hJ.gR (pc := 14) (k' := 29) (i' := 0) dX10_keep_14 fr_X10_11 rfl ?_
  refine hJ.aload_n (pc := 17) dX10_keep_17 rfl ?_
  refine hJ.gI (pc := 18) dX10_keep_18 fi_X10_19 ?_
  obtain ⟨j1, h2, hF⟩ := bn_some hF
  refine hJ.aald (pc := 21) (k' := 5) (i' := (25 + j1)) dX10_keep_21 aq_29 rfl h2 (L0_29 (ix_some h2).2.2) ?_
  refine hJ.aload_n (pc := 22) dX10_keep_22 rfl ?_
  refine hJ.cV (pc := 23) [vr 5 b0] [] [] dX10_keep_23 lk_X10_27 (ctX5_copyFrom (25 + j1) b0 _ _ (fX5_copyFrom (25 + j1) b0 (up S 10 0 2 (((S 10 0 2) + 1) - ((S 10 0 2) + 1) / 10 * 10))) rfl) rfl rfl rfl rfl ?_
  refine hJ.aload_n (pc := 26) dX10_keep_26 rfl ?_
  refine hJ.gR (pc := 27) (k' := 30) (i' := 0) dX10_keep_27 fr_X10_15 rfl ?_
  refine hJ.aload_n (pc := 30) dX10_keep_30 rfl ?_
  refine hJ.gI (pc := 31) dX10_keep_31 fi_X10_19 ?_
  refine hJ.iload_n (pc := 34) dX10_keep_34 rfl ?_
  obtain ⟨j3, h4, hF⟩ := bn_some hF
  refine hJ.szast (pc := 35) dX10_keep_35 al_30 h4 ?_
  refine hJ.aload_n (pc := 36) dX10_keep_36 rfl ?_
  refine hJ.bipush (pc := 37) 10 dX10_keep_37 bc_10 ?_
  refine hJ.aload_n (pc := 39) dX10_keep_39 rfl ?_
  refine hJ.gI (pc := 40) dX10_keep_40 fi_X10_23 ?_
  refine hJ.iconst (pc := 43) 1 dX10_keep_43 ic_1 ?_
  refine hJ.iadd (pc := 44) dX10_keep_44 ?_
  refine hJ.mmin (pc := 45) dX10_keep_45 mw_X10_31 ⟨Nat.le_of_ble_eq_true rfl, Nat.le_of_ble_eq_true rfl, Nat.zero_le _, Nat.zero_le _⟩ ?_
  refine hJ.pI (pc := 48) dX10_keep_48 fp_X10_23 ?_
  cases hF
  exact hR.v (pc := 51) dX10_keep_51
