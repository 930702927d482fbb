set_option maxRecDepth 100000 in
set_option maxHeartbeats 4000000 in
theorem ctX5_takeReading (a0 : Nat) (p0 : Int32) (p1 : Int32) (p2 : Int32) (S Sm : Mem) (S' : Mem) (hF : fX5_takeReading a0 p0 p1 p2 S = S') : Ct yX5_takeReading cX5_takeReading 4 none 0 0 0 0 [vr 5 a0, vi p0, vi p1, vi p2] wl0 L0 S Sm none wl0 L0 S' Sm := by
  refine Ct.of RX5 false (by decide) rfl (fun h => by cases h) (Nat.le_of_ble_eq_true rfl) (fun J hJ hR => ?_)
  rw [fX5_takeReading] at hF
  show J 0 [some (vr 5 a0), some (vi p0), some (vi p1), some (vi p2)] [] wl0 L0 0 0 S Sm
  refine hJ.aload_n (pc := 0) dX5_takeReading_0 rfl ?_
  refine hJ.iload_n (pc := 1) dX5_takeReading_1 rfl ?_
  refine hJ.pI (pc := 2) dX5_takeReading_2 fp_X5_28 ?_
  refine hJ.aload_n (pc := 5) dX5_takeReading_5 rfl ?_
  refine hJ.iload_n (pc := 6) dX5_takeReading_6 rfl ?_
  refine hJ.pI (pc := 7) dX5_takeReading_7 fp_X5_31 ?_
  refine hJ.aload_n (pc := 10) dX5_takeReading_10 rfl ?_
  refine hJ.dup (pc := 11) dX5_takeReading_11 ?_
  refine hJ.gI (pc := 12) dX5_takeReading_12 fi_X5_34 ?_
  refine hJ.iconst (pc := 15) 1 dX5_takeReading_15 ic_1 ?_
  refine hJ.iadd (pc := 16) dX5_takeReading_16 ?_
  refine hJ.pI (pc := 17) dX5_takeReading_17 fp_X5_34 ?_
  refine hJ.aload_n (pc := 20) dX5_takeReading_20 rfl ?_
  refine hJ.iload_n (pc := 21) dX5_takeReading_21 rfl ?_
  refine hJ.pI (pc := 22) dX5_takeReading_22 fp_X5_37 ?_
  cases hF
  exact hR.v (pc := 25) dX5_takeReading_25
set_option maxRecDepth 100000 in
set_option maxHeartbeats 4000000 in
theorem ctX1_write (p0 : Int32) (p1 : Int32) (p2 : Int32) (p3 : Int32) (p4 : Int32) (S Sm : Mem) (S' : Mem) (hF : fX1_write p0 p1 p2 p3 p4 S = some (S')) : Ct yX1_write cX1_write 7 none 1 20 0 0 [vr 1 0, vi p0, vi p1, vi p2, vi p3, vi p4] wl0 L0 S Sm none wl0 L0 S' Sm := by
  refine Ct.of RX1 false (by decide) rfl (fun h => by cases h) (Nat.le_of_ble_eq_true rfl) (fun J hJ hR => ?_)
  rw [fX1_write] at hF
  show J 0 [some (vr 1 0), some (vi p0), some (vi p1), some (vi p2), some (vi p3), some (vi p4), none] [] wl0 L0 0 0 S Sm
  refine hJ.aload_n (pc := 0) dX1_write_0 rfl ?_
  refine hJ.cV (pc := 1) [] [] [vi (fX1_hasRoom S)] dX1_write_1 lk_X1_19 (ctX1_hasRoom _ _ (fX1_hasRoom S) rfl) rfl rfl rfl rfl ?_
  refine hJ.if_ne (pc := 4) 8 dX1_write_4 (by decide) (fun h1 => ?_) (fun h1 => ?_)
  · rw [if_neg h1] at hF
    refine hJ.aload_n (pc := 8) dX1_write_8 rfl ?_
    refine hJ.gI (pc := 9) dX1_write_9 fi_X1_15 ?_
    refine hJ.iconst (pc := 12) 5 dX1_write_12 ic_5 ?_
    refine hJ.imul (pc := 13) dX1_write_13 ?_
    refine hJ.istore (pc := 14) [some (vr 1 0), some (vi p0), some (vi p1), some (vi p2), some (vi p3), some (vi p4), some (vi ((S 1 0 1) * 5))] dX1_write_14 (by decide) rfl ?_
    refine hJ.aload_n (pc := 16) dX1_write_16 rfl ?_
    refine hJ.gR (pc := 17) (k' := 16) (i' := 0) dX1_write_17 fr_X1_11 rfl ?_
    refine hJ.iload (pc := 20) dX1_write_20 rfl ?_
    refine hJ.iload_n (pc := 22) dX1_write_22 rfl ?_
    obtain ⟨j2, h3, hF⟩ := bn_some hF
    refine hJ.siast (pc := 23) dX1_write_23 al_16 h3 ?_
    refine hJ.aload_n (pc := 24) dX1_write_24 rfl ?_
    refine hJ.gR (pc := 25) (k' := 16) (i' := 0) dX1_write_25 fr_X1_11 rfl ?_
    refine hJ.iload (pc := 28) dX1_write_28 rfl ?_
    refine hJ.iconst (pc := 30) 1 dX1_write_30 ic_1 ?_
    refine hJ.iadd (pc := 31) dX1_write_31 ?_
    refine hJ.iload_n (pc := 32) dX1_write_32 rfl ?_
    obtain ⟨j4, h5, hF⟩ := bn_some hF
    refine hJ.siast (pc := 33) dX1_write_33 al_16 h5 ?_
    refine hJ.aload_n (pc := 34) dX1_write_34 rfl ?_
    refine hJ.gR (pc := 35) (k' := 16) (i' := 0) dX1_write_35 fr_X1_11 rfl ?_
    refine hJ.iload (pc := 38) dX1_write_38 rfl ?_
    refine hJ.iconst (pc := 40) 2 dX1_write_40 ic_2 ?_
    refine hJ.iadd (pc := 41) dX1_write_41 ?_
    refine hJ.iload_n (pc := 42) dX1_write_42 rfl ?_
    obtain ⟨j6, h7, hF⟩ := bn_some hF
    refine hJ.siast (pc := 43) dX1_write_43 al_16 h7 ?_
    refine hJ.aload_n (pc := 44) dX1_write_44 rfl ?_
    refine hJ.gR (pc := 45) (k' := 16) (i' := 0) dX1_write_45 fr_X1_11 rfl ?_
    refine hJ.iload (pc := 48) dX1_write_48 rfl ?_
    refine hJ.iconst (pc := 50) 3 dX1_write_50 ic_3 ?_
    refine hJ.iadd (pc := 51) dX1_write_51 ?_
    refine hJ.iload (pc := 52) dX1_write_52 rfl ?_
    obtain ⟨j8, h9, hF⟩ := bn_some hF
    refine hJ.siast (pc := 54) dX1_write_54 al_16 h9 ?_
    refine hJ.aload_n (pc := 55) dX1_write_55 rfl ?_
    refine hJ.gR (pc := 56) (k' := 16) (i' := 0) dX1_write_56 fr_X1_11 rfl ?_
    refine hJ.iload (pc := 59) dX1_write_59 rfl ?_
    refine hJ.iconst (pc := 61) 4 dX1_write_61 ic_4 ?_
    refine hJ.iadd (pc := 62) dX1_write_62 ?_
    refine hJ.iload (pc := 63) dX1_write_63 rfl ?_
    obtain ⟨j10, h11, hF⟩ := bn_some hF
    refine hJ.siast (pc := 65) dX1_write_65 al_16 h11 ?_
    refine hJ.aload_n (pc := 66) dX1_write_66 rfl ?_
    refine hJ.dup (pc := 67) dX1_write_67 ?_
    refine hJ.gI (pc := 68) dX1_write_68 fi_X1_15 ?_
    refine hJ.iconst (pc := 71) 1 dX1_write_71 ic_1 ?_
    refine hJ.iadd (pc := 72) dX1_write_72 ?_
    refine hJ.pI (pc := 73) dX1_write_73 fp_X1_15 ?_
    cases hF
    exact hR.v (pc := 76) dX1_write_76
  · rw [if_pos h1] at hF
    cases hF
    exact hR.v (pc := 7) dX1_write_7
set_option maxRecDepth 100000 in
set_option maxHeartbeats 4000000 in
theorem ctX11_read (p0 : Int32) (p1 : Int32) (S Sm : Mem) (r : Int32) (S' : Mem) (hF : fX11_read p0 p1 S = some (r, S')) : Ct yX11_read cX11_read 8 (some .int) 4 94 0 0 [vr 11 0, vi p0, vi p1] wl0 L0 S Sm (some (vi r)) wl0 L0 S' Sm := by
  refine Ct.of RX11 false (by decide) rfl (fun h => by cases h) (Nat.le_of_ble_eq_true rfl) (fun J hJ hR => ?_)
  rw [fX11_read] at hF
  show J 0 [some (vr 11 0), some (vi p0), some (vi p1), none, none, none, none, none] [] wl0 L0 0 0 S Sm
  refine hJ.aload_n (pc := 0) dX11_read_0 rfl ?_
  refine hJ.gR (pc := 1) (k' := 0) (i' := 0) dX11_read_1 fr_X11_10 rfl ?_
  refine hJ.iload_n (pc := 4) dX11_read_4 rfl ?_
  obtain ⟨r2, h1, hF⟩ := bn_some hF
  refine hJ.cV (pc := 5) [vi p0] [] [vq 5 r2] dX11_read_5 lk_X11_102 (ctX0_paperAt p0 _ _ _ h1) rfl rfl rfl rfl ?_
  cases r2 with
  | none =>
    rw [mt_n] at hF
    refine hJ.astore_n (pc := 8) [some (vr 11 0), some (vi p0), some (vi p1), some (vn), none, none, none, none] dX11_read_8 (by decide) rfl ?_
    refine hJ.aload_n (pc := 9) dX11_read_9 rfl ?_
    refine hJ.gR (pc := 10) (k' := 0) (i' := 0) dX11_read_10 fr_X11_10 rfl ?_
    refine hJ.iload_n (pc := 13) dX11_read_13 rfl ?_
    obtain ⟨r5, h4, hF⟩ := bn_some hF
    refine hJ.cV (pc := 14) [vi p1] [] [vq 6 r5] dX11_read_14 lk_X11_76 (ctX0_readerAt p1 _ _ _ h4) rfl rfl rfl rfl ?_
    cases r5 with
    | none =>
      rw [mt_n] at hF
      refine hJ.astore (pc := 17) [some (vr 11 0), some (vi p0), some (vi p1), some (vn), some (vn), none, none, none] dX11_read_17 (by decide) rfl ?_
      refine hJ.aload_n (pc := 19) dX11_read_19 rfl ?_
      refine hJ.gR (pc := 20) (k' := 0) (i' := 0) dX11_read_20 fr_X11_10 rfl ?_
      refine hJ.gI (pc := 23) dX11_read_23 fi_X11_80 ?_
      refine hJ.istore (pc := 26) [some (vr 11 0), some (vi p0), some (vi p1), some (vn), some (vn), some (vi (S 0 0 8)), none, none] dX11_read_26 (by decide) rfl ?_
      refine hJ.aload_n (pc := 28) dX11_read_28 rfl ?_
      refine hJ.ifnullY (pc := 29) 47 dX11_read_29 (by decide) ?_
      refine hJ.iconst (pc := 47) (-1) dX11_read_47 ic_m1 ?_
      cases hF
      exact hR.i (pc := 48) dX11_read_48
    | some i6 =>
      rw [mt_s] at hF
      refine hJ.astore (pc := 17) [some (vr 11 0), some (vi p0), some (vi p1), some (vn), some (vr 6 i6), none, none, none] dX11_read_17 (by decide) rfl ?_
      refine hJ.aload_n (pc := 19) dX11_read_19 rfl ?_
      refine hJ.gR (pc := 20) (k' := 0) (i' := 0) dX11_read_20 fr_X11_10 rfl ?_
      refine hJ.gI (pc := 23) dX11_read_23 fi_X11_80 ?_
      refine hJ.istore (pc := 26) [some (vr 11 0), some (vi p0), some (vi p1), some (vn), some (vr 6 i6), some (vi (S 0 0 8)), none, none] dX11_read_26 (by decide) rfl ?_
      refine hJ.aload_n (pc := 28) dX11_read_28 rfl ?_
      refine hJ.ifnullY (pc := 29) 47 dX11_read_29 (by decide) ?_
      refine hJ.iconst (pc := 47) (-1) dX11_read_47 ic_m1 ?_
      cases hF
      exact hR.i (pc := 48) dX11_read_48
  | some i3 =>
    rw [mt_s] at hF
    refine hJ.astore_n (pc := 8) [some (vr 11 0), some (vi p0), some (vi p1), some (vr 5 i3), none, none, none, none] dX11_read_8 (by decide) rfl ?_
    refine hJ.aload_n (pc := 9) dX11_read_9 rfl ?_
    refine hJ.gR (pc := 10) (k' := 0) (i' := 0) dX11_read_10 fr_X11_10 rfl ?_
    refine hJ.iload_n (pc := 13) dX11_read_13 rfl ?_
    obtain ⟨r8, h7, hF⟩ := bn_some hF
    refine hJ.cV (pc := 14) [vi p1] [] [vq 6 r8] dX11_read_14 lk_X11_76 (ctX0_readerAt p1 _ _ _ h7) rfl rfl rfl rfl ?_
    cases r8 with
    | none =>
      rw [mt_n] at hF
      refine hJ.astore (pc := 17) [some (vr 11 0), some (vi p0), some (vi p1), some (vr 5 i3), some (vn), none, none, none] dX11_read_17 (by decide) rfl ?_
      refine hJ.aload_n (pc := 19) dX11_read_19 rfl ?_
      refine hJ.gR (pc := 20) (k' := 0) (i' := 0) dX11_read_20 fr_X11_10 rfl ?_
      refine hJ.gI (pc := 23) dX11_read_23 fi_X11_80 ?_
      refine hJ.istore (pc := 26) [some (vr 11 0), some (vi p0), some (vi p1), some (vr 5 i3), some (vn), some (vi (S 0 0 8)), none, none] dX11_read_26 (by decide) rfl ?_
      refine hJ.aload_n (pc := 28) dX11_read_28 rfl ?_
      refine hJ.ifnullN (pc := 29) dX11_read_29 ?_
      refine hJ.aload (pc := 32) dX11_read_32 rfl ?_
      refine hJ.ifnullY (pc := 34) 47 dX11_read_34 (by decide) ?_
      refine hJ.iconst (pc := 47) (-1) dX11_read_47 ic_m1 ?_
      cases hF
      exact hR.i (pc := 48) dX11_read_48
    | some i9 =>
      rw [mt_s] at hF
      refine hJ.astore (pc := 17) [some (vr 11 0), some (vi p0), some (vi p1), some (vr 5 i3), some (vr 6 i9), none, none, none] dX11_read_17 (by decide) rfl ?_
      refine hJ.aload_n (pc := 19) dX11_read_19 rfl ?_
      refine hJ.gR (pc := 20) (k' := 0) (i' := 0) dX11_read_20 fr_X11_10 rfl ?_
      refine hJ.gI (pc := 23) dX11_read_23 fi_X11_80 ?_
      refine hJ.istore (pc := 26) [some (vr 11 0), some (vi p0), some (vi p1), some (vr 5 i3), some (vr 6 i9), some (vi (S 0 0 8)), none, none] dX11_read_26 (by decide) rfl ?_
      refine hJ.aload_n (pc := 28) dX11_read_28 rfl ?_
      refine hJ.ifnullN (pc := 29) dX11_read_29 ?_
      refine hJ.aload (pc := 32) dX11_read_32 rfl ?_
      refine hJ.ifnullN (pc := 34) dX11_read_34 ?_
      refine hJ.aload (pc := 37) dX11_read_37 rfl ?_
      refine hJ.iload (pc := 39) dX11_read_39 rfl ?_
      refine hJ.cV (pc := 41) [vi (S 0 0 8)] [] [vi (fX6_livesOn i9 (S 0 0 8) S)] dX11_read_41 lk_X11_117 (ctX6_livesOn i9 (S 0 0 8) _ _ (fX6_livesOn i9 (S 0 0 8) S) rfl) rfl rfl rfl rfl ?_
      refine hJ.if_ne (pc := 44) 49 dX11_read_44 (by decide) (fun h10 => ?_) (fun h10 => ?_)
      · rw [if_neg h10] at hF
        refine hJ.aload_n (pc := 49) dX11_read_49 rfl ?_
        refine hJ.gR (pc := 50) (k' := 0) (i' := 0) dX11_read_50 fr_X11_10 rfl ?_
        refine hJ.aload_n (pc := 53) dX11_read_53 rfl ?_
        refine hJ.iload (pc := 54) dX11_read_54 rfl ?_
        obtain ⟨r13, S12, h11, hF⟩ := bd_some hF
        refine hJ.cV (pc := 56) [vr 5 i3, vi (S 0 0 8)] [] [vi r13] dX11_read_56 lk_X11_120 (ctX0_ageOf i3 (S 0 0 8) _ _ _ _ h11) rfl rfl rfl rfl ?_
        refine hJ.istore (pc := 59) [some (vr 11 0), some (vi p0), some (vi p1), some (vr 5 i3), some (vr 6 i9), some (vi (S 0 0 8)), some (vi r13), none] dX11_read_59 (by decide) rfl ?_
        refine hJ.aload_n (pc := 61) dX11_read_61 rfl ?_
        refine hJ.gR (pc := 62) (k' := 10) (i' := 0) dX11_read_62 fr_X11_40 rfl ?_
        refine hJ.aload_n (pc := 65) dX11_read_65 rfl ?_
        refine hJ.aload_n (pc := 66) dX11_read_66 rfl ?_
        refine hJ.gR (pc := 67) (k' := 0) (i' := 0) dX11_read_67 fr_X11_10 rfl ?_
        refine hJ.gR (pc := 70) (k' := 1) (i' := 0) dX11_read_70 fr_X11_124 rfl ?_
        refine hJ.cV (pc := 73) [] [vr 5 i3, vr 10 0] [vi (fX1_hasRoom S12), vr 5 i3, vr 10 0] dX11_read_73 lk_X11_128 (ctX1_hasRoom _ _ (fX1_hasRoom S12) rfl) rfl rfl rfl rfl ?_
        obtain ⟨S15, h14, hF⟩ := bn_some hF
        refine hJ.cV (pc := 76) [vr 5 i3, vi (fX1_hasRoom S12)] [] [] dX11_read_76 lk_X11_134 (ctX10_keep i3 (fX1_hasRoom S12) _ _ _ h14) rfl rfl rfl rfl ?_
        refine hJ.aload_n (pc := 79) dX11_read_79 rfl ?_
        refine hJ.iload_n (pc := 80) dX11_read_80 rfl ?_
        refine hJ.aload (pc := 81) dX11_read_81 rfl ?_
        refine hJ.iload (pc := 83) dX11_read_83 rfl ?_
        refine hJ.cV (pc := 85) [vi (S 0 0 8)] [vi p1, vr 5 i3] [vi (fX6_yearsOn i9 (S 0 0 8) S15), vi p1, vr 5 i3] dX11_read_85 lk_X11_138 (ctX6_yearsOn i9 (S 0 0 8) _ _ (fX6_yearsOn i9 (S 0 0 8) S15) rfl) rfl rfl rfl rfl ?_
        refine hJ.iload (pc := 88) dX11_read_88 rfl ?_
        refine hJ.cV (pc := 90) [vi p1, vi (fX6_yearsOn i9 (S 0 0 8) S15), vi (S 0 0 8)] [] [] dX11_read_90 lk_X11_141 (ctX5_takeReading i3 p1 (fX6_yearsOn i9 (S 0 0 8) S15) (S 0 0 8) _ _ (fX5_takeReading i3 p1 (fX6_yearsOn i9 (S 0 0 8) S15) (S 0 0 8) S15) rfl) rfl rfl rfl rfl ?_
        refine hJ.aload_n (pc := 93) dX11_read_93 rfl ?_
        refine hJ.gR (pc := 94) (k' := 0) (i' := 0) dX11_read_94 fr_X11_10 rfl ?_
        refine hJ.aload_n (pc := 97) dX11_read_97 rfl ?_
        refine hJ.iload (pc := 98) dX11_read_98 rfl ?_
        obtain ⟨r18, S17, h16, hF⟩ := bd_some hF
        refine hJ.cV (pc := 100) [vr 5 i3, vi (S 0 0 8)] [] [vi r18] dX11_read_100 lk_X11_120 (ctX0_ageOf i3 (S 0 0 8) _ _ _ _ h16) rfl rfl rfl rfl ?_
        refine hJ.istore (pc := 103) [some (vr 11 0), some (vi p0), some (vi p1), some (vr 5 i3), some (vr 6 i9), some (vi (S 0 0 8)), some (vi r13), some (vi r18)] dX11_read_103 (by decide) rfl ?_
        refine hJ.aload_n (pc := 105) dX11_read_105 rfl ?_
        refine hJ.gR (pc := 106) (k' := 0) (i' := 0) dX11_read_106 fr_X11_10 rfl ?_
        refine hJ.gR (pc := 109) (k' := 1) (i' := 0) dX11_read_109 fr_X11_124 rfl ?_
        refine hJ.iload_n (pc := 112) dX11_read_112 rfl ?_
        refine hJ.iload_n (pc := 113) dX11_read_113 rfl ?_
        refine hJ.iload (pc := 114) dX11_read_114 rfl ?_
        refine hJ.iload (pc := 116) dX11_read_116 rfl ?_
        refine hJ.iload (pc := 118) dX11_read_118 rfl ?_
        obtain ⟨S20, h19, hF⟩ := bn_some hF
        refine hJ.cV (pc := 120) [vi p0, vi p1, vi (S 0 0 8), vi r13, vi r18] [] [] dX11_read_120 lk_X11_144 (ctX1_write p0 p1 (S 0 0 8) r13 r18 _ _ _ h19) rfl rfl rfl rfl ?_
        refine hJ.iload (pc := 123) dX11_read_123 rfl ?_
        cases hF
        exact hR.i (pc := 125) dX11_read_125
      · rw [if_pos h10] at hF
        refine hJ.iconst (pc := 47) (-1) dX11_read_47 ic_m1 ?_
        cases hF
        exact hR.i (pc := 48) dX11_read_48
set_option maxRecDepth 100000 in
set_option maxHeartbeats 4000000 in
theorem wX11_lease_49 {J : Nat → Lv → List AV → Obs → Lay → Nat → Nat → Mem → Mem → Prop} (hJ : Cl RX11 cX11_lease 6 2 43 0 0 none false J) {r : Int32} {Sm S' : Mem} (hR : Rk cX11_lease (some .boolean) (some (vi r)) wl0 L0 0 0 S' Sm J) (x2 : Int32) (y0 : Int32) (S : Mem) (hF : fX11_lease_49 x2 y0 S = some (r, S')) : J 49 [some (vr 11 0), none, some (vi x2), some (vn), none, none] [vi y0] wl0 L0 0 0 S Sm := by
  rw [fX11_lease_49] at hF
  refine hJ.istore (pc := 49) [some (vr 11 0), none, some (vi x2), some (vn), none, some (vi y0)] dX11_lease_49 (by decide) rfl ?_
  refine hJ.aload_n (pc := 51) dX11_lease_51 rfl ?_
  refine hJ.ifnullY (pc := 52) 60 dX11_lease_52 (by decide) ?_
  refine hJ.iconst (pc := 60) 0 dX11_lease_60 ic_0 ?_
  cases hF
  exact hR.n (pc := 61) (by decide) dX11_lease_61
set_option maxRecDepth 100000 in
set_option maxHeartbeats 4000000 in
theorem wX11_lease_44 {J : Nat → Lv → List AV → Obs → Lay → Nat → Nat → Mem → Mem → Prop} (hJ : Cl RX11 cX11_lease 6 2 43 0 0 none false J) {r : Int32} {Sm S' : Mem} (hR : Rk cX11_lease (some .boolean) (some (vi r)) wl0 L0 0 0 S' Sm J) (x2 : Int32) (S : Mem) (hF : fX11_lease_44 x2 S = some (r, S')) : J 44 [some (vr 11 0), none, some (vi x2), some (vn), none, none] [] wl0 L0 0 0 S Sm := by
  rw [fX11_lease_44] at hF
  refine hJ.iconst (pc := 44) 1 dX11_lease_44 ic_1 ?_
  refine hJ.goto (pc := 45) 49 dX11_lease_45 (by decide) ?_
  exact wX11_lease_49 hJ hR x2 1 S hF
set_option maxRecDepth 100000 in
set_option maxHeartbeats 4000000 in
theorem wX11_lease_48 {J : Nat → Lv → List AV → Obs → Lay → Nat → Nat → Mem → Mem → Prop} (hJ : Cl RX11 cX11_lease 6 2 43 0 0 none false J) {r : Int32} {Sm S' : Mem} (hR : Rk cX11_lease (some .boolean) (some (vi r)) wl0 L0 0 0 S' Sm J) (x2 : Int32) (S : Mem) (hF : fX11_lease_48 x2 S = some (r, S')) : J 48 [some (vr 11 0), none, some (vi x2), some (vn), none, none] [] wl0 L0 0 0 S Sm := by
  rw [fX11_lease_48] at hF
  refine hJ.iconst (pc := 48) 0 dX11_lease_48 ic_0 ?_
  exact wX11_lease_49 hJ hR x2 0 S hF
set_option maxRecDepth 100000 in
set_option maxHeartbeats 4000000 in
theorem wX11_lease_49v1 {J : Nat → Lv → List AV → Obs → Lay → Nat → Nat → Mem → Mem → Prop} (hJ : Cl RX11 cX11_lease 6 2 43 0 0 none false J) {r : Int32} {Sm S' : Mem} (hR : Rk cX11_lease (some .boolean) (some (vi r)) wl0 L0 0 0 S' Sm J) (x2 : Int32) (c3 : Nat) (y0 : Int32) (S : Mem) (hF : fX11_lease_49v1 x2 c3 y0 S = some (r, S')) : J 49 [some (vr 11 0), none, some (vi x2), some (vr 5 c3), none, none] [vi y0] wl0 L0 0 0 S Sm := by
  rw [fX11_lease_49v1] at hF
  refine hJ.istore (pc := 49) [some (vr 11 0), none, some (vi x2), some (vr 5 c3), none, some (vi y0)] dX11_lease_49 (by decide) rfl ?_
  refine hJ.aload_n (pc := 51) dX11_lease_51 rfl ?_
  refine hJ.ifnullN (pc := 52) dX11_lease_52 ?_
  refine hJ.iload (pc := 55) dX11_lease_55 rfl ?_
  refine hJ.if_ne (pc := 57) 62 dX11_lease_57 (by decide) (fun h14 => ?_) (fun h14 => ?_)
  · rw [if_neg h14] at hF
    refine hJ.aload_n (pc := 62) dX11_lease_62 rfl ?_
    refine hJ.gR (pc := 63) (k' := 10) (i' := 0) dX11_lease_63 fr_X11_40 rfl ?_
    refine hJ.cV (pc := 66) [] [] [] dX11_lease_66 lk_X11_63 (ctX10_forget _ _ (fX10_forget S) rfl) rfl rfl rfl rfl ?_
    refine hJ.aload_n (pc := 69) dX11_lease_69 rfl ?_
    refine hJ.iload_n (pc := 70) dX11_lease_70 rfl ?_
    refine hJ.pI (pc := 71) dX11_lease_71 fp_X11_148 ?_
    refine hJ.iconst (pc := 74) 1 dX11_lease_74 ic_1 ?_
    cases hF
    exact hR.n (pc := 75) (by decide) dX11_lease_75
  · rw [if_pos h14] at hF
    refine hJ.iconst (pc := 60) 0 dX11_lease_60 ic_0 ?_
    cases hF
    exact hR.n (pc := 61) (by decide) dX11_lease_61
set_option maxRecDepth 100000 in
set_option maxHeartbeats 4000000 in
theorem wX11_lease_44v1 {J : Nat → Lv → List AV → Obs → Lay → Nat → Nat → Mem → Mem → Prop} (hJ : Cl RX11 cX11_lease 6 2 43 0 0 none false J) {r : Int32} {Sm S' : Mem} (hR : Rk cX11_lease (some .boolean) (some (vi r)) wl0 L0 0 0 S' Sm J) (x2 : Int32) (c3 : Nat) (S : Mem) (hF : fX11_lease_44v1 x2 c3 S = some (r, S')) : J 44 [some (vr 11 0), none, some (vi x2), some (vr 5 c3), none, none] [] wl0 L0 0 0 S Sm := by
  rw [fX11_lease_44v1] at hF
  refine hJ.iconst (pc := 44) 1 dX11_lease_44 ic_1 ?_
  refine hJ.goto (pc := 45) 49 dX11_lease_45 (by decide) ?_
  exact wX11_lease_49v1 hJ hR x2 c3 1 S hF
set_option maxRecDepth 100000 in
set_option maxHeartbeats 4000000 in
theorem wX11_lease_48v1 {J : Nat → Lv → List AV → Obs → Lay → Nat → Nat → Mem → Mem → Prop} (hJ : Cl RX11 cX11_lease 6 2 43 0 0 none false J) {r : Int32} {Sm S' : Mem} (hR : Rk cX11_lease (some .boolean) (some (vi r)) wl0 L0 0 0 S' Sm J) (x2 : Int32) (c3 : Nat) (S : Mem) (hF : fX11_lease_48v1 x2 c3 S = some (r, S')) : J 48 [some (vr 11 0), none, some (vi x2), some (vr 5 c3), none, none] [] wl0 L0 0 0 S Sm := by
  rw [fX11_lease_48v1] at hF
  refine hJ.iconst (pc := 48) 0 dX11_lease_48 ic_0 ?_
  exact wX11_lease_49v1 hJ hR x2 c3 0 S hF
set_option maxRecDepth 100000 in
set_option maxHeartbeats 4000000 in
theorem ctX11_lease (p0 : Int32) (p1 : Int32) (S Sm : Mem) (r : Int32) (S' : Mem) (hF : fX11_lease p0 p1 S = some (r, S')) : Ct yX11_lease cX11_lease 6 (some .boolean) 2 43 0 0 [vr 11 0, vi p0, vi p1] wl0 L0 S Sm (some (vi r)) wl0 L0 S' Sm := by
  refine Ct.of RX11 false (by decide) rfl (fun h => by cases h) (Nat.le_of_ble_eq_true rfl) (fun J hJ hR => ?_)
  rw [fX11_lease] at hF
  show J 0 [some (vr 11 0), some (vi p0), some (vi p1), none, none, none] [] wl0 L0 0 0 S Sm
  refine hJ.aload_n (pc := 0) dX11_lease_0 rfl ?_
  refine hJ.gR (pc := 1) (k' := 0) (i' := 0) dX11_lease_1 fr_X11_10 rfl ?_
  refine hJ.iload_n (pc := 4) dX11_lease_4 rfl ?_
  obtain ⟨r2, h1, hF⟩ := bn_some hF
  refine hJ.cV (pc := 5) [vi p0] [] [vq 5 r2] dX11_lease_5 lk_X11_102 (ctX0_paperAt p0 _ _ _ h1) rfl rfl rfl rfl ?_
  cases r2 with
  | none =>
    rw [mt_n] at hF
    refine hJ.astore_n (pc := 8) [some (vr 11 0), some (vi p0), some (vi p1), some (vn), none, none] dX11_lease_8 (by decide) rfl ?_
    refine hJ.aload_n (pc := 9) dX11_lease_9 rfl ?_
    refine hJ.gR (pc := 10) (k' := 0) (i' := 0) dX11_lease_10 fr_X11_10 rfl ?_
    refine hJ.iload_n (pc := 13) dX11_lease_13 rfl ?_
    obtain ⟨r5, h4, hF⟩ := bn_some hF
    refine hJ.cV (pc := 14) [vi p1] [] [vq 6 r5] dX11_lease_14 lk_X11_76 (ctX0_readerAt p1 _ _ _ h4) rfl rfl rfl rfl ?_
    cases r5 with
    | none =>
      rw [mt_n] at hF
      refine hJ.astore (pc := 17) [some (vr 11 0), some (vi p0), some (vi p1), some (vn), some (vn), none] dX11_lease_17 (by decide) rfl ?_
      refine hJ.iload_n (pc := 19) dX11_lease_19 rfl ?_
      refine hJ.iconst (pc := 20) (-1) dX11_lease_20 ic_m1 ?_
      refine hJ.icmp_eq (pc := 21) 44 dX11_lease_21 (by decide) (fun h7 => ?_) (fun h7 => ?_)
      · rw [if_pos h7] at hF
        refine hJ.weak [some (vr 11 0), none, some (vi p1), some (vn), none, none] ⟨rfl, rfl, rfl, trivial⟩ ?_
        exact wX11_lease_44 hJ hR p1 S hF
      · rw [if_neg h7] at hF
        refine hJ.aload (pc := 24) dX11_lease_24 rfl ?_
        refine hJ.ifnullY (pc := 26) 48 dX11_lease_26 (by decide) ?_
        refine hJ.weak [some (vr 11 0), none, some (vi p1), some (vn), none, none] ⟨rfl, rfl, rfl, trivial⟩ ?_
        exact wX11_lease_48 hJ hR p1 S hF
    | some i6 =>
      rw [mt_s] at hF
      refine hJ.astore (pc := 17) [some (vr 11 0), some (vi p0), some (vi p1), some (vn), some (vr 6 i6), none] dX11_lease_17 (by decide) rfl ?_
      refine hJ.iload_n (pc := 19) dX11_lease_19 rfl ?_
      refine hJ.iconst (pc := 20) (-1) dX11_lease_20 ic_m1 ?_
      refine hJ.icmp_eq (pc := 21) 44 dX11_lease_21 (by decide) (fun h8 => ?_) (fun h8 => ?_)
      · rw [if_pos h8] at hF
        refine hJ.weak [some (vr 11 0), none, some (vi p1), some (vn), none, none] ⟨rfl, rfl, rfl, trivial⟩ ?_
        exact wX11_lease_44 hJ hR p1 S hF
      · rw [if_neg h8] at hF
        refine hJ.aload (pc := 24) dX11_lease_24 rfl ?_
        refine hJ.ifnullN (pc := 26) dX11_lease_26 ?_
        refine hJ.aload (pc := 29) dX11_lease_29 rfl ?_
        refine hJ.aload_n (pc := 31) dX11_lease_31 rfl ?_
        refine hJ.gR (pc := 32) (k' := 0) (i' := 0) dX11_lease_32 fr_X11_10 rfl ?_
        refine hJ.gI (pc := 35) dX11_lease_35 fi_X11_80 ?_
        refine hJ.cV (pc := 38) [vi (S 0 0 8)] [] [vi (fX6_livesOn i6 (S 0 0 8) S)] dX11_lease_38 lk_X11_117 (ctX6_livesOn i6 (S 0 0 8) _ _ (fX6_livesOn i6 (S 0 0 8) S) rfl) rfl rfl rfl rfl ?_
        refine hJ.if_eq (pc := 41) 48 dX11_lease_41 (by decide) (fun h9 => ?_) (fun h9 => ?_)
        · rw [if_pos h9] at hF
          refine hJ.weak [some (vr 11 0), none, some (vi p1), some (vn), none, none] ⟨rfl, rfl, rfl, trivial⟩ ?_
          exact wX11_lease_48 hJ hR p1 S hF
        · rw [if_neg h9] at hF
          refine hJ.weak [some (vr 11 0), none, some (vi p1), some (vn), none, none] ⟨rfl, rfl, rfl, trivial⟩ ?_
          exact wX11_lease_44 hJ hR p1 S hF
  | some i3 =>
    rw [mt_s] at hF
    refine hJ.astore_n (pc := 8) [some (vr 11 0), some (vi p0), some (vi p1), some (vr 5 i3), none, none] dX11_lease_8 (by decide) rfl ?_
    refine hJ.aload_n (pc := 9) dX11_lease_9 rfl ?_
    refine hJ.gR (pc := 10) (k' := 0) (i' := 0) dX11_lease_10 fr_X11_10 rfl ?_
    refine hJ.iload_n (pc := 13) dX11_lease_13 rfl ?_
    obtain ⟨r11, h10, hF⟩ := bn_some hF
    refine hJ.cV (pc := 14) [vi p1] [] [vq 6 r11] dX11_lease_14 lk_X11_76 (ctX0_readerAt p1 _ _ _ h10) rfl rfl rfl rfl ?_
    cases r11 with
    | none =>
      rw [mt_n] at hF
      refine hJ.astore (pc := 17) [some (vr 11 0), some (vi p0), some (vi p1), some (vr 5 i3), some (vn), none] dX11_lease_17 (by decide) rfl ?_
      refine hJ.iload_n (pc := 19) dX11_lease_19 rfl ?_
      refine hJ.iconst (pc := 20) (-1) dX11_lease_20 ic_m1 ?_
      refine hJ.icmp_eq (pc := 21) 44 dX11_lease_21 (by decide) (fun h13 => ?_) (fun h13 => ?_)
      · rw [if_pos h13] at hF
        refine hJ.weak [some (vr 11 0), none, some (vi p1), some (vr 5 i3), none, none] ⟨rfl, rfl, rfl, trivial⟩ ?_
        exact wX11_lease_44v1 hJ hR p1 i3 S hF
      · rw [if_neg h13] at hF
        refine hJ.aload (pc := 24) dX11_lease_24 rfl ?_
        refine hJ.ifnullY (pc := 26) 48 dX11_lease_26 (by decide) ?_
        refine hJ.weak [some (vr 11 0), none, some (vi p1), some (vr 5 i3), none, none] ⟨rfl, rfl, rfl, trivial⟩ ?_
        exact wX11_lease_48v1 hJ hR p1 i3 S hF
    | some i12 =>
      rw [mt_s] at hF
      refine hJ.astore (pc := 17) [some (vr 11 0), some (vi p0), some (vi p1), some (vr 5 i3), some (vr 6 i12), none] dX11_lease_17 (by decide) rfl ?_
      refine hJ.iload_n (pc := 19) dX11_lease_19 rfl ?_
      refine hJ.iconst (pc := 20) (-1) dX11_lease_20 ic_m1 ?_
      refine hJ.icmp_eq (pc := 21) 44 dX11_lease_21 (by decide) (fun h15 => ?_) (fun h15 => ?_)
      · rw [if_pos h15] at hF
        refine hJ.weak [some (vr 11 0), none, some (vi p1), some (vr 5 i3), none, none] ⟨rfl, rfl, rfl, trivial⟩ ?_
        exact wX11_lease_44v1 hJ hR p1 i3 S hF
      · rw [if_neg h15] at hF
        refine hJ.aload (pc := 24) dX11_lease_24 rfl ?_
        refine hJ.ifnullN (pc := 26) dX11_lease_26 ?_
        refine hJ.aload (pc := 29) dX11_lease_29 rfl ?_
        refine hJ.aload_n (pc := 31) dX11_lease_31 rfl ?_
        refine hJ.gR (pc := 32) (k' := 0) (i' := 0) dX11_lease_32 fr_X11_10 rfl ?_
        refine hJ.gI (pc := 35) dX11_lease_35 fi_X11_80 ?_
        refine hJ.cV (pc := 38) [vi (S 0 0 8)] [] [vi (fX6_livesOn i12 (S 0 0 8) S)] dX11_lease_38 lk_X11_117 (ctX6_livesOn i12 (S 0 0 8) _ _ (fX6_livesOn i12 (S 0 0 8) S) rfl) rfl rfl rfl rfl ?_
        refine hJ.if_eq (pc := 41) 48 dX11_lease_41 (by decide) (fun h16 => ?_) (fun h16 => ?_)
        · rw [if_pos h16] at hF
          refine hJ.weak [some (vr 11 0), none, some (vi p1), some (vr 5 i3), none, none] ⟨rfl, rfl, rfl, trivial⟩ ?_
          exact wX11_lease_48v1 hJ hR p1 i3 S hF
        · rw [if_neg h16] at hF
          refine hJ.weak [some (vr 11 0), none, some (vi p1), some (vr 5 i3), none, none] ⟨rfl, rfl, rfl, trivial⟩ ?_
          exact wX11_lease_44v1 hJ hR p1 i3 S hF
set_option maxRecDepth 100000 in
set_option maxHeartbeats 4000000 in
theorem ctX0_drawTenThousandth (S Sm : Mem) (r : Int32) (S' : Mem) (hF : fX0_drawTenThousandth S = (r, S')) : Ct yX0_drawTenThousandth cX0_drawTenThousandth 1 (some .int) 0 0 0 0 [vr 0 0] wl0 L0 S Sm (some (vi r)) wl0 L0 S' Sm := by
  refine Ct.of RX0 false (by decide) rfl (fun h => by cases h) (Nat.le_of_ble_eq_true rfl) (fun J hJ hR => ?_)
  rw [fX0_drawTenThousandth] at hF
  show J 0 [some (vr 0 0)] [] wl0 L0 0 0 S Sm
  refine hJ.aload_n (pc := 0) dX0_drawTenThousandth_0 rfl ?_
  refine hJ.ldc (pc := 1) (v := 1664525) dX0_drawTenThousandth_1 kw_X0_139 ?_
  refine hJ.aload_n (pc := 3) dX0_drawTenThousandth_3 rfl ?_
  refine hJ.gI (pc := 4) dX0_drawTenThousandth_4 fi_X0_60 ?_
  refine hJ.imul (pc := 7) dX0_drawTenThousandth_7 ?_
  refine hJ.ldc (pc := 8) (v := 1013904223) dX0_drawTenThousandth_8 kw_X0_140 ?_
  refine hJ.iadd (pc := 10) dX0_drawTenThousandth_10 ?_
  refine hJ.pI (pc := 11) dX0_drawTenThousandth_11 fp_X0_60 ?_
  refine hJ.aload_n (pc := 14) dX0_drawTenThousandth_14 rfl ?_
  refine hJ.gI (pc := 15) dX0_drawTenThousandth_15 fi_X0_60 ?_
  refine hJ.bipush (pc := 18) 8 dX0_drawTenThousandth_18 bc_8 ?_
  refine hJ.iushr (pc := 20) dX0_drawTenThousandth_20 ?_
  refine hJ.sipush (pc := 21) 10000 dX0_drawTenThousandth_21 sc_10000 ?_
  refine hJ.irem (pc := 24) dX0_drawTenThousandth_24 (by decide) ?_
  cases hF
  exact hR.i (pc := 25) dX0_drawTenThousandth_25
set_option maxRecDepth 100000 in
set_option maxHeartbeats 4000000 in
theorem wX0_drawDeaths_4 {J : Nat → Lv → List AV → Obs → Lay → Nat → Nat → Mem → Mem → Prop} (hJ : Cl RX0 cX0_drawDeaths 4 1 21 0 0 none false J) {r : Int32} {Sm S' : Mem} (hR : Rk cX0_drawDeaths (some .int) (some (vi r)) wl0 L0 0 0 S' Sm J) : ∀ (n : Nat) (x1 : Int32) (x2 : Int32) (S : Mem), fX0_drawDeaths_4 n x1 x2 S = some (r, S') → J 4 [some (vr 0 0), some (vi x1), some (vi x2), none] [] wl0 L0 0 0 S Sm := by
  intro n
  induction n with
  | zero =>
    intro x1 x2 S hF
    rw [fX0_drawDeaths_4] at hF
    cases hF
  | succ n ih =>
    intro x1 x2 S hF
    rw [fX0_drawDeaths_4] at hF
    refine hJ.iload_n (pc := 4) dX0_drawDeaths_4 rfl ?_
    refine hJ.aload_n (pc := 5) dX0_drawDeaths_5 rfl ?_
    refine hJ.gI (pc := 6) dX0_drawDeaths_6 fi_X0_50 ?_
    refine hJ.icmp_ge (pc := 9) 65 dX0_drawDeaths_9 (by decide) (fun h1 => ?_) (fun h1 => ?_)
    · rw [if_pos h1] at hF
      refine hJ.iload_n (pc := 65) dX0_drawDeaths_65 rfl ?_
      cases hF
      exact hR.i (pc := 66) dX0_drawDeaths_66
    · rw [if_neg h1] at hF
      refine hJ.aload_n (pc := 12) dX0_drawDeaths_12 rfl ?_
      refine hJ.gR (pc := 13) (k' := 13) (i' := 0) dX0_drawDeaths_13 fr_X0_11 rfl ?_
      refine hJ.iload_n (pc := 16) dX0_drawDeaths_16 rfl ?_
      obtain ⟨j2, h3, hF⟩ := bn_some hF
      refine hJ.aald (pc := 17) (k' := 6) (i' := j2) dX0_drawDeaths_17 aq_13 rfl h3 (L0_13_0 (ix_some h3).2.2) ?_
      refine hJ.astore_n (pc := 18) [some (vr 0 0), some (vi x1), some (vi x2), some (vr 6 j2)] dX0_drawDeaths_18 (by decide) rfl ?_
      refine hJ.aload_n (pc := 19) dX0_drawDeaths_19 rfl ?_
      refine hJ.aload_n (pc := 20) dX0_drawDeaths_20 rfl ?_
      refine hJ.gI (pc := 21) dX0_drawDeaths_21 fi_X0_57 ?_
      refine hJ.cV (pc := 24) [vi (S 0 0 8)] [] [vi (fX6_livesOn j2 (S 0 0 8) S)] dX0_drawDeaths_24 lk_X0_101 (ctX6_livesOn j2 (S 0 0 8) _ _ (fX6_livesOn j2 (S 0 0 8) S) rfl) rfl rfl rfl rfl ?_
      refine hJ.if_eq (pc := 27) 59 dX0_drawDeaths_27 (by decide) (fun h4 => ?_) (fun h4 => ?_)
      · rw [if_pos h4] at hF
        refine hJ.iinc (pc := 59) (x2 + 1) [some (vr 0 0), some (vi x1), some (vi (x2 + 1)), some (vr 6 j2)] dX0_drawDeaths_59 (by decide) rfl (congrArg (fun z => x2 + z) ic_1) rfl ?_
        refine hJ.goto (pc := 62) 4 dX0_drawDeaths_62 (by decide) ?_
        refine hJ.weak [some (vr 0 0), some (vi x1), some (vi (x2 + 1)), none] ⟨rfl, rfl, rfl, trivial⟩ ?_
        exact ih x1 (x2 + 1) S hF
      · rw [if_neg h4] at hF
        refine hJ.aload_n (pc := 30) dX0_drawDeaths_30 rfl ?_
        refine hJ.gI (pc := 31) dX0_drawDeaths_31 fi_X0_130 ?_
        refine hJ.if_le (pc := 34) 59 dX0_drawDeaths_34 (by decide) (fun h5 => ?_) (fun h5 => ?_)
        · rw [if_pos h5] at hF
          refine hJ.iinc (pc := 59) (x2 + 1) [some (vr 0 0), some (vi x1), some (vi (x2 + 1)), some (vr 6 j2)] dX0_drawDeaths_59 (by decide) rfl (congrArg (fun z => x2 + z) ic_1) rfl ?_
          refine hJ.goto (pc := 62) 4 dX0_drawDeaths_62 (by decide) ?_
          refine hJ.weak [some (vr 0 0), some (vi x1), some (vi (x2 + 1)), none] ⟨rfl, rfl, rfl, trivial⟩ ?_
          exact ih x1 (x2 + 1) S hF
        · rw [if_neg h5] at hF
          refine hJ.aload_n (pc := 37) dX0_drawDeaths_37 rfl ?_
          refine hJ.cV (pc := 38) [] [] [vi (fX0_drawTenThousandth S).1] dX0_drawDeaths_38 lk_X0_133 (ctX0_drawTenThousandth _ _ (fX0_drawTenThousandth S).1 (fX0_drawTenThousandth S).2 rfl) rfl rfl rfl rfl ?_
          refine hJ.aload_n (pc := 41) dX0_drawDeaths_41 rfl ?_
          refine hJ.gI (pc := 42) dX0_drawDeaths_42 fi_X0_130 ?_
          refine hJ.icmp_ge (pc := 45) 59 dX0_drawDeaths_45 (by decide) (fun h6 => ?_) (fun h6 => ?_)
          · rw [if_pos h6] at hF
            refine hJ.iinc (pc := 59) (x2 + 1) [some (vr 0 0), some (vi x1), some (vi (x2 + 1)), some (vr 6 j2)] dX0_drawDeaths_59 (by decide) rfl (congrArg (fun z => x2 + z) ic_1) rfl ?_
            refine hJ.goto (pc := 62) 4 dX0_drawDeaths_62 (by decide) ?_
            refine hJ.weak [some (vr 0 0), some (vi x1), some (vi (x2 + 1)), none] ⟨rfl, rfl, rfl, trivial⟩ ?_
            exact ih x1 (x2 + 1) ((fX0_drawTenThousandth S).2) hF
          · rw [if_neg h6] at hF
            refine hJ.aload_n (pc := 48) dX0_drawDeaths_48 rfl ?_
            refine hJ.aload_n (pc := 49) dX0_drawDeaths_49 rfl ?_
            refine hJ.gI (pc := 50) dX0_drawDeaths_50 fi_X0_57 ?_
            refine hJ.pI (pc := 53) dX0_drawDeaths_53 fp_X0_136 ?_
            refine hJ.iinc (pc := 56) (x1 + 1) [some (vr 0 0), some (vi (x1 + 1)), some (vi x2), some (vr 6 j2)] dX0_drawDeaths_56 (by decide) rfl (congrArg (fun z => x1 + z) ic_1) rfl ?_
            refine hJ.iinc (pc := 59) (x2 + 1) [some (vr 0 0), some (vi (x1 + 1)), some (vi (x2 + 1)), some (vr 6 j2)] dX0_drawDeaths_59 (by decide) rfl (congrArg (fun z => x2 + z) ic_1) rfl ?_
            refine hJ.goto (pc := 62) 4 dX0_drawDeaths_62 (by decide) ?_
            refine hJ.weak [some (vr 0 0), some (vi (x1 + 1)), some (vi (x2 + 1)), none] ⟨rfl, rfl, rfl, trivial⟩ ?_
            exact ih (x1 + 1) (x2 + 1) (up (fX0_drawTenThousandth S).2 6 j2 1 ((fX0_drawTenThousandth S).2 0 0 8)) hF
set_option maxRecDepth 100000 in
set_option maxHeartbeats 4000000 in
theorem ctX0_drawDeaths (S Sm : Mem) (r : Int32) (S' : Mem) (hF : fX0_drawDeaths S = some (r, S')) : Ct yX0_drawDeaths cX0_drawDeaths 4 (some .int) 1 21 0 0 [vr 0 0] wl0 L0 S Sm (some (vi r)) wl0 L0 S' Sm := by
  refine Ct.of RX0 false (by decide) rfl (fun h => by cases h) (Nat.le_of_ble_eq_true rfl) (fun J hJ hR => ?_)
  rw [fX0_drawDeaths] at hF
  show J 0 [some (vr 0 0), none, none, none] [] wl0 L0 0 0 S Sm
  refine hJ.iconst (pc := 0) 0 dX0_drawDeaths_0 ic_0 ?_
  refine hJ.istore_n (pc := 1) [some (vr 0 0), some (vi 0), none, none] dX0_drawDeaths_1 (by decide) rfl ?_
  refine hJ.iconst (pc := 2) 0 dX0_drawDeaths_2 ic_0 ?_
  refine hJ.istore_n (pc := 3) [some (vr 0 0), some (vi 0), some (vi 0), none] dX0_drawDeaths_3 (by decide) rfl ?_
  exact wX0_drawDeaths_4 hJ hR 5000 0 0 S hF
set_option maxRecDepth 100000 in
set_option maxHeartbeats 4000000 in
theorem wX0_leasesOf_4 {J : Nat → Lv → List AV → Obs → Lay → Nat → Nat → Mem → Mem → Prop} (hJ : Cl RX0 cX0_leasesOf 4 0 0 0 0 none false J) {r : Int32} {Sm S : Mem} (hR : Rk cX0_leasesOf (some .int) (some (vi r)) wl0 L0 0 0 S Sm J) : ∀ (n : Nat) (x1 : Int32) (x2 : Int32) (x3 : Int32), fX0_leasesOf_4 n x1 x2 x3 S = some r → J 4 [some (vr 0 0), some (vi x1), some (vi x2), some (vi x3)] [] wl0 L0 0 0 S Sm := by
  intro n
  induction n with
  | zero =>
    intro x1 x2 x3 hF
    rw [fX0_leasesOf_4] at hF
    cases hF
  | succ n ih =>
    intro x1 x2 x3 hF
    rw [fX0_leasesOf_4] at hF
    refine hJ.iload_n (pc := 4) dX0_leasesOf_4 rfl ?_
    refine hJ.aload_n (pc := 5) dX0_leasesOf_5 rfl ?_
    refine hJ.gI (pc := 6) dX0_leasesOf_6 fi_X0_54 ?_
    refine hJ.icmp_ge (pc := 9) 34 dX0_leasesOf_9 (by decide) (fun h1 => ?_) (fun h1 => ?_)
    · rw [if_pos h1] at hF
      refine hJ.iload_n (pc := 34) dX0_leasesOf_34 rfl ?_
      cases hF
      exact hR.i (pc := 35) dX0_leasesOf_35
    · rw [if_neg h1] at hF
      refine hJ.aload_n (pc := 12) dX0_leasesOf_12 rfl ?_
      refine hJ.gR (pc := 13) (k' := 14) (i' := 0) dX0_leasesOf_13 fr_X0_19 rfl ?_
      refine hJ.iload_n (pc := 16) dX0_leasesOf_16 rfl ?_
      obtain ⟨j2, h3, hF⟩ := bn_some hF
      refine hJ.aald (pc := 17) (k' := 5) (i' := j2) dX0_leasesOf_17 aq_14 rfl h3 (L0_14_0 (ix_some h3).2.2) ?_
      refine hJ.gI (pc := 18) dX0_leasesOf_18 fi_X0_141 ?_
      refine hJ.iload_n (pc := 21) dX0_leasesOf_21 rfl ?_
      refine hJ.icmp_ne (pc := 22) 28 dX0_leasesOf_22 (by decide) (fun h4 => ?_) (fun h4 => ?_)
      · rw [if_neg h4] at hF
        refine hJ.iinc (pc := 28) (x3 + 1) [some (vr 0 0), some (vi x1), some (vi x2), some (vi (x3 + 1))] dX0_leasesOf_28 (by decide) rfl (congrArg (fun z => x3 + z) ic_1) rfl ?_
        refine hJ.goto (pc := 31) 4 dX0_leasesOf_31 (by decide) ?_
        exact ih x1 x2 (x3 + 1) hF
      · rw [if_pos h4] at hF
        refine hJ.iinc (pc := 25) (x2 + 1) [some (vr 0 0), some (vi x1), some (vi (x2 + 1)), some (vi x3)] dX0_leasesOf_25 (by decide) rfl (congrArg (fun z => x2 + z) ic_1) rfl ?_
        refine hJ.iinc (pc := 28) (x3 + 1) [some (vr 0 0), some (vi x1), some (vi (x2 + 1)), some (vi (x3 + 1))] dX0_leasesOf_28 (by decide) rfl (congrArg (fun z => x3 + z) ic_1) rfl ?_
        refine hJ.goto (pc := 31) 4 dX0_leasesOf_31 (by decide) ?_
        exact ih x1 (x2 + 1) (x3 + 1) hF
set_option maxRecDepth 100000 in
set_option maxHeartbeats 4000000 in
theorem ctX0_leasesOf (p0 : Int32) (S Sm : Mem) (r : Int32) (hF : fX0_leasesOf p0 S = some r) : Ct yX0_leasesOf cX0_leasesOf 4 (some .int) 0 0 0 0 [vr 0 0, vi p0] wl0 L0 S Sm (some (vi r)) wl0 L0 S Sm := by
  refine Ct.of RX0 false (by decide) rfl (fun h => by cases h) (Nat.le_of_ble_eq_true rfl) (fun J hJ hR => ?_)
  rw [fX0_leasesOf] at hF
  show J 0 [some (vr 0 0), some (vi p0), none, none] [] wl0 L0 0 0 S Sm
  refine hJ.iconst (pc := 0) 0 dX0_leasesOf_0 ic_0 ?_
  refine hJ.istore_n (pc := 1) [some (vr 0 0), some (vi p0), some (vi 0), none] dX0_leasesOf_1 (by decide) rfl ?_
  refine hJ.iconst (pc := 2) 0 dX0_leasesOf_2 ic_0 ?_
  refine hJ.istore_n (pc := 3) [some (vr 0 0), some (vi p0), some (vi 0), some (vi 0)] dX0_leasesOf_3 (by decide) rfl ?_
  exact wX0_leasesOf_4 hJ hR 5000 p0 0 0 hF
set_option maxRecDepth 100000 in
set_option maxHeartbeats 4000000 in
theorem wX0_nextForLease_6 {J : Nat → Lv → List AV → Obs → Lay → Nat → Nat → Mem → Mem → Prop} (hJ : Cl RX0 cX0_nextForLease 5 2 42 0 0 none false J) {r : Int32} {Sm S : Mem} (hR : Rk cX0_nextForLease (some .int) (some (vi r)) wl0 L0 0 0 S Sm J) : ∀ (n : Nat) (x1 : Int32) (x2 : Int32) (x3 : Int32), fX0_nextForLease_6 n x1 x2 x3 S = some r → J 6 [some (vr 0 0), some (vi x1), some (vi x2), some (vi x3), none] [] wl0 L0 0 0 S Sm := by
  intro n
  induction n with
  | zero =>
    intro x1 x2 x3 hF
    rw [fX0_nextForLease_6] at hF
    cases hF
  | succ n ih =>
    intro x1 x2 x3 hF
    rw [fX0_nextForLease_6] at hF
    refine hJ.iload_n (pc := 6) dX0_nextForLease_6 rfl ?_
    refine hJ.aload_n (pc := 7) dX0_nextForLease_7 rfl ?_
    refine hJ.gI (pc := 8) dX0_nextForLease_8 fi_X0_50 ?_
    refine hJ.icmp_ge (pc := 11) 73 dX0_nextForLease_11 (by decide) (fun h1 => ?_) (fun h1 => ?_)
    · rw [if_pos h1] at hF
      refine hJ.iload_n (pc := 73) dX0_nextForLease_73 rfl ?_
      cases hF
      exact hR.i (pc := 74) dX0_nextForLease_74
    · rw [if_neg h1] at hF
      refine hJ.aload_n (pc := 14) dX0_nextForLease_14 rfl ?_
      refine hJ.gR (pc := 15) (k' := 13) (i' := 0) dX0_nextForLease_15 fr_X0_11 rfl ?_
      refine hJ.iload_n (pc := 18) dX0_nextForLease_18 rfl ?_
      obtain ⟨j2, h3, hF⟩ := bn_some hF
      refine hJ.aald (pc := 19) (k' := 6) (i' := j2) dX0_nextForLease_19 aq_13 rfl h3 (L0_13_0 (ix_some h3).2.2) ?_
      refine hJ.astore (pc := 20) [some (vr 0 0), some (vi x1), some (vi x2), some (vi x3), some (vr 6 j2)] dX0_nextForLease_20 (by decide) rfl ?_
      refine hJ.aload (pc := 22) dX0_nextForLease_22 rfl ?_
      refine hJ.aload_n (pc := 24) dX0_nextForLease_24 rfl ?_
      refine hJ.gI (pc := 25) dX0_nextForLease_25 fi_X0_57 ?_
      refine hJ.cV (pc := 28) [vi (S 0 0 8)] [] [vi (fX6_livesOn j2 (S 0 0 8) S)] dX0_nextForLease_28 lk_X0_101 (ctX6_livesOn j2 (S 0 0 8) _ _ (fX6_livesOn j2 (S 0 0 8) S) rfl) rfl rfl rfl rfl ?_
      refine hJ.if_eq (pc := 31) 67 dX0_nextForLease_31 (by decide) (fun h4 => ?_) (fun h4 => ?_)
      · rw [if_pos h4] at hF
        refine hJ.iinc (pc := 67) (x3 + 1) [some (vr 0 0), some (vi x1), some (vi x2), some (vi (x3 + 1)), some (vr 6 j2)] dX0_nextForLease_67 (by decide) rfl (congrArg (fun z => x3 + z) ic_1) rfl ?_
        refine hJ.goto (pc := 70) 6 dX0_nextForLease_70 (by decide) ?_
        refine hJ.weak [some (vr 0 0), some (vi x1), some (vi x2), some (vi (x3 + 1)), none] ⟨rfl, rfl, rfl, rfl, trivial⟩ ?_
        exact ih x1 x2 (x3 + 1) hF
      · rw [if_neg h4] at hF
        refine hJ.aload (pc := 34) dX0_nextForLease_34 rfl ?_
        refine hJ.aload_n (pc := 36) dX0_nextForLease_36 rfl ?_
        refine hJ.gI (pc := 37) dX0_nextForLease_37 fi_X0_57 ?_
        refine hJ.cV (pc := 40) [vi (S 0 0 8)] [] [vi (fX6_yearsOn j2 (S 0 0 8) S)] dX0_nextForLease_40 lk_X0_82 (ctX6_yearsOn j2 (S 0 0 8) _ _ (fX6_yearsOn j2 (S 0 0 8) S) rfl) rfl rfl rfl rfl ?_
        refine hJ.iload_n (pc := 43) dX0_nextForLease_43 rfl ?_
        refine hJ.icmp_le (pc := 44) 67 dX0_nextForLease_44 (by decide) (fun h5 => ?_) (fun h5 => ?_)
        · rw [if_pos h5] at hF
          refine hJ.iinc (pc := 67) (x3 + 1) [some (vr 0 0), some (vi x1), some (vi x2), some (vi (x3 + 1)), some (vr 6 j2)] dX0_nextForLease_67 (by decide) rfl (congrArg (fun z => x3 + z) ic_1) rfl ?_
          refine hJ.goto (pc := 70) 6 dX0_nextForLease_70 (by decide) ?_
          refine hJ.weak [some (vr 0 0), some (vi x1), some (vi x2), some (vi (x3 + 1)), none] ⟨rfl, rfl, rfl, rfl, trivial⟩ ?_
          exact ih x1 x2 (x3 + 1) hF
        · rw [if_neg h5] at hF
          refine hJ.aload_n (pc := 47) dX0_nextForLease_47 rfl ?_
          refine hJ.iload_n (pc := 48) dX0_nextForLease_48 rfl ?_
          obtain ⟨r7, h6, hF⟩ := bn_some hF
          refine hJ.cV (pc := 49) [vi x3] [] [vi r7] dX0_nextForLease_49 lk_X0_147 (ctX0_leasesOf x3 _ _ _ h6) rfl rfl rfl rfl ?_
          refine hJ.if_ne (pc := 52) 67 dX0_nextForLease_52 (by decide) (fun h8 => ?_) (fun h8 => ?_)
          · rw [if_neg h8] at hF
            refine hJ.iinc (pc := 67) (x3 + 1) [some (vr 0 0), some (vi x1), some (vi x2), some (vi (x3 + 1)), some (vr 6 j2)] dX0_nextForLease_67 (by decide) rfl (congrArg (fun z => x3 + z) ic_1) rfl ?_
            refine hJ.goto (pc := 70) 6 dX0_nextForLease_70 (by decide) ?_
            refine hJ.weak [some (vr 0 0), some (vi x1), some (vi x2), some (vi (x3 + 1)), none] ⟨rfl, rfl, rfl, rfl, trivial⟩ ?_
            exact ih x1 x2 (x3 + 1) hF
          · rw [if_pos h8] at hF
            refine hJ.aload (pc := 55) dX0_nextForLease_55 rfl ?_
            refine hJ.aload_n (pc := 57) dX0_nextForLease_57 rfl ?_
            refine hJ.gI (pc := 58) dX0_nextForLease_58 fi_X0_57 ?_
            refine hJ.cV (pc := 61) [vi (S 0 0 8)] [] [vi (fX6_yearsOn j2 (S 0 0 8) S)] dX0_nextForLease_61 lk_X0_82 (ctX6_yearsOn j2 (S 0 0 8) _ _ (fX6_yearsOn j2 (S 0 0 8) S) rfl) rfl rfl rfl rfl ?_
            refine hJ.istore_n (pc := 64) [some (vr 0 0), some (vi x1), some (vi (fX6_yearsOn j2 (S 0 0 8) S)), some (vi x3), some (vr 6 j2)] dX0_nextForLease_64 (by decide) rfl ?_
            refine hJ.iload_n (pc := 65) dX0_nextForLease_65 rfl ?_
            refine hJ.istore_n (pc := 66) [some (vr 0 0), some (vi x3), some (vi (fX6_yearsOn j2 (S 0 0 8) S)), some (vi x3), some (vr 6 j2)] dX0_nextForLease_66 (by decide) rfl ?_
            refine hJ.iinc (pc := 67) (x3 + 1) [some (vr 0 0), some (vi x3), some (vi (fX6_yearsOn j2 (S 0 0 8) S)), some (vi (x3 + 1)), some (vr 6 j2)] dX0_nextForLease_67 (by decide) rfl (congrArg (fun z => x3 + z) ic_1) rfl ?_
            refine hJ.goto (pc := 70) 6 dX0_nextForLease_70 (by decide) ?_
            refine hJ.weak [some (vr 0 0), some (vi x3), some (vi (fX6_yearsOn j2 (S 0 0 8) S)), some (vi (x3 + 1)), none] ⟨rfl, rfl, rfl, rfl, trivial⟩ ?_
            exact ih x3 (fX6_yearsOn j2 (S 0 0 8) S) (x3 + 1) hF
set_option maxRecDepth 100000 in
set_option maxHeartbeats 4000000 in
theorem ctX0_nextForLease (S Sm : Mem) (r : Int32) (hF : fX0_nextForLease S = some r) : Ct yX0_nextForLease cX0_nextForLease 5 (some .int) 2 42 0 0 [vr 0 0] wl0 L0 S Sm (some (vi r)) wl0 L0 S Sm := by
  refine Ct.of RX0 false (by decide) rfl (fun h => by cases h) (Nat.le_of_ble_eq_true rfl) (fun J hJ hR => ?_)
  rw [fX0_nextForLease] at hF
  show J 0 [some (vr 0 0), none, none, none, none] [] wl0 L0 0 0 S Sm
  refine hJ.iconst (pc := 0) (-1) dX0_nextForLease_0 ic_m1 ?_
  refine hJ.istore_n (pc := 1) [some (vr 0 0), some (vi (-1)), none, none, none] dX0_nextForLease_1 (by decide) rfl ?_
  refine hJ.iconst (pc := 2) (-1) dX0_nextForLease_2 ic_m1 ?_
  refine hJ.istore_n (pc := 3) [some (vr 0 0), some (vi (-1)), some (vi (-1)), none, none] dX0_nextForLease_3 (by decide) rfl ?_
  refine hJ.iconst (pc := 4) 0 dX0_nextForLease_4 ic_0 ?_
  refine hJ.istore_n (pc := 5) [some (vr 0 0), some (vi (-1)), some (vi (-1)), some (vi 0), none] dX0_nextForLease_5 (by decide) rfl ?_
  exact wX0_nextForLease_6 hJ hR 5000 (-1) (-1) 0 hF
set_option maxRecDepth 100000 in
set_option maxHeartbeats 4000000 in
theorem wX0_passLeases_2 {J : Nat → Lv → List AV → Obs → Lay → Nat → Nat → Mem → Mem → Prop} (hJ : Cl RX0 cX0_passLeases 3 3 66 0 0 none false J) {Sm S' : Mem} (hR : Rk cX0_passLeases none none wl0 L0 0 0 S' Sm J) : ∀ (n : Nat) (x1 : Int32) (S : Mem), fX0_passLeases_2 n x1 S = some (S') → J 2 [some (vr 0 0), some (vi x1), none] [] wl0 L0 0 0 S Sm := by
  intro n
  induction n with
  | zero =>
    intro x1 S hF
    rw [fX0_passLeases_2] at hF
    cases hF
  | succ n ih =>
    intro x1 S hF
    rw [fX0_passLeases_2] at hF
    refine hJ.iload_n (pc := 2) dX0_passLeases_2 rfl ?_
    refine hJ.aload_n (pc := 3) dX0_passLeases_3 rfl ?_
    refine hJ.gI (pc := 4) dX0_passLeases_4 fi_X0_54 ?_
    refine hJ.icmp_ge (pc := 7) 58 dX0_passLeases_7 (by decide) (fun h1 => ?_) (fun h1 => ?_)
    · rw [if_pos h1] at hF
      cases hF
      exact hR.v (pc := 58) dX0_passLeases_58
    · rw [if_neg h1] at hF
      refine hJ.aload_n (pc := 10) dX0_passLeases_10 rfl ?_
      refine hJ.aload_n (pc := 11) dX0_passLeases_11 rfl ?_
      refine hJ.gR (pc := 12) (k' := 14) (i' := 0) dX0_passLeases_12 fr_X0_19 rfl ?_
      refine hJ.iload_n (pc := 15) dX0_passLeases_15 rfl ?_
      obtain ⟨j2, h3, hF⟩ := bn_some hF
      refine hJ.aald (pc := 16) (k' := 5) (i' := j2) dX0_passLeases_16 aq_14 rfl h3 (L0_14_0 (ix_some h3).2.2) ?_
      refine hJ.gI (pc := 17) dX0_passLeases_17 fi_X0_141 ?_
      obtain ⟨r5, h4, hF⟩ := bn_some hF
      refine hJ.cV (pc := 20) [vi (S 5 j2 7)] [] [vq 6 r5] dX0_passLeases_20 lk_X0_75 (ctX0_readerAt (S 5 j2 7) _ _ _ h4) rfl rfl rfl rfl ?_
      cases r5 with
      | none =>
        rw [mt_n] at hF
        refine hJ.astore_n (pc := 23) [some (vr 0 0), some (vi x1), some (vn)] dX0_passLeases_23 (by decide) rfl ?_
        refine hJ.aload_n (pc := 24) dX0_passLeases_24 rfl ?_
        refine hJ.ifnullY (pc := 25) 52 dX0_passLeases_25 (by decide) ?_
        refine hJ.iinc (pc := 52) (x1 + 1) [some (vr 0 0), some (vi (x1 + 1)), some (vn)] dX0_passLeases_52 (by decide) rfl (congrArg (fun z => x1 + z) ic_1) rfl ?_
        refine hJ.goto (pc := 55) 2 dX0_passLeases_55 (by decide) ?_
        refine hJ.weak [some (vr 0 0), some (vi (x1 + 1)), none] ⟨rfl, rfl, trivial⟩ ?_
        exact ih (x1 + 1) S hF
      | some i6 =>
        rw [mt_s] at hF
        refine hJ.astore_n (pc := 23) [some (vr 0 0), some (vi x1), some (vr 6 i6)] dX0_passLeases_23 (by decide) rfl ?_
        refine hJ.aload_n (pc := 24) dX0_passLeases_24 rfl ?_
        refine hJ.ifnullN (pc := 25) dX0_passLeases_25 ?_
        refine hJ.aload_n (pc := 28) dX0_passLeases_28 rfl ?_
        refine hJ.aload_n (pc := 29) dX0_passLeases_29 rfl ?_
        refine hJ.gI (pc := 30) dX0_passLeases_30 fi_X0_57 ?_
        refine hJ.cV (pc := 33) [vi (S 0 0 8)] [] [vi (fX6_livesOn i6 (S 0 0 8) S)] dX0_passLeases_33 lk_X0_101 (ctX6_livesOn i6 (S 0 0 8) _ _ (fX6_livesOn i6 (S 0 0 8) S) rfl) rfl rfl rfl rfl ?_
        refine hJ.if_ne (pc := 36) 52 dX0_passLeases_36 (by decide) (fun h7 => ?_) (fun h7 => ?_)
        · rw [if_neg h7] at hF
          refine hJ.iinc (pc := 52) (x1 + 1) [some (vr 0 0), some (vi (x1 + 1)), some (vr 6 i6)] dX0_passLeases_52 (by decide) rfl (congrArg (fun z => x1 + z) ic_1) rfl ?_
          refine hJ.goto (pc := 55) 2 dX0_passLeases_55 (by decide) ?_
          refine hJ.weak [some (vr 0 0), some (vi (x1 + 1)), none] ⟨rfl, rfl, trivial⟩ ?_
          exact ih (x1 + 1) S hF
        · rw [if_pos h7] at hF
          refine hJ.aload_n (pc := 39) dX0_passLeases_39 rfl ?_
          refine hJ.gR (pc := 40) (k' := 14) (i' := 0) dX0_passLeases_40 fr_X0_19 rfl ?_
          refine hJ.iload_n (pc := 43) dX0_passLeases_43 rfl ?_
          refine hJ.aald (pc := 44) (k' := 5) (i' := j2) dX0_passLeases_44 aq_14 rfl h3 (L0_14_0 (ix_some h3).2.2) ?_
          refine hJ.aload_n (pc := 45) dX0_passLeases_45 rfl ?_
          obtain ⟨r9, h8, hF⟩ := bn_some hF
          refine hJ.cV (pc := 46) [] [vr 5 j2] [vi r9, vr 5 j2] dX0_passLeases_46 lk_X0_144 (ctX0_nextForLease _ _ _ h8) rfl rfl rfl rfl ?_
          refine hJ.pI (pc := 49) dX0_passLeases_49 fp_X0_141 ?_
          refine hJ.iinc (pc := 52) (x1 + 1) [some (vr 0 0), some (vi (x1 + 1)), some (vr 6 i6)] dX0_passLeases_52 (by decide) rfl (congrArg (fun z => x1 + z) ic_1) rfl ?_
          refine hJ.goto (pc := 55) 2 dX0_passLeases_55 (by decide) ?_
          refine hJ.weak [some (vr 0 0), some (vi (x1 + 1)), none] ⟨rfl, rfl, trivial⟩ ?_
          exact ih (x1 + 1) (up S 5 j2 7 r9) hF
set_option maxRecDepth 100000 in
set_option maxHeartbeats 4000000 in
theorem ctX0_passLeases (S Sm : Mem) (S' : Mem) (hF : fX0_passLeases S = some (S')) : Ct yX0_passLeases cX0_passLeases 3 none 3 66 0 0 [vr 0 0] wl0 L0 S Sm none wl0 L0 S' Sm := by
  refine Ct.of RX0 false (by decide) rfl (fun h => by cases h) (Nat.le_of_ble_eq_true rfl) (fun J hJ hR => ?_)
  rw [fX0_passLeases] at hF
  show J 0 [some (vr 0 0), none, none] [] wl0 L0 0 0 S Sm
  refine hJ.iconst (pc := 0) 0 dX0_passLeases_0 ic_0 ?_
  refine hJ.istore_n (pc := 1) [some (vr 0 0), some (vi 0), none] dX0_passLeases_1 (by decide) rfl ?_
  exact wX0_passLeases_2 hJ hR 5000 0 S hF
set_option maxRecDepth 100000 in
set_option maxHeartbeats 4000000 in
theorem ctX0_endDay (S Sm : Mem) (r : Int32) (S' : Mem) (hF : fX0_endDay S = some (r, S')) : Ct yX0_endDay cX0_endDay 2 (some .int) 4 88 0 0 [vr 0 0] wl0 L0 S Sm (some (vi r)) wl0 L0 S' Sm := by
  refine Ct.of RX0 false (by decide) rfl (fun h => by cases h) (Nat.le_of_ble_eq_true rfl) (fun J hJ hR => ?_)
  rw [fX0_endDay] at hF
  show J 0 [some (vr 0 0), none] [] wl0 L0 0 0 S Sm
  refine hJ.aload_n (pc := 0) dX0_endDay_0 rfl ?_
  refine hJ.dup (pc := 1) dX0_endDay_1 ?_
  refine hJ.gI (pc := 2) dX0_endDay_2 fi_X0_57 ?_
  refine hJ.iconst (pc := 5) 1 dX0_endDay_5 ic_1 ?_
  refine hJ.iadd (pc := 6) dX0_endDay_6 ?_
  refine hJ.pI (pc := 7) dX0_endDay_7 fp_X0_57 ?_
  refine hJ.aload_n (pc := 10) dX0_endDay_10 rfl ?_
  obtain ⟨r3, S2, h1, hF⟩ := bd_some hF
  refine hJ.cV (pc := 11) [] [] [vi r3] dX0_endDay_11 lk_X0_123 (ctX0_drawDeaths _ _ _ _ h1) rfl rfl rfl rfl ?_
  refine hJ.istore_n (pc := 14) [some (vr 0 0), some (vi r3)] dX0_endDay_14 (by decide) rfl ?_
  refine hJ.aload_n (pc := 15) dX0_endDay_15 rfl ?_
  refine hJ.dup (pc := 16) dX0_endDay_16 ?_
  refine hJ.gI (pc := 17) dX0_endDay_17 fi_X0_63 ?_
  refine hJ.iload_n (pc := 20) dX0_endDay_20 rfl ?_
  refine hJ.iadd (pc := 21) dX0_endDay_21 ?_
  refine hJ.pI (pc := 22) dX0_endDay_22 fp_X0_63 ?_
  refine hJ.aload_n (pc := 25) dX0_endDay_25 rfl ?_
  obtain ⟨S5, h4, hF⟩ := bn_some hF
  refine hJ.cV (pc := 26) [] [] [] dX0_endDay_26 lk_X0_127 (ctX0_passLeases _ _ _ h4) rfl rfl rfl rfl ?_
  refine hJ.iload_n (pc := 29) dX0_endDay_29 rfl ?_
  cases hF
  exact hR.i (pc := 30) dX0_endDay_30
set_option maxRecDepth 100000 in
set_option maxHeartbeats 4000000 in
theorem wX11_days_39 {J : Nat → Lv → List AV → Obs → Lay → Nat → Nat → Mem → Mem → Prop} (hJ : Cl RX11 cX11_days 4 5 109 0 0 none false J) {r : Int32} {Sm S' : Mem} (hR : Rk cX11_days (some .int) (some (vi r)) wl0 L0 0 0 S' Sm J) : ∀ (n : Nat) (x1 : Int32) (x2 : Int32) (x3 : Int32) (S : Mem), fX11_days_39 n x1 x2 x3 S = some (r, S') → J 39 [some (vr 11 0), some (vi x1), some (vi x2), some (vi x3)] [] wl0 L0 0 0 S Sm := by
  intro n
  induction n with
  | zero =>
    intro x1 x2 x3 S hF
    rw [fX11_days_39] at hF
    cases hF
  | succ n ih =>
    intro x1 x2 x3 S hF
    rw [fX11_days_39] at hF
    refine hJ.iload_n (pc := 39) dX11_days_39 rfl ?_
    refine hJ.iload_n (pc := 40) dX11_days_40 rfl ?_
    refine hJ.icmp_ge (pc := 41) 60 dX11_days_41 (by decide) (fun h3 => ?_) (fun h3 => ?_)
    · rw [if_pos h3] at hF
      refine hJ.iload_n (pc := 60) dX11_days_60 rfl ?_
      cases hF
      exact hR.i (pc := 61) dX11_days_61
    · rw [if_neg h3] at hF
      refine hJ.iload_n (pc := 44) dX11_days_44 rfl ?_
      refine hJ.aload_n (pc := 45) dX11_days_45 rfl ?_
      refine hJ.gR (pc := 46) (k' := 0) (i' := 0) dX11_days_46 fr_X11_10 rfl ?_
      obtain ⟨r6, S5, h4, hF⟩ := bd_some hF
      refine hJ.cV (pc := 49) [] [vi x2] [vi r6, vi x2] dX11_days_49 lk_X11_151 (ctX0_endDay _ _ _ _ h4) rfl rfl rfl rfl ?_
      refine hJ.iadd (pc := 52) dX11_days_52 ?_
      refine hJ.istore_n (pc := 53) [some (vr 11 0), some (vi x1), some (vi (x2 + r6)), some (vi x3)] dX11_days_53 (by decide) rfl ?_
      refine hJ.iinc (pc := 54) (x3 + 1) [some (vr 11 0), some (vi x1), some (vi (x2 + r6)), some (vi (x3 + 1))] dX11_days_54 (by decide) rfl (congrArg (fun z => x3 + z) ic_1) rfl ?_
      refine hJ.goto (pc := 57) 39 dX11_days_57 (by decide) ?_
      exact ih x1 (x2 + r6) (x3 + 1) S5 hF
set_option maxRecDepth 100000 in
set_option maxHeartbeats 4000000 in
theorem ctX11_days (p0 : Int32) (S Sm : Mem) (r : Int32) (S' : Mem) (hF : fX11_days p0 S = some (r, S')) : Ct yX11_days cX11_days 4 (some .int) 5 109 0 0 [vr 11 0, vi p0] wl0 L0 S Sm (some (vi r)) wl0 L0 S' Sm := by
  refine Ct.of RX11 false (by decide) rfl (fun h => by cases h) (Nat.le_of_ble_eq_true rfl) (fun J hJ hR => ?_)
  rw [fX11_days] at hF
  show J 0 [some (vr 11 0), some (vi p0), none, none] [] wl0 L0 0 0 S Sm
  refine hJ.iload_n (pc := 0) dX11_days_0 rfl ?_
  refine hJ.iconst (pc := 1) 1 dX11_days_1 ic_1 ?_
  refine hJ.sipush (pc := 2) 400 dX11_days_2 sc_400 ?_
  refine hJ.cS (pc := 5) [vi p0, vi 1, vi 400] [] [vi (fX11_within p0 1 400)] dX11_days_5 lk_X11_56 (ctX11_within p0 1 400 _ _ (fX11_within p0 1 400) rfl) rfl rfl rfl rfl ?_
  refine hJ.if_eq (pc := 8) 26 dX11_days_8 (by decide) (fun h1 => ?_) (fun h1 => ?_)
  · rw [if_pos h1] at hF
    refine hJ.iconst (pc := 26) (-1) dX11_days_26 ic_m1 ?_
    cases hF
    exact hR.i (pc := 27) dX11_days_27
  · rw [if_neg h1] at hF
    refine hJ.aload_n (pc := 11) dX11_days_11 rfl ?_
    refine hJ.gR (pc := 12) (k' := 0) (i' := 0) dX11_days_12 fr_X11_10 rfl ?_
    refine hJ.gI (pc := 15) dX11_days_15 fi_X11_80 ?_
    refine hJ.iload_n (pc := 18) dX11_days_18 rfl ?_
    refine hJ.iadd (pc := 19) dX11_days_19 ?_
    refine hJ.sipush (pc := 20) 9999 dX11_days_20 sc_9999 ?_
    refine hJ.icmp_le (pc := 23) 28 dX11_days_23 (by decide) (fun h2 => ?_) (fun h2 => ?_)
    · rw [if_pos h2] at hF
      refine hJ.aload_n (pc := 28) dX11_days_28 rfl ?_
      refine hJ.gR (pc := 29) (k' := 10) (i' := 0) dX11_days_29 fr_X11_40 rfl ?_
      refine hJ.cV (pc := 32) [] [] [] dX11_days_32 lk_X11_63 (ctX10_forget _ _ (fX10_forget S) rfl) rfl rfl rfl rfl ?_
      refine hJ.iconst (pc := 35) 0 dX11_days_35 ic_0 ?_
      refine hJ.istore_n (pc := 36) [some (vr 11 0), some (vi p0), some (vi 0), none] dX11_days_36 (by decide) rfl ?_
      refine hJ.iconst (pc := 37) 0 dX11_days_37 ic_0 ?_
      refine hJ.istore_n (pc := 38) [some (vr 11 0), some (vi p0), some (vi 0), some (vi 0)] dX11_days_38 (by decide) rfl ?_
      exact wX11_days_39 hJ hR 5000 p0 0 0 (fX10_forget S) hF
    · rw [if_neg h2] at hF
      refine hJ.iconst (pc := 26) (-1) dX11_days_26 ic_m1 ?_
      cases hF
      exact hR.i (pc := 27) dX11_days_27
set_option maxRecDepth 100000 in
set_option maxHeartbeats 4000000 in
theorem ctX7_hasRoom (p0 : Int32) (S Sm : Mem) (r : Int32) (hF : fX7_hasRoom p0 S = r) : Ct yX7_hasRoom cX7_hasRoom 2 (some .boolean) 0 0 0 0 [vr 7 0, vi p0] wl0 L0 S Sm (some (vi r)) wl0 L0 S Sm := by
  refine Ct.of RX7 false (by decide) rfl (fun h => by cases h) (Nat.le_of_ble_eq_true rfl) (fun J hJ hR => ?_)
  rw [fX7_hasRoom] at hF
  show J 0 [some (vr 7 0), some (vi p0)] [] wl0 L0 0 0 S Sm
  refine hJ.aload_n (pc := 0) dX7_hasRoom_0 rfl ?_
  refine hJ.gI (pc := 1) dX7_hasRoom_1 fi_X7_15 ?_
  refine hJ.iload_n (pc := 4) dX7_hasRoom_4 rfl ?_
  refine hJ.iadd (pc := 5) dX7_hasRoom_5 ?_
  refine hJ.sipush (pc := 6) 400 dX7_hasRoom_6 sc_400 ?_
  refine hJ.icmp_gt (pc := 9) 16 dX7_hasRoom_9 (by decide) (fun h1 => ?_) (fun h1 => ?_)
  · rw [if_pos h1] at hF
    refine hJ.iconst (pc := 16) 0 dX7_hasRoom_16 ic_0 ?_
    cases hF
    exact hR.n (pc := 17) (by decide) dX7_hasRoom_17
  · rw [if_neg h1] at hF
    refine hJ.iconst (pc := 12) 1 dX7_hasRoom_12 ic_1 ?_
    refine hJ.goto (pc := 13) 17 dX7_hasRoom_13 (by decide) ?_
    cases hF
    exact hR.n (pc := 17) (by decide) dX7_hasRoom_17
set_option maxRecDepth 100000 in
set_option maxHeartbeats 4000000 in
theorem ctX7_put (p0 : Int32) (S Sm : Mem) (S' : Mem) (hF : fX7_put p0 S = some (S')) : Ct yX7_put cX7_put 2 none 1 21 0 0 [vr 7 0, vi p0] wl0 L0 S Sm none wl0 L0 S' Sm := by
  refine Ct.of RX7 false (by decide) rfl (fun h => by cases h) (Nat.le_of_ble_eq_true rfl) (fun J hJ hR => ?_)
  rw [fX7_put] at hF
  show J 0 [some (vr 7 0), some (vi p0)] [] wl0 L0 0 0 S Sm
  refine hJ.aload_n (pc := 0) dX7_put_0 rfl ?_
  refine hJ.iconst (pc := 1) 4 dX7_put_1 ic_4 ?_
  refine hJ.cV (pc := 2) [vi 4] [] [vi (fX7_hasRoom 4 S)] dX7_put_2 lk_X7_19 (ctX7_hasRoom 4 _ _ (fX7_hasRoom 4 S) rfl) rfl rfl rfl rfl ?_
  refine hJ.if_ne (pc := 5) 9 dX7_put_5 (by decide) (fun h1 => ?_) (fun h1 => ?_)
  · rw [if_neg h1] at hF
    refine hJ.aload_n (pc := 9) dX7_put_9 rfl ?_
    refine hJ.gR (pc := 10) (k' := 27) (i' := 0) dX7_put_10 fr_X7_11 rfl ?_
    refine hJ.aload_n (pc := 13) dX7_put_13 rfl ?_
    refine hJ.gI (pc := 14) dX7_put_14 fi_X7_15 ?_
    refine hJ.iload_n (pc := 17) dX7_put_17 rfl ?_
    refine hJ.bipush (pc := 18) 24 dX7_put_18 bc_24 ?_
    refine hJ.ishr (pc := 20) dX7_put_20 ?_
    refine hJ.i2b (pc := 21) dX7_put_21 ?_
    obtain ⟨j2, h3, hF⟩ := bn_some hF
    refine hJ.sbast (pc := 22) dX7_put_22 al_27 h3 ?_
    refine hJ.aload_n (pc := 23) dX7_put_23 rfl ?_
    refine hJ.gR (pc := 24) (k' := 27) (i' := 0) dX7_put_24 fr_X7_11 rfl ?_
    refine hJ.aload_n (pc := 27) dX7_put_27 rfl ?_
    refine hJ.gI (pc := 28) dX7_put_28 fi_X7_15 ?_
    refine hJ.iconst (pc := 31) 1 dX7_put_31 ic_1 ?_
    refine hJ.iadd (pc := 32) dX7_put_32 ?_
    refine hJ.iload_n (pc := 33) dX7_put_33 rfl ?_
    refine hJ.bipush (pc := 34) 16 dX7_put_34 bc_16 ?_
    refine hJ.ishr (pc := 36) dX7_put_36 ?_
    refine hJ.i2b (pc := 37) dX7_put_37 ?_
    obtain ⟨j4, h5, hF⟩ := bn_some hF
    refine hJ.sbast (pc := 38) dX7_put_38 al_27 h5 ?_
    refine hJ.aload_n (pc := 39) dX7_put_39 rfl ?_
    refine hJ.gR (pc := 40) (k' := 27) (i' := 0) dX7_put_40 fr_X7_11 rfl ?_
    refine hJ.aload_n (pc := 43) dX7_put_43 rfl ?_
    refine hJ.gI (pc := 44) dX7_put_44 fi_X7_15 ?_
    refine hJ.iconst (pc := 47) 2 dX7_put_47 ic_2 ?_
    refine hJ.iadd (pc := 48) dX7_put_48 ?_
    refine hJ.iload_n (pc := 49) dX7_put_49 rfl ?_
    refine hJ.bipush (pc := 50) 8 dX7_put_50 bc_8 ?_
    refine hJ.ishr (pc := 52) dX7_put_52 ?_
    refine hJ.i2b (pc := 53) dX7_put_53 ?_
    obtain ⟨j6, h7, hF⟩ := bn_some hF
    refine hJ.sbast (pc := 54) dX7_put_54 al_27 h7 ?_
    refine hJ.aload_n (pc := 55) dX7_put_55 rfl ?_
    refine hJ.gR (pc := 56) (k' := 27) (i' := 0) dX7_put_56 fr_X7_11 rfl ?_
    refine hJ.aload_n (pc := 59) dX7_put_59 rfl ?_
    refine hJ.gI (pc := 60) dX7_put_60 fi_X7_15 ?_
    refine hJ.iconst (pc := 63) 3 dX7_put_63 ic_3 ?_
    refine hJ.iadd (pc := 64) dX7_put_64 ?_
    refine hJ.iload_n (pc := 65) dX7_put_65 rfl ?_
    refine hJ.i2b (pc := 66) dX7_put_66 ?_
    obtain ⟨j8, h9, hF⟩ := bn_some hF
    refine hJ.sbast (pc := 67) dX7_put_67 al_27 h9 ?_
    refine hJ.aload_n (pc := 68) dX7_put_68 rfl ?_
    refine hJ.dup (pc := 69) dX7_put_69 ?_
    refine hJ.gI (pc := 70) dX7_put_70 fi_X7_15 ?_
    refine hJ.iconst (pc := 73) 4 dX7_put_73 ic_4 ?_
    refine hJ.iadd (pc := 74) dX7_put_74 ?_
    refine hJ.pI (pc := 75) dX7_put_75 fp_X7_15 ?_
    cases hF
    exact hR.v (pc := 78) dX7_put_78
  · rw [if_pos h1] at hF
    cases hF
    exact hR.v (pc := 8) dX7_put_8
set_option maxRecDepth 100000 in
set_option maxHeartbeats 4000000 in
theorem ctX11_feed (p0 : Int32) (p1 : Int32) (p2 : Int32) (p3 : Int32) (p4 : Int32) (S Sm : Mem) (r : Int32) (S' : Mem) (hF : fX11_feed p0 p1 p2 p3 p4 S = some (r, S')) : Ct yX11_feed cX11_feed 6 (some .int) 2 42 0 0 [vr 11 0, vi p0, vi p1, vi p2, vi p3, vi p4] wl0 L0 S Sm (some (vi r)) wl0 L0 S' Sm := by
  refine Ct.of RX11 false (by decide) rfl (fun h => by cases h) (Nat.le_of_ble_eq_true rfl) (fun J hJ hR => ?_)
  rw [fX11_feed] at hF
  show J 0 [some (vr 11 0), some (vi p0), some (vi p1), some (vi p2), some (vi p3), some (vi p4)] [] wl0 L0 0 0 S Sm
  refine hJ.aload_n (pc := 0) dX11_feed_0 rfl ?_
  refine hJ.gR (pc := 1) (k' := 7) (i' := 0) dX11_feed_1 fr_X11_26 rfl ?_
  refine hJ.bipush (pc := 4) 20 dX11_feed_4 bc_20 ?_
  refine hJ.cV (pc := 6) [vi 20] [] [vi (fX7_hasRoom 20 S)] dX11_feed_6 lk_X11_155 (ctX7_hasRoom 20 _ _ (fX7_hasRoom 20 S) rfl) rfl rfl rfl rfl ?_
  refine hJ.if_ne (pc := 9) 14 dX11_feed_9 (by decide) (fun h1 => ?_) (fun h1 => ?_)
  · rw [if_neg h1] at hF
    refine hJ.aload_n (pc := 14) dX11_feed_14 rfl ?_
    refine hJ.gR (pc := 15) (k' := 7) (i' := 0) dX11_feed_15 fr_X11_26 rfl ?_
    refine hJ.iload_n (pc := 18) dX11_feed_18 rfl ?_
    obtain ⟨S3, h2, hF⟩ := bn_some hF
    refine hJ.cV (pc := 19) [vi p0] [] [] dX11_feed_19 lk_X11_157 (ctX7_put p0 _ _ _ h2) rfl rfl rfl rfl ?_
    refine hJ.aload_n (pc := 22) dX11_feed_22 rfl ?_
    refine hJ.gR (pc := 23) (k' := 7) (i' := 0) dX11_feed_23 fr_X11_26 rfl ?_
    refine hJ.iload_n (pc := 26) dX11_feed_26 rfl ?_
    obtain ⟨S5, h4, hF⟩ := bn_some hF
    refine hJ.cV (pc := 27) [vi p1] [] [] dX11_feed_27 lk_X11_157 (ctX7_put p1 _ _ _ h4) rfl rfl rfl rfl ?_
    refine hJ.aload_n (pc := 30) dX11_feed_30 rfl ?_
    refine hJ.gR (pc := 31) (k' := 7) (i' := 0) dX11_feed_31 fr_X11_26 rfl ?_
    refine hJ.iload_n (pc := 34) dX11_feed_34 rfl ?_
    obtain ⟨S7, h6, hF⟩ := bn_some hF
    refine hJ.cV (pc := 35) [vi p2] [] [] dX11_feed_35 lk_X11_157 (ctX7_put p2 _ _ _ h6) rfl rfl rfl rfl ?_
    refine hJ.aload_n (pc := 38) dX11_feed_38 rfl ?_
    refine hJ.gR (pc := 39) (k' := 7) (i' := 0) dX11_feed_39 fr_X11_26 rfl ?_
    refine hJ.iload (pc := 42) dX11_feed_42 rfl ?_
    obtain ⟨S9, h8, hF⟩ := bn_some hF
    refine hJ.cV (pc := 44) [vi p3] [] [] dX11_feed_44 lk_X11_157 (ctX7_put p3 _ _ _ h8) rfl rfl rfl rfl ?_
    refine hJ.aload_n (pc := 47) dX11_feed_47 rfl ?_
    refine hJ.gR (pc := 48) (k' := 7) (i' := 0) dX11_feed_48 fr_X11_26 rfl ?_
    refine hJ.iload (pc := 51) dX11_feed_51 rfl ?_
    obtain ⟨S11, h10, hF⟩ := bn_some hF
    refine hJ.cV (pc := 53) [vi p4] [] [] dX11_feed_53 lk_X11_157 (ctX7_put p4 _ _ _ h10) rfl rfl rfl rfl ?_
    refine hJ.aload_n (pc := 56) dX11_feed_56 rfl ?_
    refine hJ.gR (pc := 57) (k' := 7) (i' := 0) dX11_feed_57 fr_X11_26 rfl ?_
    refine hJ.gI (pc := 60) dX11_feed_60 fi_X11_161 ?_
    cases hF
    exact hR.i (pc := 63) dX11_feed_63
  · rw [if_pos h1] at hF
    refine hJ.iconst (pc := 12) (-1) dX11_feed_12 ic_m1 ?_
    cases hF
    exact hR.i (pc := 13) dX11_feed_13
set_option maxRecDepth 100000 in
set_option maxHeartbeats 4000000 in
theorem ctX11_end (p0 : Int32) (S Sm : Mem) (r : Int32) (S' : Mem) (hF : fX11_end p0 S = (r, S')) : Ct yX11_end cX11_end 2 (some .boolean) 1 22 0 0 [vr 11 0, vi p0] wl0 L0 S Sm (some (vi r)) wl0 L0 S' Sm := by
  refine Ct.of RX11 false (by decide) rfl (fun h => by cases h) (Nat.le_of_ble_eq_true rfl) (fun J hJ hR => ?_)
  rw [fX11_end] at hF
  show J 0 [some (vr 11 0), some (vi p0)] [] wl0 L0 0 0 S Sm
  refine hJ.iload_n (pc := 0) dX11_end_0 rfl ?_
  refine hJ.iconst (pc := 1) 0 dX11_end_1 ic_0 ?_
  refine hJ.aload_n (pc := 2) dX11_end_2 rfl ?_
  refine hJ.gR (pc := 3) (k' := 7) (i' := 0) dX11_end_3 fr_X11_26 rfl ?_
  refine hJ.gI (pc := 6) dX11_end_6 fi_X11_161 ?_
  refine hJ.cS (pc := 9) [vi p0, vi 0, vi (S 7 0 1)] [] [vi (fX11_within p0 0 (S 7 0 1))] dX11_end_9 lk_X11_56 (ctX11_within p0 0 (S 7 0 1) _ _ (fX11_within p0 0 (S 7 0 1)) rfl) rfl rfl rfl rfl ?_
  refine hJ.if_ne (pc := 12) 17 dX11_end_12 (by decide) (fun h1 => ?_) (fun h1 => ?_)
  · rw [if_neg h1] at hF
    refine hJ.aload_n (pc := 17) dX11_end_17 rfl ?_
    refine hJ.gR (pc := 18) (k' := 7) (i' := 0) dX11_end_18 fr_X11_26 rfl ?_
    refine hJ.iload_n (pc := 21) dX11_end_21 rfl ?_
    refine hJ.pI (pc := 22) dX11_end_22 fp_X11_161 ?_
    refine hJ.iconst (pc := 25) 1 dX11_end_25 ic_1 ?_
    cases hF
    exact hR.n (pc := 26) (by decide) dX11_end_26
  · rw [if_pos h1] at hF
    refine hJ.iconst (pc := 15) 0 dX11_end_15 ic_0 ?_
    cases hF
    exact hR.n (pc := 16) (by decide) dX11_end_16
set_option maxRecDepth 100000 in
set_option maxHeartbeats 4000000 in
theorem ctX3_clear (S Sm : Mem) (S' : Mem) (hF : fX3_clear S = S') : Ct yX3_clear cX3_clear 1 none 0 0 0 0 [vr 3 2] wl0 L0 S Sm none wl0 L0 S' Sm := by
  refine Ct.of RX3 false (by decide) rfl (fun h => by cases h) (Nat.le_of_ble_eq_true rfl) (fun J hJ hR => ?_)
  rw [fX3_clear] at hF
  show J 0 [some (vr 3 2)] [] wl0 L0 0 0 S Sm
  refine hJ.aload_n (pc := 0) dX3_clear_0 rfl ?_
  refine hJ.iconst (pc := 1) 0 dX3_clear_1 ic_0 ?_
  refine hJ.pI (pc := 2) dX3_clear_2 fp_X3_29 ?_
  refine hJ.aload_n (pc := 5) dX3_clear_5 rfl ?_
  refine hJ.iconst (pc := 6) 0 dX3_clear_6 ic_0 ?_
  refine hJ.pI (pc := 7) dX3_clear_7 fp_X3_33 ?_
  cases hF
  exact hR.v (pc := 10) dX3_clear_10
set_option maxRecDepth 100000 in
set_option maxHeartbeats 4000000 in
theorem ctX9_begin (S Sm : Mem) (S' : Mem) (hF : fX9_begin S = S') : Ct yX9_begin cX9_begin 1 none 0 0 0 0 [vr 9 0] wl0 L0 S Sm none wl0 L0 S' Sm := by
  refine Ct.of RX9 false (by decide) rfl (fun h => by cases h) (Nat.le_of_ble_eq_true rfl) (fun J hJ hR => ?_)
  rw [fX9_begin] at hF
  show J 0 [some (vr 9 0)] [] wl0 L0 0 0 S Sm
  refine hJ.aload_n (pc := 0) dX9_begin_0 rfl ?_
  refine hJ.iconst (pc := 1) 0 dX9_begin_1 ic_0 ?_
  refine hJ.pI (pc := 2) dX9_begin_2 fp_X9_15 ?_
  cases hF
  exact hR.v (pc := 5) dX9_begin_5
set_option maxRecDepth 100000 in
set_option maxHeartbeats 4000000 in
theorem ctX4_begin (S Sm : Mem) (S' : Mem) (hF : fX4_begin S = S') : Ct yX4_begin cX4_begin 1 none 1 20 0 0 [vr 4 0] wl0 L0 S Sm none wl0 L0 S' Sm := by
  refine Ct.of RX4 false (by decide) rfl (fun h => by cases h) (Nat.le_of_ble_eq_true rfl) (fun J hJ hR => ?_)
  rw [fX4_begin] at hF
  show J 0 [some (vr 4 0)] [] wl0 L0 0 0 S Sm
  refine hJ.aload_n (pc := 0) dX4_begin_0 rfl ?_
  refine hJ.gR (pc := 1) (k' := 3) (i' := 2) dX4_begin_1 fr_X4_12 rfl ?_
  refine hJ.cV (pc := 4) [] [] [] dX4_begin_4 lk_X4_80 (ctX3_clear _ _ (fX3_clear S) rfl) rfl rfl rfl rfl ?_
  refine hJ.aload_n (pc := 7) dX4_begin_7 rfl ?_
  refine hJ.gR (pc := 8) (k' := 9) (i' := 0) dX4_begin_8 fr_X4_21 rfl ?_
  refine hJ.cV (pc := 11) [] [] [] dX4_begin_11 lk_X4_83 (ctX9_begin _ _ (fX9_begin (fX3_clear S)) rfl) rfl rfl rfl rfl ?_
  refine hJ.aload_n (pc := 14) dX4_begin_14 rfl ?_
  refine hJ.iconst (pc := 15) 0 dX4_begin_15 ic_0 ?_
  refine hJ.pI (pc := 16) dX4_begin_16 fp_X4_29 ?_
  refine hJ.aload_n (pc := 19) dX4_begin_19 rfl ?_
  refine hJ.iconst (pc := 20) 0 dX4_begin_20 ic_0 ?_
  refine hJ.pI (pc := 21) dX4_begin_21 fp_X4_33 ?_
  refine hJ.aload_n (pc := 24) dX4_begin_24 rfl ?_
  refine hJ.iconst (pc := 25) 0 dX4_begin_25 ic_0 ?_
  refine hJ.pI (pc := 26) dX4_begin_26 fp_X4_36 ?_
  refine hJ.aload_n (pc := 29) dX4_begin_29 rfl ?_
  refine hJ.iconst (pc := 30) 0 dX4_begin_30 ic_0 ?_
  refine hJ.pZ (pc := 31) dX4_begin_31 fp_X4_39 (by decide) ?_
  refine hJ.aload_n (pc := 34) dX4_begin_34 rfl ?_
  refine hJ.iconst (pc := 35) 0 dX4_begin_35 ic_0 ?_
  refine hJ.pI (pc := 36) dX4_begin_36 fp_X4_43 ?_
  refine hJ.aload_n (pc := 39) dX4_begin_39 rfl ?_
  refine hJ.iconst (pc := 40) (-1) dX4_begin_40 ic_m1 ?_
  refine hJ.pI (pc := 41) dX4_begin_41 fp_X4_46 ?_
  cases hF
  exact hR.v (pc := 44) dX4_begin_44
set_option maxRecDepth 100000 in
set_option maxHeartbeats 4000000 in
theorem ctX7_signAt (p0 : Int32) (S Sm : Mem) (r : Int32) (hF : fX7_signAt p0 S = some r) : Ct yX7_signAt cX7_signAt 2 (some .int) 1 22 0 0 [vr 7 0, vi p0] wl0 L0 S Sm (some (vi r)) wl0 L0 S Sm := by
  refine Ct.of RX7 false (by decide) rfl (fun h => by cases h) (Nat.le_of_ble_eq_true rfl) (fun J hJ hR => ?_)
  rw [fX7_signAt] at hF
  show J 0 [some (vr 7 0), some (vi p0)] [] wl0 L0 0 0 S Sm
  refine hJ.iload_n (pc := 0) dX7_signAt_0 rfl ?_
  refine hJ.iconst (pc := 1) 0 dX7_signAt_1 ic_0 ?_
  refine hJ.aload_n (pc := 2) dX7_signAt_2 rfl ?_
  refine hJ.gI (pc := 3) dX7_signAt_3 fi_X7_15 ?_
  refine hJ.iconst (pc := 6) 1 dX7_signAt_6 ic_1 ?_
  refine hJ.isub (pc := 7) dX7_signAt_7 ?_
  refine hJ.cSN (pc := 8) [vi p0, vi 0, vi ((S 7 0 1) - 1)] [] [vi (fX11_within p0 0 ((S 7 0 1) - 1))] dX7_signAt_8 lk_X7_23 (ctX11_within p0 0 ((S 7 0 1) - 1) _ _ (fX11_within p0 0 ((S 7 0 1) - 1)) rfl) rfl rfl rfl rfl ?_
  refine hJ.if_eq (pc := 11) 27 dX7_signAt_11 (by decide) (fun h1 => ?_) (fun h1 => ?_)
  · rw [if_pos h1] at hF
    refine hJ.iconst (pc := 27) (-1) dX7_signAt_27 ic_m1 ?_
    cases hF
    exact hR.i (pc := 28) dX7_signAt_28
  · rw [if_neg h1] at hF
    refine hJ.aload_n (pc := 14) dX7_signAt_14 rfl ?_
    refine hJ.gR (pc := 15) (k' := 27) (i' := 0) dX7_signAt_15 fr_X7_11 rfl ?_
    refine hJ.iload_n (pc := 18) dX7_signAt_18 rfl ?_
    obtain ⟨j2, h3, hF⟩ := bn_some hF
    refine hJ.lbald (pc := 19) dX7_signAt_19 al_27 h3 ?_
    refine hJ.sipush (pc := 20) 255 dX7_signAt_20 sc_255 ?_
    refine hJ.iand (pc := 23) dX7_signAt_23 ?_
    refine hJ.goto (pc := 24) 28 dX7_signAt_24 (by decide) ?_
    cases hF
    exact hR.i (pc := 28) dX7_signAt_28
set_option maxRecDepth 100000 in
set_option maxHeartbeats 4000000 in
theorem ctX9_isLetter (p0 : Int32) (Sc Sm : Mem) (r : Int32) (hF : fX9_isLetter p0 = r) : Ct yX9_isLetter cX9_isLetter 1 (some .boolean) 1 22 0 0 [vi p0] wl0 L0 Sc Sm (some (vi r)) wl0 L0 Sc Sm := by
  refine Ct.of RX9 false (by decide) rfl (fun h => by cases h) (Nat.le_of_ble_eq_true rfl) (fun J hJ hR => ?_)
  rw [fX9_isLetter] at hF
  show J 0 [some (vi p0)] [] wl0 L0 0 0 Sc Sm
  refine hJ.iload_n (pc := 0) dX9_isLetter_0 rfl ?_
  refine hJ.bipush (pc := 1) 97 dX9_isLetter_1 bc_97 ?_
  refine hJ.bipush (pc := 3) 122 dX9_isLetter_3 bc_122 ?_
  refine hJ.cSN (pc := 5) [vi p0, vi 97, vi 122] [] [vi (fX11_within p0 97 122)] dX9_isLetter_5 lk_X9_71 (ctX11_within p0 97 122 _ _ (fX11_within p0 97 122) rfl) rfl rfl rfl rfl ?_
  refine hJ.if_ne (pc := 8) 22 dX9_isLetter_8 (by decide) (fun h1 => ?_) (fun h1 => ?_)
  · rw [if_neg h1] at hF
    refine hJ.iconst (pc := 22) 1 dX9_isLetter_22 ic_1 ?_
    refine hJ.goto (pc := 23) 27 dX9_isLetter_23 (by decide) ?_
    cases hF
    exact hR.n (pc := 27) (by decide) dX9_isLetter_27
  · rw [if_pos h1] at hF
    refine hJ.iload_n (pc := 11) dX9_isLetter_11 rfl ?_
    refine hJ.bipush (pc := 12) 65 dX9_isLetter_12 bc_65 ?_
    refine hJ.bipush (pc := 14) 90 dX9_isLetter_14 bc_90 ?_
    refine hJ.cSN (pc := 16) [vi p0, vi 65, vi 90] [] [vi (fX11_within p0 65 90)] dX9_isLetter_16 lk_X9_71 (ctX11_within p0 65 90 _ _ (fX11_within p0 65 90) rfl) rfl rfl rfl rfl ?_
    refine hJ.if_eq (pc := 19) 26 dX9_isLetter_19 (by decide) (fun h2 => ?_) (fun h2 => ?_)
    · rw [if_pos h2] at hF
      refine hJ.iconst (pc := 26) 0 dX9_isLetter_26 ic_0 ?_
      cases hF
      exact hR.n (pc := 27) (by decide) dX9_isLetter_27
    · rw [if_neg h2] at hF
      refine hJ.iconst (pc := 22) 1 dX9_isLetter_22 ic_1 ?_
      refine hJ.goto (pc := 23) 27 dX9_isLetter_23 (by decide) ?_
      cases hF
      exact hR.n (pc := 27) (by decide) dX9_isLetter_27
set_option maxRecDepth 100000 in
set_option maxHeartbeats 4000000 in
theorem ctX9_isDigit (p0 : Int32) (Sc Sm : Mem) (r : Int32) (hF : fX9_isDigit p0 = r) : Ct yX9_isDigit cX9_isDigit 1 (some .boolean) 1 22 0 0 [vi p0] wl0 L0 Sc Sm (some (vi r)) wl0 L0 Sc Sm := by
  refine Ct.of RX9 false (by decide) rfl (fun h => by cases h) (Nat.le_of_ble_eq_true rfl) (fun J hJ hR => ?_)
  rw [fX9_isDigit] at hF
  show J 0 [some (vi p0)] [] wl0 L0 0 0 Sc Sm
  refine hJ.iload_n (pc := 0) dX9_isDigit_0 rfl ?_
  refine hJ.bipush (pc := 1) 48 dX9_isDigit_1 bc_48 ?_
  refine hJ.bipush (pc := 3) 57 dX9_isDigit_3 bc_57 ?_
  refine hJ.cSN (pc := 5) [vi p0, vi 48, vi 57] [] [vi (fX11_within p0 48 57)] dX9_isDigit_5 lk_X9_71 (ctX11_within p0 48 57 _ _ (fX11_within p0 48 57) rfl) rfl rfl rfl rfl ?_
  cases hF
  exact hR.n (pc := 8) (bool_nar (zX11_within _ _ _ )).1 dX9_isDigit_8
set_option maxRecDepth 100000 in
set_option maxHeartbeats 4000000 in
theorem ctJ0_isLatin1_aae02 (a0 : Nat) (hi_a0 : a0 < 2) (Sc Sm : Mem) (r : Int32) (hF : fJ0_isLatin1_aae02 a0 = r) : Ct yJ0_isLatin1_aae02 cJ0_isLatin1_aae02 1 (some .boolean) 0 0 0 0 [vr 90 a0] wl0 L0 Sc Sm (some (vi r)) wl0 L0 Sc Sm := by
  refine Ct.of RJ0 false (by decide) rfl (fun h => by cases h) (Nat.le_of_ble_eq_true rfl) (fun J hJ hR => ?_)
  rw [fJ0_isLatin1_aae02] at hF
  show J 0 [some (vr 90 a0)] [] wl0 L0 0 0 Sc Sm
  refine hJ.getCS (pc := 0) dJ0_isLatin1_aae02_0 sl_J0_38 ?_
  refine hJ.if_eq (pc := 3) 17 dJ0_isLatin1_aae02_3 (by decide) (fun h0 => absurd h0 (by decide)) (fun _ => ?_)
  refine hJ.aload_n (pc := 6) dJ0_isLatin1_aae02_6 rfl ?_
  refine hJ.getSC (pc := 7) hi_a0 dJ0_isLatin1_aae02_7 sl_J0_15 ?_
  refine hJ.if_ne (pc := 10) 17 dJ0_isLatin1_aae02_10 (by decide) (fun h0 => absurd h0 (by decide)) (fun _ => ?_)
  refine hJ.iconst (pc := 13) 1 dJ0_isLatin1_aae02_13 ic_1 ?_
  refine hJ.goto (pc := 14) 18 dJ0_isLatin1_aae02_14 (by decide) ?_
  cases hF
  exact hR.n (pc := 18) (by decide) dJ0_isLatin1_aae02_18
set_option maxRecDepth 100000 in
set_option maxHeartbeats 4000000 in
theorem ctJ0_coder_7d493 (a0 : Nat) (hi_a0 : a0 < 2) (Sc Sm : Mem) (r : Int32) (hF : fJ0_coder_7d493 a0 = r) : Ct yJ0_coder_7d493 cJ0_coder_7d493 1 (some .byte) 0 0 0 0 [vr 90 a0] wl0 L0 Sc Sm (some (vi r)) wl0 L0 Sc Sm := by
  refine Ct.of RJ0 false (by decide) rfl (fun h => by cases h) (Nat.le_of_ble_eq_true rfl) (fun J hJ hR => ?_)
  rw [fJ0_coder_7d493] at hF
  show J 0 [some (vr 90 a0)] [] wl0 L0 0 0 Sc Sm
  refine hJ.getCS (pc := 0) dJ0_coder_7d493_0 sl_J0_38 ?_
  refine hJ.if_eq (pc := 3) 13 dJ0_coder_7d493_3 (by decide) (fun h0 => absurd h0 (by decide)) (fun _ => ?_)
  refine hJ.aload_n (pc := 6) dJ0_coder_7d493_6 rfl ?_
  refine hJ.getSC (pc := 7) hi_a0 dJ0_coder_7d493_7 sl_J0_15 ?_
  refine hJ.goto (pc := 10) 14 dJ0_coder_7d493_10 (by decide) ?_
  cases hF
  exact hR.n (pc := 14) (by decide) dJ0_coder_7d493_14
set_option maxRecDepth 100000 in
set_option maxHeartbeats 4000000 in
theorem ctJ0_length_8abf5 (a0 : Nat) (hi_a0 : a0 < 2) (Sc Sm : Mem) (r : Int32) (hF : fJ0_length_8abf5 a0 = r) : Ct yJ0_length_8abf5 cJ0_length_8abf5 1 (some .int) 1 20 0 0 [vr 90 a0] wl0 L0 Sc Sm (some (vi r)) wl0 L0 Sc Sm := by
  refine Ct.of RJ0 false (by decide) rfl (fun h => by cases h) (Nat.le_of_ble_eq_true rfl) (fun J hJ hR => ?_)
  rw [fJ0_length_8abf5] at hF
  show J 0 [some (vr 90 a0)] [] wl0 L0 0 0 Sc Sm
  refine hJ.aload_n (pc := 0) dJ0_length_8abf5_0 rfl ?_
  refine hJ.getSV (pc := 1) hi_a0 dJ0_length_8abf5_1 sl_J0_9 ?_
  refine hJ.salen (pc := 4) (v := (Int32.ofNat (sLen.getD a0 0))) hi_a0 dJ0_length_8abf5_4 rfl ?_
  refine hJ.aload_n (pc := 5) dJ0_length_8abf5_5 rfl ?_
  refine hJ.cT (pc := 6) [] [vi (Int32.ofNat (sLen.getD a0 0))] [vi 0, vi (Int32.ofNat (sLen.getD a0 0))] hi_a0 dJ0_length_8abf5_6 lk_J0_335 (ctJ0_coder_7d493 a0 hi_a0 _ _ 0 rfl) rfl rfl rfl rfl ?_
  refine hJ.ishr (pc := 9) dJ0_length_8abf5_9 ?_
  cases hF
  exact hR.i (pc := 10) dJ0_length_8abf5_10
set_option maxRecDepth 100000 in
set_option maxHeartbeats 4000000 in
theorem ctJ1_canEncode_9a6ad (p0 : Int32) (Sc Sm : Mem) (r : Int32) (hF : fJ1_canEncode_9a6ad p0 = r) : Ct yJ1_canEncode_9a6ad cJ1_canEncode_9a6ad 1 (some .boolean) 0 0 0 0 [vi p0] wl0 L0 Sc Sm (some (vi r)) wl0 L0 Sc Sm := by
  refine Ct.of RJ1 false (by decide) rfl (fun h => by cases h) (Nat.le_of_ble_eq_true rfl) (fun J hJ hR => ?_)
  rw [fJ1_canEncode_9a6ad] at hF
  show J 0 [some (vi p0)] [] wl0 L0 0 0 Sc Sm
  refine hJ.iload_n (pc := 0) dJ1_canEncode_9a6ad_0 rfl ?_
  refine hJ.if_lt (pc := 1) 15 dJ1_canEncode_9a6ad_1 (by decide) (fun h1 => ?_) (fun h1 => ?_)
  · rw [if_pos h1] at hF
    refine hJ.iconst (pc := 15) 0 dJ1_canEncode_9a6ad_15 ic_0 ?_
    cases hF
    exact hR.n (pc := 16) (by decide) dJ1_canEncode_9a6ad_16
  · rw [if_neg h1] at hF
    refine hJ.iload_n (pc := 4) dJ1_canEncode_9a6ad_4 rfl ?_
    refine hJ.sipush (pc := 5) 255 dJ1_canEncode_9a6ad_5 sc_255 ?_
    refine hJ.icmp_gt (pc := 8) 15 dJ1_canEncode_9a6ad_8 (by decide) (fun h2 => ?_) (fun h2 => ?_)
    · rw [if_pos h2] at hF
      refine hJ.iconst (pc := 15) 0 dJ1_canEncode_9a6ad_15 ic_0 ?_
      cases hF
      exact hR.n (pc := 16) (by decide) dJ1_canEncode_9a6ad_16
    · rw [if_neg h2] at hF
      refine hJ.iconst (pc := 11) 1 dJ1_canEncode_9a6ad_11 ic_1 ?_
      refine hJ.goto (pc := 12) 16 dJ1_canEncode_9a6ad_12 (by decide) ?_
      cases hF
      exact hR.n (pc := 16) (by decide) dJ1_canEncode_9a6ad_16
set_option maxRecDepth 100000 in
set_option maxHeartbeats 4000000 in
theorem wJ1_indexOfChar_4cfef_7 {J : Nat → Lv → List AV → Obs → Lay → Nat → Nat → Mem → Mem → Prop} (hJ : Cl RJ1 cJ1_indexOfChar_4cfef 6 0 0 0 0 none false J) {r : Int32} {Sc Sm : Mem} (hR : Rk cJ1_indexOfChar_4cfef (some .int) (some (vi r)) wl0 L0 0 0 Sc Sm J) : ∀ (n : Nat) (c0 : Nat) (hi_c0 : c0 < 2) (x3 : Int32) (x4 : Int32) (x5 : Int32), fJ1_indexOfChar_4cfef_7 n c0 x3 x4 x5 = some r → J 7 [some (vr 91 c0), none, none, some (vi x3), some (vi x4), some (vi x5)] [] wl0 L0 0 0 Sc Sm := by
  intro n
  induction n with
  | zero =>
    intro c0 hi_c0 x3 x4 x5 hF
    rw [fJ1_indexOfChar_4cfef_7] at hF
    cases hF
  | succ n ih =>
    intro c0 hi_c0 x3 x4 x5 hF
    rw [fJ1_indexOfChar_4cfef_7] at hF
    refine hJ.iload (pc := 7) dJ1_indexOfChar_4cfef_7 rfl ?_
    refine hJ.iload_n (pc := 9) dJ1_indexOfChar_4cfef_9 rfl ?_
    refine hJ.icmp_ge (pc := 10) 31 dJ1_indexOfChar_4cfef_10 (by decide) (fun h1 => ?_) (fun h1 => ?_)
    · rw [if_pos h1] at hF
      refine hJ.iconst (pc := 31) (-1) dJ1_indexOfChar_4cfef_31 ic_m1 ?_
      cases hF
      exact hR.i (pc := 32) dJ1_indexOfChar_4cfef_32
    · rw [if_neg h1] at hF
      refine hJ.aload_n (pc := 13) dJ1_indexOfChar_4cfef_13 rfl ?_
      refine hJ.iload (pc := 14) dJ1_indexOfChar_4cfef_14 rfl ?_
      obtain ⟨j2, h3, hF⟩ := bn_some hF
      refine hJ.sbald (pc := 16) hi_c0 dJ1_indexOfChar_4cfef_16 h3 ?_
      refine hJ.iload (pc := 17) dJ1_indexOfChar_4cfef_17 rfl ?_
      refine hJ.icmp_ne (pc := 19) 25 dJ1_indexOfChar_4cfef_19 (by decide) (fun h4 => ?_) (fun h4 => ?_)
      · rw [if_neg h4] at hF
        refine hJ.iinc (pc := 25) (x5 + 1) [some (vr 91 c0), none, none, some (vi x3), some (vi x4), some (vi (x5 + 1))] dJ1_indexOfChar_4cfef_25 (by decide) rfl (congrArg (fun z => x5 + z) ic_1) rfl ?_
        refine hJ.goto (pc := 28) 7 dJ1_indexOfChar_4cfef_28 (by decide) ?_
        exact ih c0 hi_c0 x3 x4 (x5 + 1) hF
      · rw [if_pos h4] at hF
        refine hJ.iload (pc := 22) dJ1_indexOfChar_4cfef_22 rfl ?_
        cases hF
        exact hR.i (pc := 24) dJ1_indexOfChar_4cfef_24
set_option maxRecDepth 100000 in
set_option maxHeartbeats 4000000 in
theorem ctJ1_indexOfChar_4cfef (b0 : Nat) (p1 : Int32) (p2 : Int32) (p3 : Int32) (hi_b0 : b0 < 2) (Sc Sm : Mem) (r : Int32) (hF : fJ1_indexOfChar_4cfef b0 p1 p2 p3 = some r) : Ct yJ1_indexOfChar_4cfef cJ1_indexOfChar_4cfef 6 (some .int) 0 0 0 0 [vr 91 b0, vi p1, vi p2, vi p3] wl0 L0 Sc Sm (some (vi r)) wl0 L0 Sc Sm := by
  refine Ct.of RJ1 false (by decide) rfl (fun h => by cases h) (Nat.le_of_ble_eq_true rfl) (fun J hJ hR => ?_)
  rw [fJ1_indexOfChar_4cfef] at hF
  show J 0 [some (vr 91 b0), some (vi p1), some (vi p2), some (vi p3), none, none] [] wl0 L0 0 0 Sc Sm
  refine hJ.iload_n (pc := 0) dJ1_indexOfChar_4cfef_0 rfl ?_
  refine hJ.i2b (pc := 1) dJ1_indexOfChar_4cfef_1 ?_
  refine hJ.istore (pc := 2) [some (vr 91 b0), some (vi p1), some (vi p2), some (vi p3), some (vi p1.toInt8.toInt32), none] dJ1_indexOfChar_4cfef_2 (by decide) rfl ?_
  refine hJ.iload_n (pc := 4) dJ1_indexOfChar_4cfef_4 rfl ?_
  refine hJ.istore (pc := 5) [some (vr 91 b0), some (vi p1), some (vi p2), some (vi p3), some (vi p1.toInt8.toInt32), some (vi p2)] dJ1_indexOfChar_4cfef_5 (by decide) rfl ?_
  refine hJ.weak [some (vr 91 b0), none, none, some (vi p3), some (vi p1.toInt8.toInt32), some (vi p2)] ⟨rfl, rfl, rfl, rfl, trivial⟩ ?_
  exact wJ1_indexOfChar_4cfef_7 hJ hR 5000 b0 hi_b0 p3 p1.toInt8.toInt32 p2 hF
set_option maxRecDepth 100000 in
set_option maxHeartbeats 4000000 in
theorem ctJ1_indexOf_4cfef (b0 : Nat) (p1 : Int32) (p2 : Int32) (p3 : Int32) (hi_b0 : b0 < 2) (Sc Sm : Mem) (r : Int32) (hF : fJ1_indexOf_4cfef b0 p1 p2 p3 = some r) : Ct yJ1_indexOf_4cfef cJ1_indexOf_4cfef 4 (some .int) 1 25 0 0 [vr 91 b0, vi p1, vi p2, vi p3] wl0 L0 Sc Sm (some (vi r)) wl0 L0 Sc Sm := by
  refine Ct.of RJ1 false (by decide) rfl (fun h => by cases h) (Nat.le_of_ble_eq_true rfl) (fun J hJ hR => ?_)
  rw [fJ1_indexOf_4cfef] at hF
  show J 0 [some (vr 91 b0), some (vi p1), some (vi p2), some (vi p3)] [] wl0 L0 0 0 Sc Sm
  refine hJ.iload_n (pc := 0) dJ1_indexOf_4cfef_0 rfl ?_
  refine hJ.cS (pc := 1) [vi p1] [] [vi (fJ1_canEncode_9a6ad p1)] dJ1_indexOf_4cfef_1 lk_J1_88 (ctJ1_canEncode_9a6ad p1 _ _ (fJ1_canEncode_9a6ad p1) rfl) rfl rfl rfl rfl ?_
  refine hJ.if_ne (pc := 4) 9 dJ1_indexOf_4cfef_4 (by decide) (fun h1 => ?_) (fun h1 => ?_)
  · rw [if_neg h1] at hF
    refine hJ.iload_n (pc := 9) dJ1_indexOf_4cfef_9 rfl ?_
    refine hJ.iconst (pc := 10) 0 dJ1_indexOf_4cfef_10 ic_0 ?_
    refine hJ.mmax (pc := 11) dJ1_indexOf_4cfef_11 mw_J1_92 ⟨Nat.le_of_ble_eq_true rfl, Nat.le_of_ble_eq_true rfl, Nat.zero_le _, Nat.zero_le _⟩ ?_
    refine hJ.istore_n (pc := 14) [some (vr 91 b0), some (vi p1), some (vi (if p2 < 0 then 0 else p2)), some (vi p3)] dJ1_indexOf_4cfef_14 (by decide) rfl ?_
    refine hJ.iload_n (pc := 15) dJ1_indexOf_4cfef_15 rfl ?_
    refine hJ.aload_n (pc := 16) dJ1_indexOf_4cfef_16 rfl ?_
    refine hJ.salen (pc := 17) (v := (Int32.ofNat (sLen.getD b0 0))) hi_b0 dJ1_indexOf_4cfef_17 rfl ?_
    refine hJ.mmin (pc := 18) dJ1_indexOf_4cfef_18 mw_J1_38 ⟨Nat.le_of_ble_eq_true rfl, Nat.le_of_ble_eq_true rfl, Nat.zero_le _, Nat.zero_le _⟩ ?_
    refine hJ.istore_n (pc := 21) [some (vr 91 b0), some (vi p1), some (vi (if p2 < 0 then 0 else p2)), some (vi (if (Int32.ofNat (sLen.getD b0 0)) < p3 then (Int32.ofNat (sLen.getD b0 0)) else p3))] dJ1_indexOf_4cfef_21 (by decide) rfl ?_
    refine hJ.iload_n (pc := 22) dJ1_indexOf_4cfef_22 rfl ?_
    refine hJ.iload_n (pc := 23) dJ1_indexOf_4cfef_23 rfl ?_
    refine hJ.icmp_lt (pc := 24) 29 dJ1_indexOf_4cfef_24 (by decide) (fun h2 => ?_) (fun h2 => ?_)
    · rw [if_pos h2] at hF
      refine hJ.aload_n (pc := 29) dJ1_indexOf_4cfef_29 rfl ?_
      refine hJ.iload_n (pc := 30) dJ1_indexOf_4cfef_30 rfl ?_
      refine hJ.iload_n (pc := 31) dJ1_indexOf_4cfef_31 rfl ?_
      refine hJ.iload_n (pc := 32) dJ1_indexOf_4cfef_32 rfl ?_
      obtain ⟨r4, h3, hF⟩ := bn_some hF
      refine hJ.cS (pc := 33) [vr 91 b0, vi p1, vi (if p2 < 0 then 0 else p2), vi (if (Int32.ofNat (sLen.getD b0 0)) < p3 then (Int32.ofNat (sLen.getD b0 0)) else p3)] [] [vi r4] dJ1_indexOf_4cfef_33 lk_J1_95 (ctJ1_indexOfChar_4cfef b0 p1 (if p2 < 0 then 0 else p2) (if (Int32.ofNat (sLen.getD b0 0)) < p3 then (Int32.ofNat (sLen.getD b0 0)) else p3) hi_b0 _ _ _ h3) rfl rfl rfl rfl ?_
      cases hF
      exact hR.i (pc := 36) dJ1_indexOf_4cfef_36
    · rw [if_neg h2] at hF
      refine hJ.iconst (pc := 27) (-1) dJ1_indexOf_4cfef_27 ic_m1 ?_
      cases hF
      exact hR.i (pc := 28) dJ1_indexOf_4cfef_28
  · rw [if_pos h1] at hF
    refine hJ.iconst (pc := 7) (-1) dJ1_indexOf_4cfef_7 ic_m1 ?_
    cases hF
    exact hR.i (pc := 8) dJ1_indexOf_4cfef_8
set_option maxRecDepth 100000 in
set_option maxHeartbeats 4000000 in
theorem ctJ0_indexOf_7cf53 (a0 : Nat) (p0 : Int32) (p1 : Int32) (hi_a0 : a0 < 2) (Sc Sm : Mem) (r : Int32) (hF : fJ0_indexOf_7cf53 a0 p0 p1 = some r) : Ct yJ0_indexOf_7cf53 cJ0_indexOf_7cf53 3 (some .int) 2 48 0 0 [vr 90 a0, vi p0, vi p1] wl0 L0 Sc Sm (some (vi r)) wl0 L0 Sc Sm := by
  refine Ct.of RJ0 false (by decide) rfl (fun h => by cases h) (Nat.le_of_ble_eq_true rfl) (fun J hJ hR => ?_)
  rw [fJ0_indexOf_7cf53] at hF
  show J 0 [some (vr 90 a0), some (vi p0), some (vi p1)] [] wl0 L0 0 0 Sc Sm
  refine hJ.aload_n (pc := 0) dJ0_indexOf_7cf53_0 rfl ?_
  refine hJ.cT (pc := 1) [] [] [vi 1] hi_a0 dJ0_indexOf_7cf53_1 lk_J0_492 (ctJ0_isLatin1_aae02 a0 hi_a0 _ _ 1 rfl) rfl rfl rfl rfl ?_
  refine hJ.if_eq (pc := 4) 23 dJ0_indexOf_7cf53_4 (by decide) (fun h0 => absurd h0 (by decide)) (fun _ => ?_)
  refine hJ.aload_n (pc := 7) dJ0_indexOf_7cf53_7 rfl ?_
  refine hJ.getSV (pc := 8) hi_a0 dJ0_indexOf_7cf53_8 sl_J0_9 ?_
  refine hJ.iload_n (pc := 11) dJ0_indexOf_7cf53_11 rfl ?_
  refine hJ.iload_n (pc := 12) dJ0_indexOf_7cf53_12 rfl ?_
  refine hJ.aload_n (pc := 13) dJ0_indexOf_7cf53_13 rfl ?_
  refine hJ.cT (pc := 14) [] [vi p1, vi p0, vr 91 a0] [vi (fJ0_length_8abf5 a0), vi p1, vi p0, vr 91 a0] hi_a0 dJ0_indexOf_7cf53_14 lk_J0_505 (ctJ0_length_8abf5 a0 hi_a0 _ _ (fJ0_length_8abf5 a0) rfl) rfl rfl rfl rfl ?_
  obtain ⟨r2, h1, hF⟩ := bn_some hF
  refine hJ.cS (pc := 17) [vr 91 a0, vi p0, vi p1, vi (fJ0_length_8abf5 a0)] [] [vi r2] dJ0_indexOf_7cf53_17 lk_J0_637 (ctJ1_indexOf_4cfef a0 p0 p1 (fJ0_length_8abf5 a0) hi_a0 _ _ _ h1) rfl rfl rfl rfl ?_
  refine hJ.goto (pc := 20) 36 dJ0_indexOf_7cf53_20 (by decide) ?_
  cases hF
  exact hR.i (pc := 36) dJ0_indexOf_7cf53_36
set_option maxRecDepth 100000 in
set_option maxHeartbeats 4000000 in
theorem ctJ0_indexOf_0f7a4 (a0 : Nat) (p0 : Int32) (hi_a0 : a0 < 2) (Sc Sm : Mem) (r : Int32) (hF : fJ0_indexOf_0f7a4 a0 p0 = some r) : Ct yJ0_indexOf_0f7a4 cJ0_indexOf_0f7a4 2 (some .int) 3 70 0 0 [vr 90 a0, vi p0] wl0 L0 Sc Sm (some (vi r)) wl0 L0 Sc Sm := by
  refine Ct.of RJ0 false (by decide) rfl (fun h => by cases h) (Nat.le_of_ble_eq_true rfl) (fun J hJ hR => ?_)
  rw [fJ0_indexOf_0f7a4] at hF
  show J 0 [some (vr 90 a0), some (vi p0)] [] wl0 L0 0 0 Sc Sm
  refine hJ.aload_n (pc := 0) dJ0_indexOf_0f7a4_0 rfl ?_
  refine hJ.iload_n (pc := 1) dJ0_indexOf_0f7a4_1 rfl ?_
  refine hJ.iconst (pc := 2) 0 dJ0_indexOf_0f7a4_2 ic_0 ?_
  obtain ⟨r2, h1, hF⟩ := bn_some hF
  refine hJ.cT (pc := 3) [vi p0, vi 0] [] [vi r2] hi_a0 dJ0_indexOf_0f7a4_3 lk_J0_633 (ctJ0_indexOf_7cf53 a0 p0 0 hi_a0 _ _ _ h1) rfl rfl rfl rfl ?_
  cases hF
  exact hR.i (pc := 6) dJ0_indexOf_0f7a4_6
set_option maxRecDepth 100000 in
set_option maxHeartbeats 4000000 in
theorem wX9_takeSign_21 {J : Nat → Lv → List AV → Obs → Lay → Nat → Nat → Mem → Mem → Prop} (hJ : Cl RX9 cX9_takeSign 3 4 91 0 0 none false J) {Sm S' : Mem} (hR : Rk cX9_takeSign none none wl0 L0 0 0 S' Sm J) (y0 : Int32) (S : Mem) (hF : fX9_takeSign_21 y0 S = some (S')) : J 21 [some (vr 9 0), none, none] [vi y0, vr 9 0] wl0 L0 0 0 S Sm := by
  rw [fX9_takeSign_21] at hF
  refine hJ.pI (pc := 21) dX9_takeSign_21 fp_X9_18 ?_
  refine hJ.aload_n (pc := 24) dX9_takeSign_24 rfl ?_
  refine hJ.aload_n (pc := 25) dX9_takeSign_25 rfl ?_
  refine hJ.gI (pc := 26) dX9_takeSign_26 fi_X9_11 ?_
  refine hJ.iconst (pc := 29) 1 dX9_takeSign_29 ic_1 ?_
  refine hJ.iadd (pc := 30) dX9_takeSign_30 ?_
  refine hJ.pI (pc := 31) dX9_takeSign_31 fp_X9_15 ?_
  cases hF
  exact hR.v (pc := 34) dX9_takeSign_34
set_option maxRecDepth 100000 in
set_option maxHeartbeats 4000000 in
theorem ctX9_takeSign (p0 : Int32) (S Sm : Mem) (S' : Mem) (hF : fX9_takeSign p0 S = some (S')) : Ct yX9_takeSign cX9_takeSign 3 none 4 91 0 0 [vr 9 0, vi p0] wl0 L0 S Sm none wl0 L0 S' Sm := by
  refine Ct.of RX9 false (by decide) rfl (fun h => by cases h) (Nat.le_of_ble_eq_true rfl) (fun J hJ hR => ?_)
  rw [fX9_takeSign] at hF
  show J 0 [some (vr 9 0), some (vi p0), none] [] wl0 L0 0 0 S Sm
  refine hJ.ldcS (pc := 0) (i := 1) (by decide) dX9_takeSign_0 ?_
  refine hJ.iload_n (pc := 2) dX9_takeSign_2 rfl ?_
  refine hJ.i2c (pc := 3) dX9_takeSign_3 ?_
  obtain ⟨r2, h1, hF⟩ := bn_some hF
  refine hJ.cT (pc := 4) [vi (i2c p0)] [] [vi r2] (by decide) dX9_takeSign_4 lk_X9_68 (ctJ0_indexOf_0f7a4 1 (i2c p0) (by decide) _ _ _ h1) rfl rfl rfl rfl ?_
  refine hJ.istore_n (pc := 7) [some (vr 9 0), some (vi p0), some (vi r2)] dX9_takeSign_7 (by decide) rfl ?_
  refine hJ.aload_n (pc := 8) dX9_takeSign_8 rfl ?_
  refine hJ.iload_n (pc := 9) dX9_takeSign_9 rfl ?_
  refine hJ.if_ge (pc := 10) 17 dX9_takeSign_10 (by decide) (fun h3 => ?_) (fun h3 => ?_)
  · rw [if_pos h3] at hF
    refine hJ.bipush (pc := 17) 17 dX9_takeSign_17 bc_17 ?_
    refine hJ.iload_n (pc := 19) dX9_takeSign_19 rfl ?_
    refine hJ.iadd (pc := 20) dX9_takeSign_20 ?_
    refine hJ.weak [some (vr 9 0), none, none] ⟨rfl, trivial⟩ ?_
    exact wX9_takeSign_21 hJ hR (17 + r2) S hF
  · rw [if_neg h3] at hF
    refine hJ.iconst (pc := 13) 1 dX9_takeSign_13 ic_1 ?_
    refine hJ.goto (pc := 14) 21 dX9_takeSign_14 (by decide) ?_
    refine hJ.weak [some (vr 9 0), none, none] ⟨rfl, trivial⟩ ?_
    exact wX9_takeSign_21 hJ hR 1 S hF
set_option maxRecDepth 100000 in
set_option maxHeartbeats 4000000 in
theorem wX9_takeNumber_66 {J : Nat → Lv → List AV → Obs → Lay → Nat → Nat → Mem → Mem → Prop} (hJ : Cl RX9 cX9_takeNumber 2 2 43 0 0 none false J) {Sm S' : Mem} (hR : Rk cX9_takeNumber none none wl0 L0 0 0 S' Sm J) (S : Mem) (hF : fX9_takeNumber_66 S = some (S')) : J 66 [some (vr 9 0), none] [] wl0 L0 0 0 S Sm := by
  rw [fX9_takeNumber_66] at hF
  refine hJ.aload_n (pc := 66) dX9_takeNumber_66 rfl ?_
  refine hJ.aload_n (pc := 67) dX9_takeNumber_67 rfl ?_
  refine hJ.gI (pc := 68) dX9_takeNumber_68 fi_X9_15 ?_
  refine hJ.aload_n (pc := 71) dX9_takeNumber_71 rfl ?_
  refine hJ.gI (pc := 72) dX9_takeNumber_72 fi_X9_11 ?_
  refine hJ.isub (pc := 75) dX9_takeNumber_75 ?_
  refine hJ.iconst (pc := 76) 4 dX9_takeNumber_76 ic_4 ?_
  refine hJ.icmp_gt (pc := 77) 84 dX9_takeNumber_77 (by decide) (fun h2 => ?_) (fun h2 => ?_)
  · rw [if_pos h2] at hF
    refine hJ.iconst (pc := 84) 1 dX9_takeNumber_84 ic_1 ?_
    refine hJ.pI (pc := 85) dX9_takeNumber_85 fp_X9_18 ?_
    cases hF
    exact hR.v (pc := 88) dX9_takeNumber_88
  · rw [if_neg h2] at hF
    refine hJ.iconst (pc := 80) 2 dX9_takeNumber_80 ic_2 ?_
    refine hJ.goto (pc := 81) 85 dX9_takeNumber_81 (by decide) ?_
    refine hJ.pI (pc := 85) dX9_takeNumber_85 fp_X9_18 ?_
    cases hF
    exact hR.v (pc := 88) dX9_takeNumber_88
set_option maxRecDepth 100000 in
set_option maxHeartbeats 4000000 in
theorem wX9_takeNumber_5 {J : Nat → Lv → List AV → Obs → Lay → Nat → Nat → Mem → Mem → Prop} (hJ : Cl RX9 cX9_takeNumber 2 2 43 0 0 none false J) {Sm S' : Mem} (hR : Rk cX9_takeNumber none none wl0 L0 0 0 S' Sm J) : ∀ (n : Nat) (S : Mem), fX9_takeNumber_5 n S = some (S') → J 5 [some (vr 9 0), some (vr 7 0)] [] wl0 L0 0 0 S Sm := by
  intro n
  induction n with
  | zero =>
    intro  S hF
    rw [fX9_takeNumber_5] at hF
    cases hF
  | succ n ih =>
    intro  S hF
    rw [fX9_takeNumber_5] at hF
    refine hJ.aload_n (pc := 5) dX9_takeNumber_5 rfl ?_
    refine hJ.gI (pc := 6) dX9_takeNumber_6 fi_X9_15 ?_
    refine hJ.aload_n (pc := 9) dX9_takeNumber_9 rfl ?_
    refine hJ.gI (pc := 10) dX9_takeNumber_10 fi_X9_24 ?_
    refine hJ.icmp_ge (pc := 13) 66 dX9_takeNumber_13 (by decide) (fun h1 => ?_) (fun h1 => ?_)
    · rw [if_pos h1] at hF
      refine hJ.weak [some (vr 9 0), none] ⟨rfl, trivial⟩ ?_
      exact wX9_takeNumber_66 hJ hR S hF
    · rw [if_neg h1] at hF
      refine hJ.aload_n (pc := 16) dX9_takeNumber_16 rfl ?_
      refine hJ.aload_n (pc := 17) dX9_takeNumber_17 rfl ?_
      refine hJ.gI (pc := 18) dX9_takeNumber_18 fi_X9_15 ?_
      obtain ⟨r4, h3, hF⟩ := bn_some hF
      refine hJ.cV (pc := 21) [vi (S 9 0 1)] [] [vi r4] dX9_takeNumber_21 lk_X9_29 (ctX7_signAt (S 9 0 1) _ _ _ h3) rfl rfl rfl rfl ?_
      refine hJ.cS (pc := 24) [vi r4] [] [vi (fX9_isDigit r4)] dX9_takeNumber_24 lk_X9_44 (ctX9_isDigit r4 _ _ (fX9_isDigit r4) rfl) rfl rfl rfl rfl ?_
      refine hJ.if_eq (pc := 27) 66 dX9_takeNumber_27 (by decide) (fun h5 => ?_) (fun h5 => ?_)
      · rw [if_pos h5] at hF
        refine hJ.weak [some (vr 9 0), none] ⟨rfl, trivial⟩ ?_
        exact wX9_takeNumber_66 hJ hR S hF
      · rw [if_neg h5] at hF
        refine hJ.aload_n (pc := 30) dX9_takeNumber_30 rfl ?_
        refine hJ.aload_n (pc := 31) dX9_takeNumber_31 rfl ?_
        refine hJ.gI (pc := 32) dX9_takeNumber_32 fi_X9_21 ?_
        refine hJ.bipush (pc := 35) 10 dX9_takeNumber_35 bc_10 ?_
        refine hJ.imul (pc := 37) dX9_takeNumber_37 ?_
        refine hJ.aload_n (pc := 38) dX9_takeNumber_38 rfl ?_
        refine hJ.aload_n (pc := 39) dX9_takeNumber_39 rfl ?_
        refine hJ.gI (pc := 40) dX9_takeNumber_40 fi_X9_15 ?_
        obtain ⟨r7, h6, hF⟩ := bn_some hF
        refine hJ.cV (pc := 43) [vi (S 9 0 1)] [vi ((S 9 0 3) * 10), vr 9 0] [vi r7, vi ((S 9 0 3) * 10), vr 9 0] dX9_takeNumber_43 lk_X9_29 (ctX7_signAt (S 9 0 1) _ _ _ h6) rfl rfl rfl rfl ?_
        refine hJ.iadd (pc := 46) dX9_takeNumber_46 ?_
        refine hJ.bipush (pc := 47) 48 dX9_takeNumber_47 bc_48 ?_
        refine hJ.isub (pc := 49) dX9_takeNumber_49 ?_
        refine hJ.pI (pc := 50) dX9_takeNumber_50 fp_X9_21 ?_
        refine hJ.aload_n (pc := 53) dX9_takeNumber_53 rfl ?_
        refine hJ.dup (pc := 54) dX9_takeNumber_54 ?_
        refine hJ.gI (pc := 55) dX9_takeNumber_55 fi_X9_15 ?_
        refine hJ.iconst (pc := 58) 1 dX9_takeNumber_58 ic_1 ?_
        refine hJ.iadd (pc := 59) dX9_takeNumber_59 ?_
        refine hJ.pI (pc := 60) dX9_takeNumber_60 fp_X9_15 ?_
        refine hJ.goto (pc := 63) 5 dX9_takeNumber_63 (by decide) ?_
        exact ih (up (up S 9 0 3 ((((S 9 0 3) * 10) + r7) - 48)) 9 0 1 (((up S 9 0 3 ((((S 9 0 3) * 10) + r7) - 48)) 9 0 1) + 1)) hF
set_option maxRecDepth 100000 in
set_option maxHeartbeats 4000000 in
theorem ctX9_takeNumber (S Sm : Mem) (S' : Mem) (hF : fX9_takeNumber S = some (S')) : Ct yX9_takeNumber cX9_takeNumber 2 none 2 43 0 0 [vr 9 0, vr 7 0] wl0 L0 S Sm none wl0 L0 S' Sm := by
  refine Ct.of RX9 false (by decide) rfl (fun h => by cases h) (Nat.le_of_ble_eq_true rfl) (fun J hJ hR => ?_)
  rw [fX9_takeNumber] at hF
  show J 0 [some (vr 9 0), some (vr 7 0)] [] wl0 L0 0 0 S Sm
  refine hJ.aload_n (pc := 0) dX9_takeNumber_0 rfl ?_
  refine hJ.iconst (pc := 1) 0 dX9_takeNumber_1 ic_0 ?_
  refine hJ.pI (pc := 2) dX9_takeNumber_2 fp_X9_21 ?_
  exact wX9_takeNumber_5 hJ hR 5000 (up S 9 0 3 0) hF
set_option maxRecDepth 100000 in
set_option maxHeartbeats 4000000 in
theorem ctJ3_checkIndex_8e157 (p0 : Int32) (p1 : Int32) (o2 : Option (Nat × Nat)) (Sc Sm : Mem) (r : Int32) (hF : fJ3_checkIndex_8e157 p0 p1 = some r) : Ct yJ3_checkIndex_8e157 cJ3_checkIndex_8e157 3 (some .int) 0 0 0 0 [vi p0, vi p1, .inr o2] wl0 L0 Sc Sm (some (vi r)) wl0 L0 Sc Sm := by
  refine Ct.of RJ3 false (by decide) rfl (fun h => by cases h) (Nat.le_of_ble_eq_true rfl) (fun J hJ hR => ?_)
  rw [fJ3_checkIndex_8e157] at hF
  show J 0 [some (vi p0), some (vi p1), some (.inr o2)] [] wl0 L0 0 0 Sc Sm
  refine hJ.iload_n (pc := 0) dJ3_checkIndex_8e157_0 rfl ?_
  refine hJ.if_lt (pc := 1) 9 dJ3_checkIndex_8e157_1 (by decide) (fun h1 => ?_) (fun h1 => ?_)
  · rw [if_pos h1] at hF
    refine hJ.aload_n (pc := 9) dJ3_checkIndex_8e157_9 rfl ?_
    refine hJ.iload_n (pc := 10) dJ3_checkIndex_8e157_10 rfl ?_
    refine hJ.iload_n (pc := 11) dJ3_checkIndex_8e157_11 rfl ?_
    cases hF
  · rw [if_neg h1] at hF
    refine hJ.iload_n (pc := 4) dJ3_checkIndex_8e157_4 rfl ?_
    refine hJ.iload_n (pc := 5) dJ3_checkIndex_8e157_5 rfl ?_
    refine hJ.icmp_lt (pc := 6) 16 dJ3_checkIndex_8e157_6 (by decide) (fun h2 => ?_) (fun h2 => ?_)
    · rw [if_pos h2] at hF
      refine hJ.iload_n (pc := 16) dJ3_checkIndex_8e157_16 rfl ?_
      cases hF
      exact hR.i (pc := 17) dJ3_checkIndex_8e157_17
    · rw [if_neg h2] at hF
      refine hJ.aload_n (pc := 9) dJ3_checkIndex_8e157_9 rfl ?_
      refine hJ.iload_n (pc := 10) dJ3_checkIndex_8e157_10 rfl ?_
      refine hJ.iload_n (pc := 11) dJ3_checkIndex_8e157_11 rfl ?_
      cases hF
set_option maxRecDepth 100000 in
set_option maxHeartbeats 4000000 in
theorem ctJ0_checkIndex_df160 (p0 : Int32) (p1 : Int32) (Sc Sm : Mem) (hF : fJ0_checkIndex_df160 p0 p1 = some ()) : Ct yJ0_checkIndex_df160 cJ0_checkIndex_df160 2 none 1 22 0 0 [vi p0, vi p1] wl0 L0 Sc Sm none wl0 L0 Sc Sm := by
  refine Ct.of RJ0 false (by decide) rfl (fun h => by cases h) (Nat.le_of_ble_eq_true rfl) (fun J hJ hR => ?_)
  rw [fJ0_checkIndex_df160] at hF
  show J 0 [some (vi p0), some (vi p1)] [] wl0 L0 0 0 Sc Sm
  refine hJ.iload_n (pc := 0) dJ0_checkIndex_df160_0 rfl ?_
  refine hJ.iload_n (pc := 1) dJ0_checkIndex_df160_1 rfl ?_
  refine hJ.getSF (pc := 2) dJ0_checkIndex_df160_2 sl_J0_1053 (fun o1 => ?_)
  obtain ⟨r3, h2, hF⟩ := bn_some hF
  refine hJ.cS (pc := 5) [vi p0, vi p1, .inr o1] [] [vi r3] dJ0_checkIndex_df160_5 lk_J0_1059 (ctJ3_checkIndex_8e157 p0 p1 o1 _ _ _ h2) rfl rfl rfl rfl ?_
  refine hJ.pop (pc := 8) dJ0_checkIndex_df160_8 ?_
  cases hF
  exact hR.v (pc := 9) dJ0_checkIndex_df160_9
set_option maxRecDepth 100000 in
set_option maxHeartbeats 4000000 in
theorem ctJ1_charAt_3b067 (b0 : Nat) (p1 : Int32) (hi_b0 : b0 < 2) (Sc Sm : Mem) (r : Int32) (hF : fJ1_charAt_3b067 b0 p1 = some r) : Ct yJ1_charAt_3b067 cJ1_charAt_3b067 2 (some .char) 2 43 0 0 [vr 91 b0, vi p1] wl0 L0 Sc Sm (some (vi r)) wl0 L0 Sc Sm := by
  refine Ct.of RJ1 false (by decide) rfl (fun h => by cases h) (Nat.le_of_ble_eq_true rfl) (fun J hJ hR => ?_)
  rw [fJ1_charAt_3b067] at hF
  show J 0 [some (vr 91 b0), some (vi p1)] [] wl0 L0 0 0 Sc Sm
  refine hJ.iload_n (pc := 0) dJ1_charAt_3b067_0 rfl ?_
  refine hJ.aload_n (pc := 1) dJ1_charAt_3b067_1 rfl ?_
  refine hJ.salen (pc := 2) (v := (Int32.ofNat (sLen.getD b0 0))) hi_b0 dJ1_charAt_3b067_2 rfl ?_
  obtain ⟨_, h1, hF⟩ := bn_some hF
  refine hJ.cS (pc := 3) [vi p1, vi (Int32.ofNat (sLen.getD b0 0))] [] [] dJ1_charAt_3b067_3 lk_J1_9 (ctJ0_checkIndex_df160 p1 (Int32.ofNat (sLen.getD b0 0)) _ _ h1) rfl rfl rfl rfl ?_
  refine hJ.aload_n (pc := 6) dJ1_charAt_3b067_6 rfl ?_
  refine hJ.iload_n (pc := 7) dJ1_charAt_3b067_7 rfl ?_
  obtain ⟨j2, h3, hF⟩ := bn_some hF
  refine hJ.sbald (pc := 8) hi_b0 dJ1_charAt_3b067_8 h3 ?_
  refine hJ.sipush (pc := 9) 255 dJ1_charAt_3b067_9 sc_255 ?_
  refine hJ.iand (pc := 12) dJ1_charAt_3b067_12 ?_
  refine hJ.i2c (pc := 13) dJ1_charAt_3b067_13 ?_
  cases hF
  exact hR.n (pc := 14) (pk_nc _) dJ1_charAt_3b067_14
set_option maxRecDepth 100000 in
set_option maxHeartbeats 4000000 in
theorem ctJ0_charAt_5068e (a0 : Nat) (p0 : Int32) (hi_a0 : a0 < 2) (Sc Sm : Mem) (r : Int32) (hF : fJ0_charAt_5068e a0 p0 = some r) : Ct yJ0_charAt_5068e cJ0_charAt_5068e 2 (some .char) 3 64 0 0 [vr 90 a0, vi p0] wl0 L0 Sc Sm (some (vi r)) wl0 L0 Sc Sm := by
  refine Ct.of RJ0 false (by decide) rfl (fun h => by cases h) (Nat.le_of_ble_eq_true rfl) (fun J hJ hR => ?_)
  rw [fJ0_charAt_5068e] at hF
  show J 0 [some (vr 90 a0), some (vi p0)] [] wl0 L0 0 0 Sc Sm
  refine hJ.aload_n (pc := 0) dJ0_charAt_5068e_0 rfl ?_
  refine hJ.cT (pc := 1) [] [] [vi 1] hi_a0 dJ0_charAt_5068e_1 lk_J0_492 (ctJ0_isLatin1_aae02 a0 hi_a0 _ _ 1 rfl) rfl rfl rfl rfl ?_
  refine hJ.if_eq (pc := 4) 16 dJ0_charAt_5068e_4 (by decide) (fun h0 => absurd h0 (by decide)) (fun _ => ?_)
  refine hJ.aload_n (pc := 7) dJ0_charAt_5068e_7 rfl ?_
  refine hJ.getSV (pc := 8) hi_a0 dJ0_charAt_5068e_8 sl_J0_9 ?_
  refine hJ.iload_n (pc := 11) dJ0_charAt_5068e_11 rfl ?_
  obtain ⟨r2, h1, hF⟩ := bn_some hF
  refine hJ.cS (pc := 12) [vr 91 a0, vi p0] [] [vi r2] dJ0_charAt_5068e_12 lk_J0_495 (ctJ1_charAt_3b067 a0 p0 hi_a0 _ _ _ h1) rfl rfl rfl rfl ?_
  obtain ⟨h3, hF⟩ := gd_some hF
  cases hF
  exact hR.n (pc := 15) h3 dJ0_charAt_5068e_15
