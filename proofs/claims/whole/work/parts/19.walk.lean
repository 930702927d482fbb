set_option maxRecDepth 100000 in
set_option maxHeartbeats 4000000 in
theorem ctX11_leaps (p0 : Int32) (p1 : Int32) (p2 : Int32) (S Sm : Mem) (r : Int32) (hF : fX11_leaps p0 p1 p2 S = some r) : Ct yX11_leaps cX11_leaps 4 (some .int) 5 114 0 0 [vr 11 0, vi p0, vi p1, vi p2] wl0 L0 S Sm (some (vi r)) wl0 L0 S Sm := by
  refine Ct.of RX11 false (by decide) rfl (fun h => by cases h) (Nat.le_of_ble_eq_true rfl) (fun J hJ hR => ?_)
  rw [fX11_leaps] at hF
  show J 0 [some (vr 11 0), some (vi p0), some (vi p1), some (vi p2)] [] wl0 L0 0 0 S Sm
  refine hJ.iload_n (pc := 0) dX11_leaps_0 rfl ?_
  refine hJ.iconst (pc := 1) 0 dX11_leaps_1 ic_0 ?_
  refine hJ.iconst (pc := 2) 3 dX11_leaps_2 ic_3 ?_
  refine hJ.cS (pc := 3) [vi p0, vi 0, vi 3] [] [vi (fX11_within p0 0 3)] dX11_leaps_3 lk_X11_56 (ctX11_within p0 0 3 _ _ (fX11_within p0 0 3) rfl) rfl rfl rfl rfl ?_
  refine hJ.if_eq (pc := 6) 20 dX11_leaps_6 (by decide) (fun h1 => ?_) (fun h1 => ?_)
  · rw [if_pos h1] at hF
    refine hJ.iconst (pc := 20) (-1) dX11_leaps_20 ic_m1 ?_
    cases hF
    exact hR.i (pc := 21) dX11_leaps_21
  · rw [if_neg h1] at hF
    refine hJ.iload_n (pc := 9) dX11_leaps_9 rfl ?_
    refine hJ.iconst (pc := 10) 0 dX11_leaps_10 ic_0 ?_
    refine hJ.sipush (pc := 11) 999 dX11_leaps_11 sc_999 ?_
    refine hJ.cS (pc := 14) [vi p1, vi 0, vi 999] [] [vi (fX11_within p1 0 999)] dX11_leaps_14 lk_X11_56 (ctX11_within p1 0 999 _ _ (fX11_within p1 0 999) rfl) rfl rfl rfl rfl ?_
    refine hJ.if_ne (pc := 17) 22 dX11_leaps_17 (by decide) (fun h2 => ?_) (fun h2 => ?_)
    · rw [if_neg h2] at hF
      refine hJ.iload_n (pc := 22) dX11_leaps_22 rfl ?_
      by_cases h3 : p2 = 0
      · rw [if_pos h3] at hF
        refine hJ.lsw (pc := 23) (off := (25)) 48 dX11_leaps_23 (by decide) (by rw [h3]; decide) (by decide) ?_
        refine hJ.aload_n (pc := 48) dX11_leaps_48 rfl ?_
        refine hJ.gR (pc := 49) (k' := 0) (i' := 0) dX11_leaps_49 fr_X11_10 rfl ?_
        refine hJ.iload_n (pc := 52) dX11_leaps_52 rfl ?_
        refine hJ.iload_n (pc := 53) dX11_leaps_53 rfl ?_
        obtain ⟨r5, h4, hF⟩ := bn_some hF
        refine hJ.cV (pc := 54) [vi p0, vi p1] [] [vi r5] dX11_leaps_54 lk_X11_271 (ctX0_countLeaps p0 p1 _ _ _ h4) rfl rfl rfl rfl ?_
        cases hF
        exact hR.i (pc := 57) dX11_leaps_57
      · rw [if_neg h3] at hF
        by_cases h6 : p2 = 1
        · rw [if_pos h6] at hF
          refine hJ.lsw (pc := 23) (off := (35)) 58 dX11_leaps_23 (by decide) (by rw [h6]; decide) (by decide) ?_
          refine hJ.aload_n (pc := 58) dX11_leaps_58 rfl ?_
          refine hJ.gR (pc := 59) (k' := 0) (i' := 0) dX11_leaps_59 fr_X11_10 rfl ?_
          refine hJ.iload_n (pc := 62) dX11_leaps_62 rfl ?_
          refine hJ.iload_n (pc := 63) dX11_leaps_63 rfl ?_
          obtain ⟨r8, h7, hF⟩ := bn_some hF
          refine hJ.cV (pc := 64) [vi p0, vi p1] [] [vi r8] dX11_leaps_64 lk_X11_274 (ctX0_firstLeap p0 p1 _ _ _ h7) rfl rfl rfl rfl ?_
          cases hF
          exact hR.i (pc := 67) dX11_leaps_67
        · rw [if_neg h6] at hF
          refine hJ.lsw (pc := 23) (off := (45)) 68 dX11_leaps_23 (by decide) (by show Op.lookupswitch.offset [(0, 25), (1, 35)] _ _ = _; rw [lv_osw (k := 0) h3 (by decide), lv_osw (k := 1) h6 (by decide)]; rfl) (by decide) ?_
          refine hJ.iconst (pc := 68) (-1) dX11_leaps_68 ic_m1 ?_
          cases hF
          exact hR.i (pc := 69) dX11_leaps_69
    · rw [if_pos h2] at hF
      refine hJ.iconst (pc := 20) (-1) dX11_leaps_20 ic_m1 ?_
      cases hF
      exact hR.i (pc := 21) dX11_leaps_21
set_option maxRecDepth 100000 in
set_option maxHeartbeats 4000000 in
theorem ctX11_next (S Sm : Mem) (r : Int32) (hF : fX11_next S = some r) : Ct yX11_next cX11_next 1 (some .int) 3 66 0 0 [vr 11 0] wl0 L0 S Sm (some (vi r)) wl0 L0 S Sm := by
  refine Ct.of RX11 false (by decide) rfl (fun h => by cases h) (Nat.le_of_ble_eq_true rfl) (fun J hJ hR => ?_)
  rw [fX11_next] at hF
  show J 0 [some (vr 11 0)] [] wl0 L0 0 0 S Sm
  refine hJ.aload_n (pc := 0) dX11_next_0 rfl ?_
  refine hJ.gR (pc := 1) (k' := 0) (i' := 0) dX11_next_1 fr_X11_10 rfl ?_
  obtain ⟨r2, h1, hF⟩ := bn_some hF
  refine hJ.cV (pc := 4) [] [] [vi r2] dX11_next_4 lk_X11_277 (ctX0_nextForLease _ _ _ h1) rfl rfl rfl rfl ?_
  cases hF
  exact hR.i (pc := 7) dX11_next_7
set_option maxRecDepth 100000 in
set_option maxHeartbeats 4000000 in
theorem wX0_agesOn_4 {J : Nat → Lv → List AV → Obs → Lay → Nat → Nat → Mem → Mem → Prop} (hJ : Cl RX0 cX0_agesOn 4 4 94 0 0 none false J) {r : Int32} {Sm S' : Mem} (hR : Rk cX0_agesOn (some .int) (some (vi r)) wl0 L0 0 0 S' Sm J) : ∀ (n : Nat) (x1 : Int32) (x2 : Int32) (x3 : Int32) (S : Mem), fX0_agesOn_4 n x1 x2 x3 S = some (r, S') → J 4 [some (vr 0 0), some (vi x1), some (vi x2), some (vi x3)] [] wl0 L0 0 0 S Sm := by
  intro n
  induction n with
  | zero =>
    intro x1 x2 x3 S hF
    rw [fX0_agesOn_4] at hF
    cases hF
  | succ n ih =>
    intro x1 x2 x3 S hF
    rw [fX0_agesOn_4] at hF
    refine hJ.iload_n (pc := 4) dX0_agesOn_4 rfl ?_
    refine hJ.aload_n (pc := 5) dX0_agesOn_5 rfl ?_
    refine hJ.gI (pc := 6) dX0_agesOn_6 fi_X0_54 ?_
    refine hJ.icmp_ge (pc := 9) 48 dX0_agesOn_9 (by decide) (fun h1 => ?_) (fun h1 => ?_)
    · rw [if_pos h1] at hF
      refine hJ.iload_n (pc := 48) dX0_agesOn_48 rfl ?_
      cases hF
      exact hR.i (pc := 49) dX0_agesOn_49
    · rw [if_neg h1] at hF
      refine hJ.aload_n (pc := 12) dX0_agesOn_12 rfl ?_
      refine hJ.gR (pc := 13) (k' := 14) (i' := 0) dX0_agesOn_13 fr_X0_19 rfl ?_
      refine hJ.iload_n (pc := 16) dX0_agesOn_16 rfl ?_
      obtain ⟨j2, h3, hF⟩ := bn_some hF
      refine hJ.aald (pc := 17) (k' := 5) (i' := j2) dX0_agesOn_17 aq_14 rfl h3 (L0_14_0 (ix_some h3).2.2) ?_
      refine hJ.gI (pc := 18) dX0_agesOn_18 fi_X0_95 ?_
      refine hJ.iload_n (pc := 21) dX0_agesOn_21 rfl ?_
      refine hJ.icmp_ne (pc := 22) 42 dX0_agesOn_22 (by decide) (fun h4 => ?_) (fun h4 => ?_)
      · rw [if_neg h4] at hF
        refine hJ.iinc (pc := 42) (x3 + 1) [some (vr 0 0), some (vi x1), some (vi x2), some (vi (x3 + 1))] dX0_agesOn_42 (by decide) rfl (congrArg (fun z => x3 + z) ic_1) rfl ?_
        refine hJ.goto (pc := 45) 4 dX0_agesOn_45 (by decide) ?_
        exact ih x1 x2 (x3 + 1) S hF
      · rw [if_pos h4] at hF
        refine hJ.iload_n (pc := 25) dX0_agesOn_25 rfl ?_
        refine hJ.aload_n (pc := 26) dX0_agesOn_26 rfl ?_
        refine hJ.aload_n (pc := 27) dX0_agesOn_27 rfl ?_
        refine hJ.gR (pc := 28) (k' := 14) (i' := 0) dX0_agesOn_28 fr_X0_19 rfl ?_
        refine hJ.iload_n (pc := 31) dX0_agesOn_31 rfl ?_
        refine hJ.aald (pc := 32) (k' := 5) (i' := j2) dX0_agesOn_32 aq_14 rfl h3 (L0_14_0 (ix_some h3).2.2) ?_
        refine hJ.aload_n (pc := 33) dX0_agesOn_33 rfl ?_
        refine hJ.gI (pc := 34) dX0_agesOn_34 fi_X0_57 ?_
        obtain ⟨r7, S6, h5, hF⟩ := bd_some hF
        refine hJ.cV (pc := 37) [vr 5 j2, vi (S 0 0 8)] [vi x2] [vi r7, vi x2] dX0_agesOn_37 lk_X0_112 (ctX0_ageOf j2 (S 0 0 8) _ _ _ _ h5) rfl rfl rfl rfl ?_
        refine hJ.iadd (pc := 40) dX0_agesOn_40 ?_
        refine hJ.istore_n (pc := 41) [some (vr 0 0), some (vi x1), some (vi (x2 + r7)), some (vi x3)] dX0_agesOn_41 (by decide) rfl ?_
        refine hJ.iinc (pc := 42) (x3 + 1) [some (vr 0 0), some (vi x1), some (vi (x2 + r7)), some (vi (x3 + 1))] dX0_agesOn_42 (by decide) rfl (congrArg (fun z => x3 + z) ic_1) rfl ?_
        refine hJ.goto (pc := 45) 4 dX0_agesOn_45 (by decide) ?_
        exact ih x1 (x2 + r7) (x3 + 1) S6 hF
set_option maxRecDepth 100000 in
set_option maxHeartbeats 4000000 in
theorem ctX0_agesOn (p0 : Int32) (S Sm : Mem) (r : Int32) (S' : Mem) (hF : fX0_agesOn p0 S = some (r, S')) : Ct yX0_agesOn cX0_agesOn 4 (some .int) 4 94 0 0 [vr 0 0, vi p0] wl0 L0 S Sm (some (vi r)) wl0 L0 S' Sm := by
  refine Ct.of RX0 false (by decide) rfl (fun h => by cases h) (Nat.le_of_ble_eq_true rfl) (fun J hJ hR => ?_)
  rw [fX0_agesOn] at hF
  show J 0 [some (vr 0 0), some (vi p0), none, none] [] wl0 L0 0 0 S Sm
  refine hJ.iconst (pc := 0) 0 dX0_agesOn_0 ic_0 ?_
  refine hJ.istore_n (pc := 1) [some (vr 0 0), some (vi p0), some (vi 0), none] dX0_agesOn_1 (by decide) rfl ?_
  refine hJ.iconst (pc := 2) 0 dX0_agesOn_2 ic_0 ?_
  refine hJ.istore_n (pc := 3) [some (vr 0 0), some (vi p0), some (vi 0), some (vi 0)] dX0_agesOn_3 (by decide) rfl ?_
  exact wX0_agesOn_4 hJ hR 5000 p0 0 0 S hF
set_option maxRecDepth 100000 in
set_option maxHeartbeats 4000000 in
theorem wX11_close_6 {J : Nat → Lv → List AV → Obs → Lay → Nat → Nat → Mem → Mem → Prop} (hJ : Cl RX11 cX11_close 5 5 117 0 0 none false J) {r : Int32} {Sm S' : Mem} (hR : Rk cX11_close (some .int) (some (vi r)) wl0 L0 0 0 S' Sm J) : ∀ (n : Nat) (x1 : Int32) (x2 : Int32) (x3 : Int32) (S : Mem), fX11_close_6 n x1 x2 x3 S = some (r, S') → J 6 [some (vr 11 0), some (vi x1), some (vi x2), some (vi x3), none] [] wl0 L0 0 0 S Sm := by
  intro n
  induction n with
  | zero =>
    intro x1 x2 x3 S hF
    rw [fX11_close_6] at hF
    cases hF
  | succ n ih =>
    intro x1 x2 x3 S hF
    rw [fX11_close_6] at hF
    refine hJ.iload_n (pc := 6) dX11_close_6 rfl ?_
    refine hJ.iconst (pc := 7) 5 dX11_close_7 ic_5 ?_
    refine hJ.icmp_ge (pc := 8) 49 dX11_close_8 (by decide) (fun h1 => ?_) (fun h1 => ?_)
    · rw [if_pos h1] at hF
      refine hJ.iload_n (pc := 49) dX11_close_49 rfl ?_
      cases hF
      exact hR.i (pc := 50) dX11_close_50
    · rw [if_neg h1] at hF
      refine hJ.aload_n (pc := 11) dX11_close_11 rfl ?_
      refine hJ.gR (pc := 12) (k' := 0) (i' := 0) dX11_close_12 fr_X11_10 rfl ?_
      refine hJ.iload_n (pc := 15) dX11_close_15 rfl ?_
      obtain ⟨r4, S3, h2, hF⟩ := bd_some hF
      refine hJ.cV (pc := 16) [vi x3] [] [vi r4] dX11_close_16 lk_X11_280 (ctX0_agesOn x3 _ _ _ _ h2) rfl rfl rfl rfl ?_
      refine hJ.istore (pc := 19) [some (vr 11 0), some (vi x1), some (vi x2), some (vi x3), some (vi r4)] dX11_close_19 (by decide) rfl ?_
      refine hJ.aload_n (pc := 21) dX11_close_21 rfl ?_
      refine hJ.gR (pc := 22) (k' := 0) (i' := 0) dX11_close_22 fr_X11_10 rfl ?_
      refine hJ.iload_n (pc := 25) dX11_close_25 rfl ?_
      obtain ⟨r6, h5, hF⟩ := bn_some hF
      refine hJ.cV (pc := 26) [vi x3] [] [vi r6] dX11_close_26 lk_X11_283 (ctX0_papersOn x3 _ _ _ h5) rfl rfl rfl rfl ?_
      refine hJ.if_le (pc := 29) 43 dX11_close_29 (by decide) (fun h7 => ?_) (fun h7 => ?_)
      · rw [if_pos h7] at hF
        refine hJ.iinc (pc := 43) (x3 + 1) [some (vr 11 0), some (vi x1), some (vi x2), some (vi (x3 + 1)), some (vi r4)] dX11_close_43 (by decide) rfl (congrArg (fun z => x3 + z) ic_1) rfl ?_
        refine hJ.goto (pc := 46) 6 dX11_close_46 (by decide) ?_
        refine hJ.weak [some (vr 11 0), some (vi x1), some (vi x2), some (vi (x3 + 1)), none] ⟨rfl, rfl, rfl, rfl, trivial⟩ ?_
        exact ih x1 x2 (x3 + 1) S3 hF
      · rw [if_neg h7] at hF
        refine hJ.iload (pc := 32) dX11_close_32 rfl ?_
        refine hJ.iload_n (pc := 34) dX11_close_34 rfl ?_
        refine hJ.icmp_le (pc := 35) 43 dX11_close_35 (by decide) (fun h8 => ?_) (fun h8 => ?_)
        · rw [if_pos h8] at hF
          refine hJ.iinc (pc := 43) (x3 + 1) [some (vr 11 0), some (vi x1), some (vi x2), some (vi (x3 + 1)), some (vi r4)] dX11_close_43 (by decide) rfl (congrArg (fun z => x3 + z) ic_1) rfl ?_
          refine hJ.goto (pc := 46) 6 dX11_close_46 (by decide) ?_
          refine hJ.weak [some (vr 11 0), some (vi x1), some (vi x2), some (vi (x3 + 1)), none] ⟨rfl, rfl, rfl, rfl, trivial⟩ ?_
          exact ih x1 x2 (x3 + 1) S3 hF
        · rw [if_neg h8] at hF
          refine hJ.iload (pc := 38) dX11_close_38 rfl ?_
          refine hJ.istore_n (pc := 40) [some (vr 11 0), some (vi x1), some (vi r4), some (vi x3), some (vi r4)] dX11_close_40 (by decide) rfl ?_
          refine hJ.iload_n (pc := 41) dX11_close_41 rfl ?_
          refine hJ.istore_n (pc := 42) [some (vr 11 0), some (vi x3), some (vi r4), some (vi x3), some (vi r4)] dX11_close_42 (by decide) rfl ?_
          refine hJ.iinc (pc := 43) (x3 + 1) [some (vr 11 0), some (vi x3), some (vi r4), some (vi (x3 + 1)), some (vi r4)] dX11_close_43 (by decide) rfl (congrArg (fun z => x3 + z) ic_1) rfl ?_
          refine hJ.goto (pc := 46) 6 dX11_close_46 (by decide) ?_
          refine hJ.weak [some (vr 11 0), some (vi x3), some (vi r4), some (vi (x3 + 1)), none] ⟨rfl, rfl, rfl, rfl, trivial⟩ ?_
          exact ih x3 r4 (x3 + 1) S3 hF
set_option maxRecDepth 100000 in
set_option maxHeartbeats 4000000 in
theorem ctX11_close (S Sm : Mem) (r : Int32) (S' : Mem) (hF : fX11_close S = some (r, S')) : Ct yX11_close cX11_close 5 (some .int) 5 117 0 0 [vr 11 0] wl0 L0 S Sm (some (vi r)) wl0 L0 S' Sm := by
  refine Ct.of RX11 false (by decide) rfl (fun h => by cases h) (Nat.le_of_ble_eq_true rfl) (fun J hJ hR => ?_)
  rw [fX11_close] at hF
  show J 0 [some (vr 11 0), none, none, none, none] [] wl0 L0 0 0 S Sm
  refine hJ.iconst (pc := 0) (-1) dX11_close_0 ic_m1 ?_
  refine hJ.istore_n (pc := 1) [some (vr 11 0), some (vi (-1)), none, none, none] dX11_close_1 (by decide) rfl ?_
  refine hJ.iconst (pc := 2) (-1) dX11_close_2 ic_m1 ?_
  refine hJ.istore_n (pc := 3) [some (vr 11 0), some (vi (-1)), some (vi (-1)), none, none] dX11_close_3 (by decide) rfl ?_
  refine hJ.iconst (pc := 4) 0 dX11_close_4 ic_0 ?_
  refine hJ.istore_n (pc := 5) [some (vr 11 0), some (vi (-1)), some (vi (-1)), some (vi 0), none] dX11_close_5 (by decide) rfl ?_
  exact wX11_close_6 hJ hR 5000 (-1) (-1) 0 S hF
set_option maxRecDepth 100000 in
set_option maxHeartbeats 4000000 in
theorem ctX11_mean (p0 : Int32) (S Sm : Mem) (r : Int32) (S' : Mem) (hF : fX11_mean p0 S = some (r, S')) : Ct yX11_mean cX11_mean 3 (some .int) 5 117 0 0 [vr 11 0, vi p0] wl0 L0 S Sm (some (vi r)) wl0 L0 S' Sm := by
  refine Ct.of RX11 false (by decide) rfl (fun h => by cases h) (Nat.le_of_ble_eq_true rfl) (fun J hJ hR => ?_)
  rw [fX11_mean] at hF
  show J 0 [some (vr 11 0), some (vi p0), none] [] wl0 L0 0 0 S Sm
  refine hJ.aload_n (pc := 0) dX11_mean_0 rfl ?_
  refine hJ.gR (pc := 1) (k' := 0) (i' := 0) dX11_mean_1 fr_X11_10 rfl ?_
  refine hJ.iload_n (pc := 4) dX11_mean_4 rfl ?_
  obtain ⟨r2, h1, hF⟩ := bn_some hF
  refine hJ.cV (pc := 5) [vi p0] [] [vi r2] dX11_mean_5 lk_X11_283 (ctX0_papersOn p0 _ _ _ h1) rfl rfl rfl rfl ?_
  refine hJ.istore_n (pc := 8) [some (vr 11 0), some (vi p0), some (vi r2)] dX11_mean_8 (by decide) rfl ?_
  refine hJ.iload_n (pc := 9) dX11_mean_9 rfl ?_
  refine hJ.if_le (pc := 10) 26 dX11_mean_10 (by decide) (fun h3 => ?_) (fun h3 => ?_)
  · rw [if_pos h3] at hF
    refine hJ.iconst (pc := 26) (-1) dX11_mean_26 ic_m1 ?_
    cases hF
    exact hR.i (pc := 27) dX11_mean_27
  · rw [if_neg h3] at hF
    refine hJ.aload_n (pc := 13) dX11_mean_13 rfl ?_
    refine hJ.gR (pc := 14) (k' := 0) (i' := 0) dX11_mean_14 fr_X11_10 rfl ?_
    refine hJ.iload_n (pc := 17) dX11_mean_17 rfl ?_
    obtain ⟨r6, S5, h4, hF⟩ := bd_some hF
    refine hJ.cV (pc := 18) [vi p0] [] [vi r6] dX11_mean_18 lk_X11_280 (ctX0_agesOn p0 _ _ _ _ h4) rfl rfl rfl rfl ?_
    refine hJ.iload_n (pc := 21) dX11_mean_21 rfl ?_
    obtain ⟨h7, hF⟩ := gn_some hF
    refine hJ.idiv (pc := 22) dX11_mean_22 h7 ?_
    refine hJ.goto (pc := 23) 27 dX11_mean_23 (by decide) ?_
    cases hF
    exact hR.i (pc := 27) dX11_mean_27
set_option maxRecDepth 100000 in
set_option maxHeartbeats 4000000 in
theorem ctX10_latestWrote (S Sm : Mem) (r : Int32) (hF : fX10_latestWrote S = some r) : Ct yX10_latestWrote cX10_latestWrote 1 (some .boolean) 0 0 0 0 [vr 10 0] wl0 L0 S Sm (some (vi r)) wl0 L0 S Sm := by
  refine Ct.of RX10 false (by decide) rfl (fun h => by cases h) (Nat.le_of_ble_eq_true rfl) (fun J hJ hR => ?_)
  rw [fX10_latestWrote] at hF
  show J 0 [some (vr 10 0)] [] wl0 L0 0 0 S Sm
  refine hJ.aload_n (pc := 0) dX10_latestWrote_0 rfl ?_
  refine hJ.gR (pc := 1) (k' := 30) (i' := 0) dX10_latestWrote_1 fr_X10_15 rfl ?_
  refine hJ.aload_n (pc := 4) dX10_latestWrote_4 rfl ?_
  refine hJ.gI (pc := 5) dX10_latestWrote_5 fi_X10_19 ?_
  obtain ⟨j1, h2, hF⟩ := bn_some hF
  refine hJ.lbald (pc := 8) dX10_latestWrote_8 al_30 h2 ?_
  obtain ⟨h3, hF⟩ := gd_some hF
  cases hF
  exact hR.n (pc := 9) (bool_nar h3).1 dX10_latestWrote_9
set_option maxRecDepth 100000 in
set_option maxHeartbeats 4000000 in
theorem ctX10_takeLatest (S Sm : Mem) (r : Nat) (S' : Mem) (hF : fX10_takeLatest S = some (r, S')) : Ct yX10_takeLatest cX10_takeLatest 2 (some (.object "PaperAger$Paper")) 0 0 0 0 [vr 10 0] wl0 L0 S Sm (some (vr 5 r)) wl0 L0 S' Sm := by
  refine Ct.of RX10 false (by decide) rfl (fun h => by cases h) (Nat.le_of_ble_eq_true rfl) (fun J hJ hR => ?_)
  rw [fX10_takeLatest] at hF
  show J 0 [some (vr 10 0), none] [] wl0 L0 0 0 S Sm
  refine hJ.aload_n (pc := 0) dX10_takeLatest_0 rfl ?_
  refine hJ.gR (pc := 1) (k' := 29) (i' := 0) dX10_takeLatest_1 fr_X10_11 rfl ?_
  refine hJ.aload_n (pc := 4) dX10_takeLatest_4 rfl ?_
  refine hJ.gI (pc := 5) dX10_takeLatest_5 fi_X10_19 ?_
  obtain ⟨j1, h2, hF⟩ := bn_some hF
  refine hJ.aald (pc := 8) (k' := 5) (i' := (25 + j1)) dX10_takeLatest_8 aq_29 rfl h2 (L0_29 (ix_some h2).2.2) ?_
  refine hJ.astore_n (pc := 9) [some (vr 10 0), some (vr 5 (25 + j1))] dX10_takeLatest_9 (by decide) rfl ?_
  refine hJ.aload_n (pc := 10) dX10_takeLatest_10 rfl ?_
  refine hJ.aload_n (pc := 11) dX10_takeLatest_11 rfl ?_
  refine hJ.gI (pc := 12) dX10_takeLatest_12 fi_X10_19 ?_
  refine hJ.bipush (pc := 15) 10 dX10_takeLatest_15 bc_10 ?_
  refine hJ.iadd (pc := 17) dX10_takeLatest_17 ?_
  refine hJ.iconst (pc := 18) 1 dX10_takeLatest_18 ic_1 ?_
  refine hJ.isub (pc := 19) dX10_takeLatest_19 ?_
  refine hJ.bipush (pc := 20) 10 dX10_takeLatest_20 bc_10 ?_
  refine hJ.irem (pc := 22) dX10_takeLatest_22 (by decide) ?_
  refine hJ.pI (pc := 23) dX10_takeLatest_23 fp_X10_19 ?_
  refine hJ.aload_n (pc := 26) dX10_takeLatest_26 rfl ?_
  refine hJ.dup (pc := 27) dX10_takeLatest_27 ?_
  refine hJ.gI (pc := 28) dX10_takeLatest_28 fi_X10_23 ?_
  refine hJ.iconst (pc := 31) 1 dX10_takeLatest_31 ic_1 ?_
  refine hJ.isub (pc := 32) dX10_takeLatest_32 ?_
  refine hJ.pI (pc := 33) dX10_takeLatest_33 fp_X10_23 ?_
  refine hJ.aload_n (pc := 36) dX10_takeLatest_36 rfl ?_
  cases hF
  exact hR.a (pc := 37) dX10_takeLatest_37
set_option maxRecDepth 100000 in
set_option maxHeartbeats 4000000 in
theorem ctX1_dropLast (S Sm : Mem) (S' : Mem) (hF : fX1_dropLast S = S') : Ct yX1_dropLast cX1_dropLast 1 none 0 0 0 0 [vr 1 0] wl0 L0 S Sm none wl0 L0 S' Sm := by
  refine Ct.of RX1 false (by decide) rfl (fun h => by cases h) (Nat.le_of_ble_eq_true rfl) (fun J hJ hR => ?_)
  rw [fX1_dropLast] at hF
  show J 0 [some (vr 1 0)] [] wl0 L0 0 0 S Sm
  refine hJ.aload_n (pc := 0) dX1_dropLast_0 rfl ?_
  refine hJ.gI (pc := 1) dX1_dropLast_1 fi_X1_15 ?_
  refine hJ.if_le (pc := 4) 17 dX1_dropLast_4 (by decide) (fun h1 => ?_) (fun h1 => ?_)
  · rw [if_pos h1] at hF
    cases hF
    exact hR.v (pc := 17) dX1_dropLast_17
  · rw [if_neg h1] at hF
    refine hJ.aload_n (pc := 7) dX1_dropLast_7 rfl ?_
    refine hJ.dup (pc := 8) dX1_dropLast_8 ?_
    refine hJ.gI (pc := 9) dX1_dropLast_9 fi_X1_15 ?_
    refine hJ.iconst (pc := 12) 1 dX1_dropLast_12 ic_1 ?_
    refine hJ.isub (pc := 13) dX1_dropLast_13 ?_
    refine hJ.pI (pc := 14) dX1_dropLast_14 fp_X1_15 ?_
    cases hF
    exact hR.v (pc := 17) dX1_dropLast_17
set_option maxRecDepth 100000 in
set_option maxHeartbeats 4000000 in
theorem wX11_undo_49 {J : Nat → Lv → List AV → Obs → Lay → Nat → Nat → Mem → Mem → Prop} (hJ : Cl RX11 cX11_undo 4 2 43 0 0 none false J) {r : Int32} {Sm S' : Mem} (hR : Rk cX11_undo (some .boolean) (some (vi r)) wl0 L0 0 0 S' Sm J) (x1 : Int32) (S : Mem) (hF : fX11_undo_49 x1 S = some (r, S')) : J 49 [some (vr 11 0), some (vi x1), none, none] [] wl0 L0 0 0 S Sm := by
  rw [fX11_undo_49] at hF
  refine hJ.iload_n (pc := 49) dX11_undo_49 rfl ?_
  refine hJ.if_eq (pc := 50) 63 dX11_undo_50 (by decide) (fun h10 => ?_) (fun h10 => ?_)
  · rw [if_pos h10] at hF
    refine hJ.iconst (pc := 63) 1 dX11_undo_63 ic_1 ?_
    cases hF
    exact hR.n (pc := 64) (by decide) dX11_undo_64
  · rw [if_neg h10] at hF
    refine hJ.aload_n (pc := 53) dX11_undo_53 rfl ?_
    refine hJ.gR (pc := 54) (k' := 0) (i' := 0) dX11_undo_54 fr_X11_10 rfl ?_
    refine hJ.gR (pc := 57) (k' := 1) (i' := 0) dX11_undo_57 fr_X11_124 rfl ?_
    refine hJ.cV (pc := 60) [] [] [] dX11_undo_60 lk_X11_300 (ctX1_dropLast _ _ (fX1_dropLast S) rfl) rfl rfl rfl rfl ?_
    refine hJ.iconst (pc := 63) 1 dX11_undo_63 ic_1 ?_
    cases hF
    exact hR.n (pc := 64) (by decide) dX11_undo_64
set_option maxRecDepth 100000 in
set_option maxHeartbeats 4000000 in
theorem ctX11_undo (S Sm : Mem) (r : Int32) (S' : Mem) (hF : fX11_undo S = some (r, S')) : Ct yX11_undo cX11_undo 4 (some .boolean) 2 43 0 0 [vr 11 0] wl0 L0 S Sm (some (vi r)) wl0 L0 S' Sm := by
  refine Ct.of RX11 false (by decide) rfl (fun h => by cases h) (Nat.le_of_ble_eq_true rfl) (fun J hJ hR => ?_)
  rw [fX11_undo] at hF
  show J 0 [some (vr 11 0), none, none, none] [] wl0 L0 0 0 S Sm
  refine hJ.aload_n (pc := 0) dX11_undo_0 rfl ?_
  refine hJ.gR (pc := 1) (k' := 10) (i' := 0) dX11_undo_1 fr_X11_40 rfl ?_
  refine hJ.gI (pc := 4) dX11_undo_4 fi_X11_286 ?_
  refine hJ.if_gt (pc := 7) 12 dX11_undo_7 (by decide) (fun h1 => ?_) (fun h1 => ?_)
  · rw [if_pos h1] at hF
    refine hJ.aload_n (pc := 12) dX11_undo_12 rfl ?_
    refine hJ.gR (pc := 13) (k' := 10) (i' := 0) dX11_undo_13 fr_X11_40 rfl ?_
    obtain ⟨r3, h2, hF⟩ := bn_some hF
    refine hJ.cV (pc := 16) [] [] [vi r3] dX11_undo_16 lk_X11_287 (ctX10_latestWrote _ _ _ h2) rfl rfl rfl rfl ?_
    refine hJ.istore_n (pc := 19) [some (vr 11 0), some (vi r3), none, none] dX11_undo_19 (by decide) rfl ?_
    refine hJ.aload_n (pc := 20) dX11_undo_20 rfl ?_
    refine hJ.gR (pc := 21) (k' := 10) (i' := 0) dX11_undo_21 fr_X11_40 rfl ?_
    obtain ⟨r6, S5, h4, hF⟩ := bd_some hF
    refine hJ.cV (pc := 24) [] [] [vr 5 r6] dX11_undo_24 lk_X11_290 (ctX10_takeLatest _ _ _ _ h4) rfl rfl rfl rfl ?_
    refine hJ.astore_n (pc := 27) [some (vr 11 0), some (vi r3), some (vr 5 r6), none] dX11_undo_27 (by decide) rfl ?_
    refine hJ.aload_n (pc := 28) dX11_undo_28 rfl ?_
    refine hJ.gR (pc := 29) (k' := 0) (i' := 0) dX11_undo_29 fr_X11_10 rfl ?_
    refine hJ.aload_n (pc := 32) dX11_undo_32 rfl ?_
    refine hJ.gI (pc := 33) dX11_undo_33 fi_X11_294 ?_
    obtain ⟨r8, h7, hF⟩ := bn_some hF
    refine hJ.cV (pc := 36) [vi (S5 5 r6 0)] [] [vq 5 r8] dX11_undo_36 lk_X11_102 (ctX0_paperAt (S5 5 r6 0) _ _ _ h7) rfl rfl rfl rfl ?_
    cases r8 with
    | none =>
      rw [mt_n] at hF
      refine hJ.astore_n (pc := 39) [some (vr 11 0), some (vi r3), some (vr 5 r6), some (vn)] dX11_undo_39 (by decide) rfl ?_
      refine hJ.aload_n (pc := 40) dX11_undo_40 rfl ?_
      refine hJ.ifnullY (pc := 41) 49 dX11_undo_41 (by decide) ?_
      refine hJ.weak [some (vr 11 0), some (vi r3), none, none] ⟨rfl, rfl, trivial⟩ ?_
      exact wX11_undo_49 hJ hR r3 S5 hF
    | some i9 =>
      rw [mt_s] at hF
      refine hJ.astore_n (pc := 39) [some (vr 11 0), some (vi r3), some (vr 5 r6), some (vr 5 i9)] dX11_undo_39 (by decide) rfl ?_
      refine hJ.aload_n (pc := 40) dX11_undo_40 rfl ?_
      refine hJ.ifnullN (pc := 41) dX11_undo_41 ?_
      refine hJ.aload_n (pc := 44) dX11_undo_44 rfl ?_
      refine hJ.aload_n (pc := 45) dX11_undo_45 rfl ?_
      refine hJ.cV (pc := 46) [vr 5 r6] [] [] dX11_undo_46 lk_X11_297 (ctX5_copyFrom i9 r6 _ _ (fX5_copyFrom i9 r6 S5) rfl) rfl rfl rfl rfl ?_
      refine hJ.weak [some (vr 11 0), some (vi r3), none, none] ⟨rfl, rfl, trivial⟩ ?_
      exact wX11_undo_49 hJ hR r3 (fX5_copyFrom i9 r6 S5) hF
  · rw [if_neg h1] at hF
    refine hJ.iconst (pc := 10) 0 dX11_undo_10 ic_0 ?_
    cases hF
    exact hR.n (pc := 11) (by decide) dX11_undo_11
set_option maxRecDepth 100000 in
set_option maxHeartbeats 4000000 in
theorem ctX1_copyFrom (a0 : Nat) (b0 : Nat) (S Sm : Mem) (S' : Mem) (hF : fX1_copyFrom a0 b0 S = S') : Ct yX1_copyFrom cX1_copyFrom 2 none 1 40 0 0 [vr 1 a0, vr 1 b0] wl0 L0 S Sm none wl0 L0 S' Sm := by
  refine Ct.of RX1 false (by decide) rfl (fun h => by cases h) (Nat.le_of_ble_eq_true rfl) (fun J hJ hR => ?_)
  rw [fX1_copyFrom] at hF
  show J 0 [some (vr 1 a0), some (vr 1 b0)] [] wl0 L0 0 0 S Sm
  refine hJ.aload_n (pc := 0) dX1_copyFrom_0 rfl ?_
  refine hJ.gR (pc := 1) (k' := 16) (i' := b0) dX1_copyFrom_1 fr_X1_11 rfl ?_
  refine hJ.iconst (pc := 4) 0 dX1_copyFrom_4 ic_0 ?_
  refine hJ.aload_n (pc := 5) dX1_copyFrom_5 rfl ?_
  refine hJ.gR (pc := 6) (k' := 16) (i' := a0) dX1_copyFrom_6 fr_X1_11 rfl ?_
  refine hJ.iconst (pc := 9) 0 dX1_copyFrom_9 ic_0 ?_
  refine hJ.sipush (pc := 10) 600 dX1_copyFrom_10 sc_600 ?_
  refine hJ.acopy (pc := 13) 600 dX1_copyFrom_13 aw_X1_37 rfl rfl rfl rfl (by decide) (by decide) (by decide) (by decide) ⟨Nat.le_of_ble_eq_true rfl, Nat.le_of_ble_eq_true rfl⟩ ?_
  refine hJ.aload_n (pc := 16) dX1_copyFrom_16 rfl ?_
  refine hJ.aload_n (pc := 17) dX1_copyFrom_17 rfl ?_
  refine hJ.gI (pc := 18) dX1_copyFrom_18 fi_X1_15 ?_
  refine hJ.pI (pc := 21) dX1_copyFrom_21 fp_X1_15 ?_
  cases hF
  exact hR.v (pc := 24) dX1_copyFrom_24
set_option maxRecDepth 100000 in
set_option maxHeartbeats 4000000 in
theorem ctX2_copyFrom (a0 : Nat) (b0 : Nat) (S Sm : Mem) (S' : Mem) (hF : fX2_copyFrom a0 b0 S = S') : Ct yX2_copyFrom cX2_copyFrom 2 none 1 40 0 0 [vr 2 a0, vr 2 b0] wl0 L0 S Sm none wl0 L0 S' Sm := by
  refine Ct.of RX2 false (by decide) rfl (fun h => by cases h) (Nat.le_of_ble_eq_true rfl) (fun J hJ hR => ?_)
  rw [fX2_copyFrom] at hF
  show J 0 [some (vr 2 a0), some (vr 2 b0)] [] wl0 L0 0 0 S Sm
  refine hJ.aload_n (pc := 0) dX2_copyFrom_0 rfl ?_
  refine hJ.gR (pc := 1) (k' := 17) (i' := b0) dX2_copyFrom_1 fr_X2_11 rfl ?_
  refine hJ.iconst (pc := 4) 0 dX2_copyFrom_4 ic_0 ?_
  refine hJ.aload_n (pc := 5) dX2_copyFrom_5 rfl ?_
  refine hJ.gR (pc := 6) (k' := 17) (i' := a0) dX2_copyFrom_6 fr_X2_11 rfl ?_
  refine hJ.iconst (pc := 9) 0 dX2_copyFrom_9 ic_0 ?_
  refine hJ.bipush (pc := 10) 6 dX2_copyFrom_10 bc_6 ?_
  refine hJ.acopy (pc := 12) 6 dX2_copyFrom_12 aw_X2_32 rfl rfl rfl rfl (by decide) (by decide) (by decide) (by decide) ⟨Nat.le_of_ble_eq_true rfl, Nat.le_of_ble_eq_true rfl⟩ ?_
  refine hJ.aload_n (pc := 15) dX2_copyFrom_15 rfl ?_
  refine hJ.gR (pc := 16) (k' := 18) (i' := b0) dX2_copyFrom_16 fr_X2_15 rfl ?_
  refine hJ.iconst (pc := 19) 0 dX2_copyFrom_19 ic_0 ?_
  refine hJ.aload_n (pc := 20) dX2_copyFrom_20 rfl ?_
  refine hJ.gR (pc := 21) (k' := 18) (i' := a0) dX2_copyFrom_21 fr_X2_15 rfl ?_
  refine hJ.iconst (pc := 24) 0 dX2_copyFrom_24 ic_0 ?_
  refine hJ.bipush (pc := 25) 6 dX2_copyFrom_25 bc_6 ?_
  refine hJ.acopy (pc := 27) 6 dX2_copyFrom_27 aw_X2_32 rfl rfl rfl rfl (by decide) (by decide) (by decide) (by decide) ⟨Nat.le_of_ble_eq_true rfl, Nat.le_of_ble_eq_true rfl⟩ ?_
  refine hJ.aload_n (pc := 30) dX2_copyFrom_30 rfl ?_
  refine hJ.gR (pc := 31) (k' := 19) (i' := b0) dX2_copyFrom_31 fr_X2_18 rfl ?_
  refine hJ.iconst (pc := 34) 0 dX2_copyFrom_34 ic_0 ?_
  refine hJ.aload_n (pc := 35) dX2_copyFrom_35 rfl ?_
  refine hJ.gR (pc := 36) (k' := 19) (i' := a0) dX2_copyFrom_36 fr_X2_18 rfl ?_
  refine hJ.iconst (pc := 39) 0 dX2_copyFrom_39 ic_0 ?_
  refine hJ.bipush (pc := 40) 6 dX2_copyFrom_40 bc_6 ?_
  refine hJ.acopy (pc := 42) 6 dX2_copyFrom_42 aw_X2_32 rfl rfl rfl rfl (by decide) (by decide) (by decide) (by decide) ⟨Nat.le_of_ble_eq_true rfl, Nat.le_of_ble_eq_true rfl⟩ ?_
  refine hJ.aload_n (pc := 45) dX2_copyFrom_45 rfl ?_
  refine hJ.gR (pc := 46) (k' := 20) (i' := b0) dX2_copyFrom_46 fr_X2_21 rfl ?_
  refine hJ.iconst (pc := 49) 0 dX2_copyFrom_49 ic_0 ?_
  refine hJ.aload_n (pc := 50) dX2_copyFrom_50 rfl ?_
  refine hJ.gR (pc := 51) (k' := 20) (i' := a0) dX2_copyFrom_51 fr_X2_21 rfl ?_
  refine hJ.iconst (pc := 54) 0 dX2_copyFrom_54 ic_0 ?_
  refine hJ.bipush (pc := 55) 6 dX2_copyFrom_55 bc_6 ?_
  refine hJ.acopy (pc := 57) 6 dX2_copyFrom_57 aw_X2_32 rfl rfl rfl rfl (by decide) (by decide) (by decide) (by decide) ⟨Nat.le_of_ble_eq_true rfl, Nat.le_of_ble_eq_true rfl⟩ ?_
  refine hJ.aload_n (pc := 60) dX2_copyFrom_60 rfl ?_
  refine hJ.aload_n (pc := 61) dX2_copyFrom_61 rfl ?_
  refine hJ.gI (pc := 62) dX2_copyFrom_62 fi_X2_24 ?_
  refine hJ.pI (pc := 65) dX2_copyFrom_65 fp_X2_24 ?_
  cases hF
  exact hR.v (pc := 68) dX2_copyFrom_68
set_option maxRecDepth 100000 in
set_option maxHeartbeats 4000000 in
theorem ctX6_copyFrom (a0 : Nat) (b0 : Nat) (S Sm : Mem) (S' : Mem) (hF : fX6_copyFrom a0 b0 S = S') : Ct yX6_copyFrom cX6_copyFrom 2 none 0 0 0 0 [vr 6 a0, vr 6 b0] wl0 L0 S Sm none wl0 L0 S' Sm := by
  refine Ct.of RX6 false (by decide) rfl (fun h => by cases h) (Nat.le_of_ble_eq_true rfl) (fun J hJ hR => ?_)
  rw [fX6_copyFrom] at hF
  show J 0 [some (vr 6 a0), some (vr 6 b0)] [] wl0 L0 0 0 S Sm
  refine hJ.aload_n (pc := 0) dX6_copyFrom_0 rfl ?_
  refine hJ.aload_n (pc := 1) dX6_copyFrom_1 rfl ?_
  refine hJ.gI (pc := 2) dX6_copyFrom_2 fi_X6_9 ?_
  refine hJ.pI (pc := 5) dX6_copyFrom_5 fp_X6_9 ?_
  refine hJ.aload_n (pc := 8) dX6_copyFrom_8 rfl ?_
  refine hJ.aload_n (pc := 9) dX6_copyFrom_9 rfl ?_
  refine hJ.gI (pc := 10) dX6_copyFrom_10 fi_X6_15 ?_
  refine hJ.pI (pc := 13) dX6_copyFrom_13 fp_X6_15 ?_
  refine hJ.aload_n (pc := 16) dX6_copyFrom_16 rfl ?_
  refine hJ.aload_n (pc := 17) dX6_copyFrom_17 rfl ?_
  refine hJ.gI (pc := 18) dX6_copyFrom_18 fi_X6_18 ?_
  refine hJ.pI (pc := 21) dX6_copyFrom_21 fp_X6_18 ?_
  refine hJ.aload_n (pc := 24) dX6_copyFrom_24 rfl ?_
  refine hJ.aload_n (pc := 25) dX6_copyFrom_25 rfl ?_
  refine hJ.gI (pc := 26) dX6_copyFrom_26 fi_X6_21 ?_
  refine hJ.pI (pc := 29) dX6_copyFrom_29 fp_X6_21 ?_
  refine hJ.aload_n (pc := 32) dX6_copyFrom_32 rfl ?_
  refine hJ.aload_n (pc := 33) dX6_copyFrom_33 rfl ?_
  refine hJ.gI (pc := 34) dX6_copyFrom_34 fi_X6_24 ?_
  refine hJ.pI (pc := 37) dX6_copyFrom_37 fp_X6_24 ?_
  cases hF
  exact hR.v (pc := 40) dX6_copyFrom_40
set_option maxRecDepth 100000 in
set_option maxHeartbeats 4000000 in
theorem wX0_copyFrom_31 {J : Nat → Lv → List AV → Obs → Lay → Nat → Nat → Mem → Mem → Prop} (hJ : Cl RX0 cX0_copyFrom 3 2 61 0 0 none false J) {Sm S' : Mem} (hR : Rk cX0_copyFrom none none wl0 L0 0 0 S' Sm J) : ∀ (n : Nat) (c0 : Nat) (c1 : Nat) (x2 : Int32) (S : Mem), fX0_copyFrom_31 n c0 c1 x2 S = some (S') → J 31 [some (vr 0 c0), some (vr 0 c1), some (vi x2)] [] wl0 L0 0 0 S Sm := by
  intro n
  induction n with
  | zero =>
    intro c0 c1 x2 S hF
    rw [fX0_copyFrom_31] at hF
    cases hF
  | succ n ih =>
    intro c0 c1 x2 S hF
    rw [fX0_copyFrom_31] at hF
    refine hJ.iload_n (pc := 31) dX0_copyFrom_31 rfl ?_
    refine hJ.bipush (pc := 32) 12 dX0_copyFrom_32 bc_12 ?_
    refine hJ.icmp_ge (pc := 34) 58 dX0_copyFrom_34 (by decide) (fun h2 => ?_) (fun h2 => ?_)
    · rw [if_pos h2] at hF
      refine hJ.aload_n (pc := 58) dX0_copyFrom_58 rfl ?_
      refine hJ.gR (pc := 59) (k' := 1) (i' := c0) dX0_copyFrom_59 fr_X0_26 rfl ?_
      refine hJ.aload_n (pc := 62) dX0_copyFrom_62 rfl ?_
      refine hJ.gR (pc := 63) (k' := 1) (i' := c1) dX0_copyFrom_63 fr_X0_26 rfl ?_
      refine hJ.cV (pc := 66) [vr 1 c1] [] [] dX0_copyFrom_66 lk_X0_170 (ctX1_copyFrom c0 c1 _ _ (fX1_copyFrom c0 c1 S) rfl) rfl rfl rfl rfl ?_
      refine hJ.aload_n (pc := 69) dX0_copyFrom_69 rfl ?_
      refine hJ.gR (pc := 70) (k' := 2) (i' := c0) dX0_copyFrom_70 fr_X0_33 rfl ?_
      refine hJ.aload_n (pc := 73) dX0_copyFrom_73 rfl ?_
      refine hJ.gR (pc := 74) (k' := 2) (i' := c1) dX0_copyFrom_74 fr_X0_33 rfl ?_
      refine hJ.cV (pc := 77) [vr 2 c1] [] [] dX0_copyFrom_77 lk_X0_173 (ctX2_copyFrom c0 c1 _ _ (fX2_copyFrom c0 c1 (fX1_copyFrom c0 c1 S)) rfl) rfl rfl rfl rfl ?_
      refine hJ.aload_n (pc := 80) dX0_copyFrom_80 rfl ?_
      refine hJ.gR (pc := 81) (k' := 3) (i' := c0) dX0_copyFrom_81 fr_X0_40 rfl ?_
      refine hJ.aload_n (pc := 84) dX0_copyFrom_84 rfl ?_
      refine hJ.gR (pc := 85) (k' := 3) (i' := c1) dX0_copyFrom_85 fr_X0_40 rfl ?_
      refine hJ.cV (pc := 88) [vr 3 c1] [] [] dX0_copyFrom_88 lk_X0_176 (ctX3_copyFrom c0 c1 _ _ (fX3_copyFrom c0 c1 (fX2_copyFrom c0 c1 (fX1_copyFrom c0 c1 S))) rfl) rfl rfl rfl rfl ?_
      refine hJ.aload_n (pc := 91) dX0_copyFrom_91 rfl ?_
      refine hJ.aload_n (pc := 92) dX0_copyFrom_92 rfl ?_
      refine hJ.gI (pc := 93) dX0_copyFrom_93 fi_X0_50 ?_
      refine hJ.pI (pc := 96) dX0_copyFrom_96 fp_X0_50 ?_
      refine hJ.aload_n (pc := 99) dX0_copyFrom_99 rfl ?_
      refine hJ.aload_n (pc := 100) dX0_copyFrom_100 rfl ?_
      refine hJ.gI (pc := 101) dX0_copyFrom_101 fi_X0_54 ?_
      refine hJ.pI (pc := 104) dX0_copyFrom_104 fp_X0_54 ?_
      refine hJ.aload_n (pc := 107) dX0_copyFrom_107 rfl ?_
      refine hJ.aload_n (pc := 108) dX0_copyFrom_108 rfl ?_
      refine hJ.gI (pc := 109) dX0_copyFrom_109 fi_X0_57 ?_
      refine hJ.pI (pc := 112) dX0_copyFrom_112 fp_X0_57 ?_
      refine hJ.aload_n (pc := 115) dX0_copyFrom_115 rfl ?_
      refine hJ.aload_n (pc := 116) dX0_copyFrom_116 rfl ?_
      refine hJ.gI (pc := 117) dX0_copyFrom_117 fi_X0_60 ?_
      refine hJ.pI (pc := 120) dX0_copyFrom_120 fp_X0_60 ?_
      refine hJ.aload_n (pc := 123) dX0_copyFrom_123 rfl ?_
      refine hJ.aload_n (pc := 124) dX0_copyFrom_124 rfl ?_
      refine hJ.gI (pc := 125) dX0_copyFrom_125 fi_X0_63 ?_
      refine hJ.pI (pc := 128) dX0_copyFrom_128 fp_X0_63 ?_
      cases hF
      exact hR.v (pc := 131) dX0_copyFrom_131
    · rw [if_neg h2] at hF
      refine hJ.aload_n (pc := 37) dX0_copyFrom_37 rfl ?_
      refine hJ.gR (pc := 38) (k' := 14) (i' := c0) dX0_copyFrom_38 fr_X0_19 rfl ?_
      refine hJ.iload_n (pc := 41) dX0_copyFrom_41 rfl ?_
      obtain ⟨j3, h4, hF⟩ := bn_some hF
      refine hJ.aald (pc := 42) (k' := 5) (i' := (12 * c0 + j3)) dX0_copyFrom_42 aq_14 rfl h4 (L0_14 (ix_some h4).2.2) ?_
      refine hJ.aload_n (pc := 43) dX0_copyFrom_43 rfl ?_
      refine hJ.gR (pc := 44) (k' := 14) (i' := c1) dX0_copyFrom_44 fr_X0_19 rfl ?_
      refine hJ.iload_n (pc := 47) dX0_copyFrom_47 rfl ?_
      refine hJ.aald (pc := 48) (k' := 5) (i' := (12 * c1 + j3)) dX0_copyFrom_48 aq_14 rfl h4 (L0_14 (ix_some h4).2.2) ?_
      refine hJ.cV (pc := 49) [vr 5 (12 * c1 + j3)] [] [] dX0_copyFrom_49 lk_X0_167 (ctX5_copyFrom (12 * c0 + j3) (12 * c1 + j3) _ _ (fX5_copyFrom (12 * c0 + j3) (12 * c1 + j3) S) rfl) rfl rfl rfl rfl ?_
      refine hJ.iinc (pc := 52) (x2 + 1) [some (vr 0 c0), some (vr 0 c1), some (vi (x2 + 1))] dX0_copyFrom_52 (by decide) rfl (congrArg (fun z => x2 + z) ic_1) rfl ?_
      refine hJ.goto (pc := 55) 31 dX0_copyFrom_55 (by decide) ?_
      exact ih c0 c1 (x2 + 1) (fX5_copyFrom (12 * c0 + j3) (12 * c1 + j3) S) hF
set_option maxRecDepth 100000 in
set_option maxHeartbeats 4000000 in
theorem wX0_copyFrom_2 {J : Nat → Lv → List AV → Obs → Lay → Nat → Nat → Mem → Mem → Prop} (hJ : Cl RX0 cX0_copyFrom 3 2 61 0 0 none false J) {Sm S' : Mem} (hR : Rk cX0_copyFrom none none wl0 L0 0 0 S' Sm J) : ∀ (n : Nat) (c0 : Nat) (c1 : Nat) (x2 : Int32) (S : Mem), fX0_copyFrom_2 n c0 c1 x2 S = some (S') → J 2 [some (vr 0 c0), some (vr 0 c1), some (vi x2)] [] wl0 L0 0 0 S Sm := by
  intro n
  induction n with
  | zero =>
    intro c0 c1 x2 S hF
    rw [fX0_copyFrom_2] at hF
    cases hF
  | succ n ih =>
    intro c0 c1 x2 S hF
    rw [fX0_copyFrom_2] at hF
    refine hJ.iload_n (pc := 2) dX0_copyFrom_2 rfl ?_
    refine hJ.bipush (pc := 3) 12 dX0_copyFrom_3 bc_12 ?_
    refine hJ.icmp_ge (pc := 5) 29 dX0_copyFrom_5 (by decide) (fun h1 => ?_) (fun h1 => ?_)
    · rw [if_pos h1] at hF
      refine hJ.iconst (pc := 29) 0 dX0_copyFrom_29 ic_0 ?_
      refine hJ.istore_n (pc := 30) [some (vr 0 c0), some (vr 0 c1), some (vi 0)] dX0_copyFrom_30 (by decide) rfl ?_
      exact wX0_copyFrom_31 hJ hR 5000 c0 c1 0 S hF
    · rw [if_neg h1] at hF
      refine hJ.aload_n (pc := 8) dX0_copyFrom_8 rfl ?_
      refine hJ.gR (pc := 9) (k' := 13) (i' := c0) dX0_copyFrom_9 fr_X0_11 rfl ?_
      refine hJ.iload_n (pc := 12) dX0_copyFrom_12 rfl ?_
      obtain ⟨j5, h6, hF⟩ := bn_some hF
      refine hJ.aald (pc := 13) (k' := 6) (i' := (12 * c0 + j5)) dX0_copyFrom_13 aq_13 rfl h6 (L0_13 (ix_some h6).2.2) ?_
      refine hJ.aload_n (pc := 14) dX0_copyFrom_14 rfl ?_
      refine hJ.gR (pc := 15) (k' := 13) (i' := c1) dX0_copyFrom_15 fr_X0_11 rfl ?_
      refine hJ.iload_n (pc := 18) dX0_copyFrom_18 rfl ?_
      refine hJ.aald (pc := 19) (k' := 6) (i' := (12 * c1 + j5)) dX0_copyFrom_19 aq_13 rfl h6 (L0_13 (ix_some h6).2.2) ?_
      refine hJ.cV (pc := 20) [vr 6 (12 * c1 + j5)] [] [] dX0_copyFrom_20 lk_X0_163 (ctX6_copyFrom (12 * c0 + j5) (12 * c1 + j5) _ _ (fX6_copyFrom (12 * c0 + j5) (12 * c1 + j5) S) rfl) rfl rfl rfl rfl ?_
      refine hJ.iinc (pc := 23) (x2 + 1) [some (vr 0 c0), some (vr 0 c1), some (vi (x2 + 1))] dX0_copyFrom_23 (by decide) rfl (congrArg (fun z => x2 + z) ic_1) rfl ?_
      refine hJ.goto (pc := 26) 2 dX0_copyFrom_26 (by decide) ?_
      exact ih c0 c1 (x2 + 1) (fX6_copyFrom (12 * c0 + j5) (12 * c1 + j5) S) hF
set_option maxRecDepth 100000 in
set_option maxHeartbeats 4000000 in
theorem ctX0_copyFrom (a0 : Nat) (b0 : Nat) (S Sm : Mem) (S' : Mem) (hF : fX0_copyFrom a0 b0 S = some (S')) : Ct yX0_copyFrom cX0_copyFrom 3 none 2 61 0 0 [vr 0 a0, vr 0 b0] wl0 L0 S Sm none wl0 L0 S' Sm := by
  refine Ct.of RX0 false (by decide) rfl (fun h => by cases h) (Nat.le_of_ble_eq_true rfl) (fun J hJ hR => ?_)
  rw [fX0_copyFrom] at hF
  show J 0 [some (vr 0 a0), some (vr 0 b0), none] [] wl0 L0 0 0 S Sm
  refine hJ.iconst (pc := 0) 0 dX0_copyFrom_0 ic_0 ?_
  refine hJ.istore_n (pc := 1) [some (vr 0 a0), some (vr 0 b0), some (vi 0)] dX0_copyFrom_1 (by decide) rfl ?_
  exact wX0_copyFrom_2 hJ hR 5000 a0 b0 0 S hF
set_option maxRecDepth 100000 in
set_option maxHeartbeats 4000000 in
theorem ctX11_image (p0 : Int32) (S Sm : Mem) (r : Int32) (S' : Mem) (hF : fX11_image p0 S = some (r, S')) : Ct yX11_image cX11_image 2 (some .boolean) 3 83 0 0 [vr 11 0, vi p0] wl0 L0 S Sm (some (vi r)) wl0 L0 S' Sm := by
  refine Ct.of RX11 false (by decide) rfl (fun h => by cases h) (Nat.le_of_ble_eq_true rfl) (fun J hJ hR => ?_)
  rw [fX11_image] at hF
  show J 0 [some (vr 11 0), some (vi p0)] [] wl0 L0 0 0 S Sm
  refine hJ.iload_n (pc := 0) dX11_image_0 rfl ?_
  refine hJ.if_eq (pc := 1) 22 dX11_image_1 (by decide) (fun h1 => ?_) (fun h1 => ?_)
  · rw [if_pos h1] at hF
    refine hJ.aload_n (pc := 22) dX11_image_22 rfl ?_
    refine hJ.gI (pc := 23) dX11_image_23 fi_X11_19 ?_
    refine hJ.if_ne (pc := 26) 31 dX11_image_26 (by decide) (fun h2 => ?_) (fun h2 => ?_)
    · rw [if_neg h2] at hF
      refine hJ.aload_n (pc := 31) dX11_image_31 rfl ?_
      refine hJ.gR (pc := 32) (k' := 10) (i' := 0) dX11_image_32 fr_X11_40 rfl ?_
      refine hJ.cV (pc := 35) [] [] [] dX11_image_35 lk_X11_63 (ctX10_forget _ _ (fX10_forget S) rfl) rfl rfl rfl rfl ?_
      refine hJ.aload_n (pc := 38) dX11_image_38 rfl ?_
      refine hJ.gR (pc := 39) (k' := 0) (i' := 0) dX11_image_39 fr_X11_10 rfl ?_
      refine hJ.aload_n (pc := 42) dX11_image_42 rfl ?_
      refine hJ.gR (pc := 43) (k' := 0) (i' := 1) dX11_image_43 fr_X11_16 rfl ?_
      obtain ⟨S4, h3, hF⟩ := bn_some hF
      refine hJ.cV (pc := 46) [vr 0 1] [] [] dX11_image_46 lk_X11_303 (ctX0_copyFrom 0 1 _ _ _ h3) rfl rfl rfl rfl ?_
      refine hJ.iconst (pc := 49) 1 dX11_image_49 ic_1 ?_
      cases hF
      exact hR.n (pc := 50) (by decide) dX11_image_50
    · rw [if_pos h2] at hF
      refine hJ.iconst (pc := 29) 0 dX11_image_29 ic_0 ?_
      cases hF
      exact hR.n (pc := 30) (by decide) dX11_image_30
  · rw [if_neg h1] at hF
    refine hJ.aload_n (pc := 4) dX11_image_4 rfl ?_
    refine hJ.gR (pc := 5) (k' := 0) (i' := 1) dX11_image_5 fr_X11_16 rfl ?_
    refine hJ.aload_n (pc := 8) dX11_image_8 rfl ?_
    refine hJ.gR (pc := 9) (k' := 0) (i' := 0) dX11_image_9 fr_X11_10 rfl ?_
    obtain ⟨S6, h5, hF⟩ := bn_some hF
    refine hJ.cV (pc := 12) [vr 0 0] [] [] dX11_image_12 lk_X11_303 (ctX0_copyFrom 1 0 _ _ _ h5) rfl rfl rfl rfl ?_
    refine hJ.aload_n (pc := 15) dX11_image_15 rfl ?_
    refine hJ.iconst (pc := 16) 1 dX11_image_16 ic_1 ?_
    refine hJ.pZ (pc := 17) dX11_image_17 fp_X11_19 (by decide) ?_
    refine hJ.iconst (pc := 20) 1 dX11_image_20 ic_1 ?_
    cases hF
    exact hR.n (pc := 21) (by decide) dX11_image_21
set_option maxRecDepth 100000 in
set_option maxHeartbeats 4000000 in
theorem ctX11_look (p0 : Int32) (S Sm : Mem) (r : Int32) (hF : fX11_look p0 S = r) : Ct yX11_look cX11_look 2 (some .int) 0 0 0 0 [vr 11 0, vi p0] wl0 L0 S Sm (some (vi r)) wl0 L0 S Sm := by
  refine Ct.of RX11 false (by decide) rfl (fun h => by cases h) (Nat.le_of_ble_eq_true rfl) (fun J hJ hR => ?_)
  rw [fX11_look] at hF
  show J 0 [some (vr 11 0), some (vi p0)] [] wl0 L0 0 0 S Sm
  refine hJ.iload_n (pc := 0) dX11_look_0 rfl ?_
  by_cases h1 : p0 = 0
  · rw [if_pos h1] at hF
    refine hJ.tswIn (pc := 1) (off := (51)) 52 dX11_look_1 (by rw [h1]; decide) (by rw [h1]; decide) (by rw [h1]; decide) (by decide) ?_
    refine hJ.aload_n (pc := 52) dX11_look_52 rfl ?_
    refine hJ.gR (pc := 53) (k' := 0) (i' := 0) dX11_look_53 fr_X11_10 rfl ?_
    refine hJ.gI (pc := 56) dX11_look_56 fi_X11_80 ?_
    cases hF
    exact hR.i (pc := 59) dX11_look_59
  · rw [if_neg h1] at hF
    by_cases h2 : p0 = 1
    · rw [if_pos h2] at hF
      refine hJ.tswIn (pc := 1) (off := (59)) 60 dX11_look_1 (by rw [h2]; decide) (by rw [h2]; decide) (by rw [h2]; decide) (by decide) ?_
      refine hJ.aload_n (pc := 60) dX11_look_60 rfl ?_
      refine hJ.gR (pc := 61) (k' := 0) (i' := 0) dX11_look_61 fr_X11_10 rfl ?_
      refine hJ.gI (pc := 64) dX11_look_64 fi_X11_60 ?_
      cases hF
      exact hR.i (pc := 67) dX11_look_67
    · rw [if_neg h2] at hF
      by_cases h3 : p0 = 2
      · rw [if_pos h3] at hF
        refine hJ.tswIn (pc := 1) (off := (67)) 68 dX11_look_1 (by rw [h3]; decide) (by rw [h3]; decide) (by rw [h3]; decide) (by decide) ?_
        refine hJ.aload_n (pc := 68) dX11_look_68 rfl ?_
        refine hJ.gR (pc := 69) (k' := 0) (i' := 0) dX11_look_69 fr_X11_10 rfl ?_
        refine hJ.gI (pc := 72) dX11_look_72 fi_X11_90 ?_
        cases hF
        exact hR.i (pc := 75) dX11_look_75
      · rw [if_neg h3] at hF
        by_cases h4 : p0 = 3
        · rw [if_pos h4] at hF
          refine hJ.tswIn (pc := 1) (off := (75)) 76 dX11_look_1 (by rw [h4]; decide) (by rw [h4]; decide) (by rw [h4]; decide) (by decide) ?_
          refine hJ.aload_n (pc := 76) dX11_look_76 rfl ?_
          refine hJ.gR (pc := 77) (k' := 0) (i' := 0) dX11_look_77 fr_X11_10 rfl ?_
          refine hJ.gR (pc := 80) (k' := 1) (i' := 0) dX11_look_80 fr_X11_124 rfl ?_
          refine hJ.gI (pc := 83) dX11_look_83 fi_X11_305 ?_
          cases hF
          exact hR.i (pc := 86) dX11_look_86
        · rw [if_neg h4] at hF
          by_cases h5 : p0 = 4
          · rw [if_pos h5] at hF
            refine hJ.tswIn (pc := 1) (off := (86)) 87 dX11_look_1 (by rw [h5]; decide) (by rw [h5]; decide) (by rw [h5]; decide) (by decide) ?_
            refine hJ.aload_n (pc := 87) dX11_look_87 rfl ?_
            refine hJ.gR (pc := 88) (k' := 0) (i' := 0) dX11_look_88 fr_X11_10 rfl ?_
            refine hJ.gR (pc := 91) (k' := 2) (i' := 0) dX11_look_91 fr_X11_232 rfl ?_
            refine hJ.gI (pc := 94) dX11_look_94 fi_X11_306 ?_
            cases hF
            exact hR.i (pc := 97) dX11_look_97
          · rw [if_neg h5] at hF
            by_cases h6 : p0 = 5
            · rw [if_pos h6] at hF
              refine hJ.tswIn (pc := 1) (off := (97)) 98 dX11_look_1 (by rw [h6]; decide) (by rw [h6]; decide) (by rw [h6]; decide) (by decide) ?_
              refine hJ.aload_n (pc := 98) dX11_look_98 rfl ?_
              refine hJ.gR (pc := 99) (k' := 0) (i' := 0) dX11_look_99 fr_X11_10 rfl ?_
              refine hJ.gI (pc := 102) dX11_look_102 fi_X11_51 ?_
              cases hF
              exact hR.i (pc := 105) dX11_look_105
            · rw [if_neg h6] at hF
              by_cases h7 : p0 = 6
              · rw [if_pos h7] at hF
                refine hJ.tswIn (pc := 1) (off := (105)) 106 dX11_look_1 (by rw [h7]; decide) (by rw [h7]; decide) (by rw [h7]; decide) (by decide) ?_
                refine hJ.aload_n (pc := 106) dX11_look_106 rfl ?_
                refine hJ.gR (pc := 107) (k' := 0) (i' := 0) dX11_look_107 fr_X11_10 rfl ?_
                refine hJ.gR (pc := 110) (k' := 3) (i' := 0) dX11_look_110 fr_X11_168 rfl ?_
                refine hJ.gI (pc := 113) dX11_look_113 fi_X11_181 ?_
                cases hF
                exact hR.i (pc := 116) dX11_look_116
              · rw [if_neg h7] at hF
                by_cases h8 : p0 = 7
                · rw [if_pos h8] at hF
                  refine hJ.tswIn (pc := 1) (off := (116)) 117 dX11_look_1 (by rw [h8]; decide) (by rw [h8]; decide) (by rw [h8]; decide) (by decide) ?_
                  refine hJ.aload_n (pc := 117) dX11_look_117 rfl ?_
                  refine hJ.gR (pc := 118) (k' := 10) (i' := 0) dX11_look_118 fr_X11_40 rfl ?_
                  refine hJ.gI (pc := 121) dX11_look_121 fi_X11_286 ?_
                  cases hF
                  exact hR.i (pc := 124) dX11_look_124
                · rw [if_neg h8] at hF
                  by_cases h9 : p0 = 8
                  · rw [if_pos h9] at hF
                    refine hJ.tswIn (pc := 1) (off := (124)) 125 dX11_look_1 (by rw [h9]; decide) (by rw [h9]; decide) (by rw [h9]; decide) (by decide) ?_
                    refine hJ.aload_n (pc := 125) dX11_look_125 rfl ?_
                    refine hJ.gR (pc := 126) (k' := 0) (i' := 0) dX11_look_126 fr_X11_10 rfl ?_
                    refine hJ.gI (pc := 129) dX11_look_129 fi_X11_307 ?_
                    cases hF
                    exact hR.i (pc := 132) dX11_look_132
                  · rw [if_neg h9] at hF
                    refine hJ.tswD (pc := 1) 133 [0, 1, 2, 3, 4, 5, 6, 7, 8] dX11_look_1 (List.forall_mem_cons.mpr ⟨lv_neT (k := 0) (a := (0)) h1 (by decide), List.forall_mem_cons.mpr ⟨lv_neT (k := 1) (a := (1)) h2 (by decide), List.forall_mem_cons.mpr ⟨lv_neT (k := 2) (a := (2)) h3 (by decide), List.forall_mem_cons.mpr ⟨lv_neT (k := 3) (a := (3)) h4 (by decide), List.forall_mem_cons.mpr ⟨lv_neT (k := 4) (a := (4)) h5 (by decide), List.forall_mem_cons.mpr ⟨lv_neT (k := 5) (a := (5)) h6 (by decide), List.forall_mem_cons.mpr ⟨lv_neT (k := 6) (a := (6)) h7 (by decide), List.forall_mem_cons.mpr ⟨lv_neT (k := 7) (a := (7)) h8 (by decide), List.forall_mem_cons.mpr ⟨lv_neT (k := 8) (a := (8)) h9 (by decide), List.forall_mem_nil _⟩⟩⟩⟩⟩⟩⟩⟩⟩) (by decide) (by decide) ?_
                    refine hJ.iconst (pc := 133) (-1) dX11_look_133 ic_m1 ?_
                    cases hF
                    exact hR.i (pc := 134) dX11_look_134
set_option maxRecDepth 100000 in
set_option maxHeartbeats 4000000 in
theorem ctX12_state (p0 : Int32) (Sc S : Mem) (r : Int32) (S' : Mem) (hF : fX12_state p0 S = (r, S')) : Ct yX12_state cX12_state 3 (some .int) 0 0 0 0 [vr 12 0, vi p0] wl0 L0 Sc S (some (vi r)) wl0 L0 Sc S' := by
  refine Ct.of RX12 false (by decide) rfl (fun h => by cases h) (Nat.le_of_ble_eq_true rfl) (fun J hJ hR => ?_)
  rw [fX12_state] at hF
  show J 0 [some (vr 12 0), some (vi p0), none] [] wl0 L0 0 0 Sc S
  refine hJ.aload_n (pc := 0) dX12_state_0 rfl ?_
  refine hJ.iconst (pc := 1) 0 dX12_state_1 ic_0 ?_
  refine hJ.pIM (pc := 2) dX12_state_2 fp_X12_104 ?_
  refine hJ.aload_n (pc := 5) dX12_state_5 rfl ?_
  refine hJ.gM (pc := 6) dX12_state_6 fi_X12_107 ?_
  refine hJ.istore_n (pc := 9) [some (vr 12 0), some (vi p0), some (vi ((up S 12 0 0 0) 12 0 1))] dX12_state_9 (by decide) rfl ?_
  refine hJ.aload_n (pc := 10) dX12_state_10 rfl ?_
  refine hJ.iload_n (pc := 11) dX12_state_11 rfl ?_
  refine hJ.pIM (pc := 12) dX12_state_12 fp_X12_107 ?_
  refine hJ.iload_n (pc := 15) dX12_state_15 rfl ?_
  cases hF
  exact hR.i (pc := 16) dX12_state_16
set_option maxRecDepth 100000 in
set_option maxHeartbeats 4000000 in
theorem ctX12_isIn (p0 : Int32) (p1 : Int32) (p2 : Int32) (Sc Sm : Mem) (r : Int32) (hF : fX12_isIn p0 p1 p2 = r) : Ct yX12_isIn cX12_isIn 4 (some .boolean) 0 0 0 0 [vr 12 0, vi p0, vi p1, vi p2] wl0 L0 Sc Sm (some (vi r)) wl0 L0 Sc Sm := by
  refine Ct.of RX12 false (by decide) rfl (fun h => by cases h) (Nat.le_of_ble_eq_true rfl) (fun J hJ hR => ?_)
  rw [fX12_isIn] at hF
  show J 0 [some (vr 12 0), some (vi p0), some (vi p1), some (vi p2)] [] wl0 L0 0 0 Sc Sm
  refine hJ.iload_n (pc := 0) dX12_isIn_0 rfl ?_
  refine hJ.iload_n (pc := 1) dX12_isIn_1 rfl ?_
  refine hJ.icmp_lt (pc := 2) 14 dX12_isIn_2 (by decide) (fun h1 => ?_) (fun h1 => ?_)
  · rw [if_pos h1] at hF
    refine hJ.iconst (pc := 14) 0 dX12_isIn_14 ic_0 ?_
    cases hF
    exact hR.n (pc := 15) (by decide) dX12_isIn_15
  · rw [if_neg h1] at hF
    refine hJ.iload_n (pc := 5) dX12_isIn_5 rfl ?_
    refine hJ.iload_n (pc := 6) dX12_isIn_6 rfl ?_
    refine hJ.icmp_gt (pc := 7) 14 dX12_isIn_7 (by decide) (fun h2 => ?_) (fun h2 => ?_)
    · rw [if_pos h2] at hF
      refine hJ.iconst (pc := 14) 0 dX12_isIn_14 ic_0 ?_
      cases hF
      exact hR.n (pc := 15) (by decide) dX12_isIn_15
    · rw [if_neg h2] at hF
      refine hJ.iconst (pc := 10) 1 dX12_isIn_10 ic_1 ?_
      refine hJ.goto (pc := 11) 15 dX12_isIn_11 (by decide) ?_
      cases hF
      exact hR.n (pc := 15) (by decide) dX12_isIn_15
set_option maxRecDepth 100000 in
set_option maxHeartbeats 4000000 in
theorem ctX12_reader (p0 : Int32) (p1 : Int32) (p2 : Int32) (p3 : Int32) (Sc S : Mem) (r : Int32) (S' : Mem) (hF : fX12_reader p0 p1 p2 p3 S = some (r, S')) : Ct yX12_reader cX12_reader 5 (some .int) 1 23 0 0 [vr 12 0, vi p0, vi p1, vi p2, vi p3] wl0 L0 Sc S (some (vi r)) wl0 L0 Sc S' := by
  refine Ct.of RX12 false (by decide) rfl (fun h => by cases h) (Nat.le_of_ble_eq_true rfl) (fun J hJ hR => ?_)
  rw [fX12_reader] at hF
  show J 0 [some (vr 12 0), some (vi p0), some (vi p1), some (vi p2), some (vi p3)] [] wl0 L0 0 0 Sc S
  refine hJ.aload_n (pc := 0) dX12_reader_0 rfl ?_
  refine hJ.iconst (pc := 1) 0 dX12_reader_1 ic_0 ?_
  refine hJ.pIM (pc := 2) dX12_reader_2 fp_X12_104 ?_
  refine hJ.aload_n (pc := 5) dX12_reader_5 rfl ?_
  refine hJ.iload_n (pc := 6) dX12_reader_6 rfl ?_
  refine hJ.ldc (pc := 7) (v := (-36500)) dX12_reader_7 kw_X12_115 ?_
  refine hJ.sipush (pc := 9) 9999 dX12_reader_9 sc_9999 ?_
  refine hJ.cV (pc := 12) [vi p0, vi (-36500), vi 9999] [] [vi (fX12_isIn p0 (-36500) 9999)] dX12_reader_12 lk_X12_116 (ctX12_isIn p0 (-36500) 9999 _ _ (fX12_isIn p0 (-36500) 9999) rfl) rfl rfl rfl rfl ?_
  refine hJ.if_eq (pc := 15) 60 dX12_reader_15 (by decide) (fun h1 => ?_) (fun h1 => ?_)
  · rw [if_pos h1] at hF
    refine hJ.iconst (pc := 60) (-1) dX12_reader_60 ic_m1 ?_
    cases hF
    exact hR.i (pc := 61) dX12_reader_61
  · rw [if_neg h1] at hF
    refine hJ.aload_n (pc := 18) dX12_reader_18 rfl ?_
    refine hJ.iload_n (pc := 19) dX12_reader_19 rfl ?_
    refine hJ.iconst (pc := 20) (-1) dX12_reader_20 ic_m1 ?_
    refine hJ.sipush (pc := 21) 9999 dX12_reader_21 sc_9999 ?_
    refine hJ.cV (pc := 24) [vi p1, vi (-1), vi 9999] [] [vi (fX12_isIn p1 (-1) 9999)] dX12_reader_24 lk_X12_116 (ctX12_isIn p1 (-1) 9999 _ _ (fX12_isIn p1 (-1) 9999) rfl) rfl rfl rfl rfl ?_
    refine hJ.if_eq (pc := 27) 60 dX12_reader_27 (by decide) (fun h2 => ?_) (fun h2 => ?_)
    · rw [if_pos h2] at hF
      refine hJ.iconst (pc := 60) (-1) dX12_reader_60 ic_m1 ?_
      cases hF
      exact hR.i (pc := 61) dX12_reader_61
    · rw [if_neg h2] at hF
      refine hJ.aload_n (pc := 30) dX12_reader_30 rfl ?_
      refine hJ.iload_n (pc := 31) dX12_reader_31 rfl ?_
      refine hJ.iconst (pc := 32) 0 dX12_reader_32 ic_0 ?_
      refine hJ.iconst (pc := 33) 1 dX12_reader_33 ic_1 ?_
      refine hJ.cV (pc := 34) [vi p2, vi 0, vi 1] [] [vi (fX12_isIn p2 0 1)] dX12_reader_34 lk_X12_116 (ctX12_isIn p2 0 1 _ _ (fX12_isIn p2 0 1) rfl) rfl rfl rfl rfl ?_
      refine hJ.if_eq (pc := 37) 60 dX12_reader_37 (by decide) (fun h3 => ?_) (fun h3 => ?_)
      · rw [if_pos h3] at hF
        refine hJ.iconst (pc := 60) (-1) dX12_reader_60 ic_m1 ?_
        cases hF
        exact hR.i (pc := 61) dX12_reader_61
      · rw [if_neg h3] at hF
        refine hJ.aload_n (pc := 40) dX12_reader_40 rfl ?_
        refine hJ.iload (pc := 41) dX12_reader_41 rfl ?_
        refine hJ.iconst (pc := 43) 0 dX12_reader_43 ic_0 ?_
        refine hJ.iconst (pc := 44) 3 dX12_reader_44 ic_3 ?_
        refine hJ.cV (pc := 45) [vi p3, vi 0, vi 3] [] [vi (fX12_isIn p3 0 3)] dX12_reader_45 lk_X12_116 (ctX12_isIn p3 0 3 _ _ (fX12_isIn p3 0 3) rfl) rfl rfl rfl rfl ?_
        refine hJ.if_eq (pc := 48) 60 dX12_reader_48 (by decide) (fun h4 => ?_) (fun h4 => ?_)
        · rw [if_pos h4] at hF
          refine hJ.iconst (pc := 60) (-1) dX12_reader_60 ic_m1 ?_
          cases hF
          exact hR.i (pc := 61) dX12_reader_61
        · rw [if_neg h4] at hF
          refine hJ.aload_n (pc := 51) dX12_reader_51 rfl ?_
          refine hJ.gM (pc := 52) dX12_reader_52 fi_X12_112 ?_
          refine hJ.bipush (pc := 55) 12 dX12_reader_55 bc_12 ?_
          refine hJ.icmp_ne (pc := 57) 62 dX12_reader_57 (by decide) (fun h5 => ?_) (fun h5 => ?_)
          · rw [if_neg h5] at hF
            refine hJ.aload_n (pc := 62) dX12_reader_62 rfl ?_
            refine hJ.gR (pc := 63) (k' := 60) (i' := 0) dX12_reader_63 fr_X12_7 rfl ?_
            refine hJ.aload_n (pc := 66) dX12_reader_66 rfl ?_
            refine hJ.gM (pc := 67) dX12_reader_67 fi_X12_112 ?_
            refine hJ.iload_n (pc := 70) dX12_reader_70 rfl ?_
            obtain ⟨j6, h7, hF⟩ := bn_some hF
            refine hJ.siastM (pc := 71) dX12_reader_71 al_60 h7 ?_
            refine hJ.aload_n (pc := 72) dX12_reader_72 rfl ?_
            refine hJ.gR (pc := 73) (k' := 61) (i' := 0) dX12_reader_73 fr_X12_13 rfl ?_
            refine hJ.aload_n (pc := 76) dX12_reader_76 rfl ?_
            refine hJ.gM (pc := 77) dX12_reader_77 fi_X12_112 ?_
            refine hJ.iload_n (pc := 80) dX12_reader_80 rfl ?_
            obtain ⟨j8, h9, hF⟩ := bn_some hF
            refine hJ.siastM (pc := 81) dX12_reader_81 al_61 h9 ?_
            refine hJ.aload_n (pc := 82) dX12_reader_82 rfl ?_
            refine hJ.gR (pc := 83) (k' := 62) (i' := 0) dX12_reader_83 fr_X12_16 rfl ?_
            refine hJ.aload_n (pc := 86) dX12_reader_86 rfl ?_
            refine hJ.gM (pc := 87) dX12_reader_87 fi_X12_112 ?_
            refine hJ.iload_n (pc := 90) dX12_reader_90 rfl ?_
            obtain ⟨j10, h11, hF⟩ := bn_some hF
            refine hJ.siastM (pc := 91) dX12_reader_91 al_62 h11 ?_
            refine hJ.aload_n (pc := 92) dX12_reader_92 rfl ?_
            refine hJ.gR (pc := 93) (k' := 63) (i' := 0) dX12_reader_93 fr_X12_19 rfl ?_
            refine hJ.aload_n (pc := 96) dX12_reader_96 rfl ?_
            refine hJ.gM (pc := 97) dX12_reader_97 fi_X12_112 ?_
            refine hJ.iload (pc := 100) dX12_reader_100 rfl ?_
            obtain ⟨j12, h13, hF⟩ := bn_some hF
            refine hJ.siastM (pc := 102) dX12_reader_102 al_63 h13 ?_
            refine hJ.aload_n (pc := 103) dX12_reader_103 rfl ?_
            refine hJ.gR (pc := 104) (k' := 64) (i' := 0) dX12_reader_104 fr_X12_22 rfl ?_
            refine hJ.aload_n (pc := 107) dX12_reader_107 rfl ?_
            refine hJ.gM (pc := 108) dX12_reader_108 fi_X12_112 ?_
            refine hJ.iconst (pc := 111) 0 dX12_reader_111 ic_0 ?_
            obtain ⟨j14, h15, hF⟩ := bn_some hF
            refine hJ.siastM (pc := 112) dX12_reader_112 al_64 h15 ?_
            refine hJ.aload_n (pc := 113) dX12_reader_113 rfl ?_
            refine hJ.aload_n (pc := 114) dX12_reader_114 rfl ?_
            refine hJ.gM (pc := 115) dX12_reader_115 fi_X12_112 ?_
            refine hJ.iconst (pc := 118) 1 dX12_reader_118 ic_1 ?_
            refine hJ.iadd (pc := 119) dX12_reader_119 ?_
            refine hJ.pIM (pc := 120) dX12_reader_120 fp_X12_112 ?_
            refine hJ.aload_n (pc := 123) dX12_reader_123 rfl ?_
            refine hJ.iconst (pc := 124) 0 dX12_reader_124 ic_0 ?_
            refine hJ.pIM (pc := 125) dX12_reader_125 fp_X12_120 ?_
            refine hJ.aload_n (pc := 128) dX12_reader_128 rfl ?_
            refine hJ.gM (pc := 129) dX12_reader_129 fi_X12_112 ?_
            refine hJ.iconst (pc := 132) 1 dX12_reader_132 ic_1 ?_
            refine hJ.isub (pc := 133) dX12_reader_133 ?_
            cases hF
            exact hR.i (pc := 134) dX12_reader_134
          · rw [if_pos h5] at hF
            refine hJ.iconst (pc := 60) (-1) dX12_reader_60 ic_m1 ?_
            cases hF
            exact hR.i (pc := 61) dX12_reader_61
set_option maxRecDepth 100000 in
set_option maxHeartbeats 4000000 in
theorem ctX12_isReader (p0 : Int32) (Sc S : Mem) (r : Int32) (hF : fX12_isReader p0 S = r) : Ct yX12_isReader cX12_isReader 2 (some .boolean) 0 0 0 0 [vr 12 0, vi p0] wl0 L0 Sc S (some (vi r)) wl0 L0 Sc S := by
  refine Ct.of RX12 false (by decide) rfl (fun h => by cases h) (Nat.le_of_ble_eq_true rfl) (fun J hJ hR => ?_)
  rw [fX12_isReader] at hF
  show J 0 [some (vr 12 0), some (vi p0)] [] wl0 L0 0 0 Sc S
  refine hJ.iload_n (pc := 0) dX12_isReader_0 rfl ?_
  refine hJ.if_lt (pc := 1) 16 dX12_isReader_1 (by decide) (fun h1 => ?_) (fun h1 => ?_)
  · rw [if_pos h1] at hF
    refine hJ.iconst (pc := 16) 0 dX12_isReader_16 ic_0 ?_
    cases hF
    exact hR.n (pc := 17) (by decide) dX12_isReader_17
  · rw [if_neg h1] at hF
    refine hJ.iload_n (pc := 4) dX12_isReader_4 rfl ?_
    refine hJ.aload_n (pc := 5) dX12_isReader_5 rfl ?_
    refine hJ.gM (pc := 6) dX12_isReader_6 fi_X12_112 ?_
    refine hJ.icmp_ge (pc := 9) 16 dX12_isReader_9 (by decide) (fun h2 => ?_) (fun h2 => ?_)
    · rw [if_pos h2] at hF
      refine hJ.iconst (pc := 16) 0 dX12_isReader_16 ic_0 ?_
      cases hF
      exact hR.n (pc := 17) (by decide) dX12_isReader_17
    · rw [if_neg h2] at hF
      refine hJ.iconst (pc := 12) 1 dX12_isReader_12 ic_1 ?_
      refine hJ.goto (pc := 13) 17 dX12_isReader_13 (by decide) ?_
      cases hF
      exact hR.n (pc := 17) (by decide) dX12_isReader_17
set_option maxRecDepth 100000 in
set_option maxHeartbeats 4000000 in
theorem wX12_set_101 {J : Nat → Lv → List AV → Obs → Lay → Nat → Nat → Mem → Mem → Prop} (hJ : Cl RX12 cX12_set 4 1 23 0 0 none false J) {r : Int32} {Sc S' : Mem} (hR : Rk cX12_set (some .boolean) (some (vi r)) wl0 L0 0 0 Sc S' J) (x1 : Int32) (x2 : Int32) (x3 : Int32) (S : Mem) (hF : fX12_set_101 x1 x2 x3 S = some (r, S')) : J 101 [some (vr 12 0), some (vi x1), some (vi x2), some (vi x3)] [] wl0 L0 0 0 Sc S := by
  rw [fX12_set_101] at hF
  refine hJ.iload_n (pc := 101) dX12_set_101 rfl ?_
  refine hJ.iconst (pc := 102) 2 dX12_set_102 ic_2 ?_
  refine hJ.icmp_ne (pc := 103) 113 dX12_set_103 (by decide) (fun h12 => ?_) (fun h12 => ?_)
  · rw [if_neg h12] at hF
    refine hJ.aload_n (pc := 113) dX12_set_113 rfl ?_
    refine hJ.iconst (pc := 114) 0 dX12_set_114 ic_0 ?_
    refine hJ.pIM (pc := 115) dX12_set_115 fp_X12_120 ?_
    refine hJ.iconst (pc := 118) 1 dX12_set_118 ic_1 ?_
    cases hF
    exact hR.n (pc := 119) (by decide) dX12_set_119
  · rw [if_pos h12] at hF
    refine hJ.aload_n (pc := 106) dX12_set_106 rfl ?_
    refine hJ.gR (pc := 107) (k' := 64) (i' := 0) dX12_set_107 fr_X12_22 rfl ?_
    refine hJ.iload_n (pc := 110) dX12_set_110 rfl ?_
    refine hJ.iload_n (pc := 111) dX12_set_111 rfl ?_
    obtain ⟨j13, h14, hF⟩ := bn_some hF
    refine hJ.siastM (pc := 112) dX12_set_112 al_64 h14 ?_
    refine hJ.aload_n (pc := 113) dX12_set_113 rfl ?_
    refine hJ.iconst (pc := 114) 0 dX12_set_114 ic_0 ?_
    refine hJ.pIM (pc := 115) dX12_set_115 fp_X12_120 ?_
    refine hJ.iconst (pc := 118) 1 dX12_set_118 ic_1 ?_
    cases hF
    exact hR.n (pc := 119) (by decide) dX12_set_119
set_option maxRecDepth 100000 in
set_option maxHeartbeats 4000000 in
theorem wX12_set_89 {J : Nat → Lv → List AV → Obs → Lay → Nat → Nat → Mem → Mem → Prop} (hJ : Cl RX12 cX12_set 4 1 23 0 0 none false J) {r : Int32} {Sc S' : Mem} (hR : Rk cX12_set (some .boolean) (some (vi r)) wl0 L0 0 0 Sc S' J) (x1 : Int32) (x2 : Int32) (x3 : Int32) (S : Mem) (hF : fX12_set_89 x1 x2 x3 S = some (r, S')) : J 89 [some (vr 12 0), some (vi x1), some (vi x2), some (vi x3)] [] wl0 L0 0 0 Sc S := by
  rw [fX12_set_89] at hF
  refine hJ.iload_n (pc := 89) dX12_set_89 rfl ?_
  refine hJ.iconst (pc := 90) 1 dX12_set_90 ic_1 ?_
  refine hJ.icmp_ne (pc := 91) 101 dX12_set_91 (by decide) (fun h9 => ?_) (fun h9 => ?_)
  · rw [if_neg h9] at hF
    exact wX12_set_101 hJ hR x1 x2 x3 S hF
  · rw [if_pos h9] at hF
    refine hJ.aload_n (pc := 94) dX12_set_94 rfl ?_
    refine hJ.gR (pc := 95) (k' := 62) (i' := 0) dX12_set_95 fr_X12_16 rfl ?_
    refine hJ.iload_n (pc := 98) dX12_set_98 rfl ?_
    refine hJ.iload_n (pc := 99) dX12_set_99 rfl ?_
    obtain ⟨j10, h11, hF⟩ := bn_some hF
    refine hJ.siastM (pc := 100) dX12_set_100 al_62 h11 ?_
    exact wX12_set_101 hJ hR x1 x2 x3 (up S 62 0 j10 x3) hF
set_option maxRecDepth 100000 in
set_option maxHeartbeats 4000000 in
theorem wX12_set_78 {J : Nat → Lv → List AV → Obs → Lay → Nat → Nat → Mem → Mem → Prop} (hJ : Cl RX12 cX12_set 4 1 23 0 0 none false J) {r : Int32} {Sc S' : Mem} (hR : Rk cX12_set (some .boolean) (some (vi r)) wl0 L0 0 0 Sc S' J) (x1 : Int32) (x2 : Int32) (x3 : Int32) (S : Mem) (hF : fX12_set_78 x1 x2 x3 S = some (r, S')) : J 78 [some (vr 12 0), some (vi x1), some (vi x2), some (vi x3)] [] wl0 L0 0 0 Sc S := by
  rw [fX12_set_78] at hF
  refine hJ.iload_n (pc := 78) dX12_set_78 rfl ?_
  refine hJ.if_ne (pc := 79) 89 dX12_set_79 (by decide) (fun h6 => ?_) (fun h6 => ?_)
  · rw [if_neg h6] at hF
    exact wX12_set_89 hJ hR x1 x2 x3 S hF
  · rw [if_pos h6] at hF
    refine hJ.aload_n (pc := 82) dX12_set_82 rfl ?_
    refine hJ.gR (pc := 83) (k' := 61) (i' := 0) dX12_set_83 fr_X12_13 rfl ?_
    refine hJ.iload_n (pc := 86) dX12_set_86 rfl ?_
    refine hJ.iload_n (pc := 87) dX12_set_87 rfl ?_
    obtain ⟨j7, h8, hF⟩ := bn_some hF
    refine hJ.siastM (pc := 88) dX12_set_88 al_61 h8 ?_
    exact wX12_set_89 hJ hR x1 x2 x3 (up S 61 0 j7 x3) hF
set_option maxRecDepth 100000 in
set_option maxHeartbeats 4000000 in
theorem wX12_set_70 {J : Nat → Lv → List AV → Obs → Lay → Nat → Nat → Mem → Mem → Prop} (hJ : Cl RX12 cX12_set 4 1 23 0 0 none false J) {r : Int32} {Sc S' : Mem} (hR : Rk cX12_set (some .boolean) (some (vi r)) wl0 L0 0 0 Sc S' J) (x1 : Int32) (x2 : Int32) (x3 : Int32) (y0 : Int32) (y1 : Int32) (y2 : Int32) (S : Mem) (hF : fX12_set_70 x1 x2 x3 y0 y1 y2 S = some (r, S')) : J 70 [some (vr 12 0), some (vi x1), some (vi x2), some (vi x3)] [vi y0, vi y1, vi y2, vr 12 0] wl0 L0 0 0 Sc S := by
  rw [fX12_set_70] at hF
  refine hJ.cV (pc := 70) [vi y2, vi y1, vi y0] [] [vi (fX12_isIn y2 y1 y0)] dX12_set_70 lk_X12_116 (ctX12_isIn y2 y1 y0 _ _ (fX12_isIn y2 y1 y0) rfl) rfl rfl rfl rfl ?_
  refine hJ.if_ne (pc := 73) 78 dX12_set_73 (by decide) (fun h16 => ?_) (fun h16 => ?_)
  · rw [if_neg h16] at hF
    exact wX12_set_78 hJ hR x1 x2 x3 S hF
  · rw [if_pos h16] at hF
    refine hJ.iconst (pc := 76) 0 dX12_set_76 ic_0 ?_
    cases hF
    exact hR.n (pc := 77) (by decide) dX12_set_77
set_option maxRecDepth 100000 in
set_option maxHeartbeats 4000000 in
theorem wX12_set_51 {J : Nat → Lv → List AV → Obs → Lay → Nat → Nat → Mem → Mem → Prop} (hJ : Cl RX12 cX12_set 4 1 23 0 0 none false J) {r : Int32} {Sc S' : Mem} (hR : Rk cX12_set (some .boolean) (some (vi r)) wl0 L0 0 0 Sc S' J) (x1 : Int32) (x2 : Int32) (x3 : Int32) (S : Mem) (hF : fX12_set_51 x1 x2 x3 S = some (r, S')) : J 51 [some (vr 12 0), some (vi x1), some (vi x2), some (vi x3)] [] wl0 L0 0 0 Sc S := by
  rw [fX12_set_51] at hF
  refine hJ.iload_n (pc := 51) dX12_set_51 rfl ?_
  refine hJ.if_le (pc := 52) 78 dX12_set_52 (by decide) (fun h5 => ?_) (fun h5 => ?_)
  · rw [if_pos h5] at hF
    exact wX12_set_78 hJ hR x1 x2 x3 S hF
  · rw [if_neg h5] at hF
    refine hJ.aload_n (pc := 55) dX12_set_55 rfl ?_
    refine hJ.iload_n (pc := 56) dX12_set_56 rfl ?_
    refine hJ.iconst (pc := 57) 0 dX12_set_57 ic_0 ?_
    refine hJ.iload_n (pc := 58) dX12_set_58 rfl ?_
    refine hJ.iconst (pc := 59) 1 dX12_set_59 ic_1 ?_
    refine hJ.icmp_ne (pc := 60) 67 dX12_set_60 (by decide) (fun h15 => ?_) (fun h15 => ?_)
    · rw [if_neg h15] at hF
      refine hJ.sipush (pc := 67) 9999 dX12_set_67 sc_9999 ?_
      exact wX12_set_70 hJ hR x1 x2 x3 9999 0 x3 S hF
    · rw [if_pos h15] at hF
      refine hJ.iconst (pc := 63) 1 dX12_set_63 ic_1 ?_
      refine hJ.goto (pc := 64) 70 dX12_set_64 (by decide) ?_
      exact wX12_set_70 hJ hR x1 x2 x3 1 0 x3 S hF
set_option maxRecDepth 100000 in
set_option maxHeartbeats 4000000 in
theorem ctX12_set (p0 : Int32) (p1 : Int32) (p2 : Int32) (Sc S : Mem) (r : Int32) (S' : Mem) (hF : fX12_set p0 p1 p2 S = some (r, S')) : Ct yX12_set cX12_set 4 (some .boolean) 1 23 0 0 [vr 12 0, vi p0, vi p1, vi p2] wl0 L0 Sc S (some (vi r)) wl0 L0 Sc S' := by
  refine Ct.of RX12 false (by decide) rfl (fun h => by cases h) (Nat.le_of_ble_eq_true rfl) (fun J hJ hR => ?_)
  rw [fX12_set] at hF
  show J 0 [some (vr 12 0), some (vi p0), some (vi p1), some (vi p2)] [] wl0 L0 0 0 Sc S
  refine hJ.aload_n (pc := 0) dX12_set_0 rfl ?_
  refine hJ.iconst (pc := 1) 0 dX12_set_1 ic_0 ?_
  refine hJ.pIM (pc := 2) dX12_set_2 fp_X12_104 ?_
  refine hJ.aload_n (pc := 5) dX12_set_5 rfl ?_
  refine hJ.iload_n (pc := 6) dX12_set_6 rfl ?_
  refine hJ.cV (pc := 7) [vi p0] [] [vi (fX12_isReader p0 (up S 12 0 0 0))] dX12_set_7 lk_X12_123 (ctX12_isReader p0 _ _ (fX12_isReader p0 (up S 12 0 0 0)) rfl) rfl rfl rfl rfl ?_
  refine hJ.if_eq (pc := 10) 23 dX12_set_10 (by decide) (fun h1 => ?_) (fun h1 => ?_)
  · rw [if_pos h1] at hF
    refine hJ.iconst (pc := 23) 0 dX12_set_23 ic_0 ?_
    cases hF
    exact hR.n (pc := 24) (by decide) dX12_set_24
  · rw [if_neg h1] at hF
    refine hJ.aload_n (pc := 13) dX12_set_13 rfl ?_
    refine hJ.iload_n (pc := 14) dX12_set_14 rfl ?_
    refine hJ.iconst (pc := 15) 0 dX12_set_15 ic_0 ?_
    refine hJ.iconst (pc := 16) 2 dX12_set_16 ic_2 ?_
    refine hJ.cV (pc := 17) [vi p1, vi 0, vi 2] [] [vi (fX12_isIn p1 0 2)] dX12_set_17 lk_X12_116 (ctX12_isIn p1 0 2 _ _ (fX12_isIn p1 0 2) rfl) rfl rfl rfl rfl ?_
    refine hJ.if_ne (pc := 20) 25 dX12_set_20 (by decide) (fun h2 => ?_) (fun h2 => ?_)
    · rw [if_neg h2] at hF
      refine hJ.iload_n (pc := 25) dX12_set_25 rfl ?_
      refine hJ.if_ne (pc := 26) 51 dX12_set_26 (by decide) (fun h3 => ?_) (fun h3 => ?_)
      · rw [if_neg h3] at hF
        exact wX12_set_51 hJ hR p0 p1 p2 (up S 12 0 0 0) hF
      · rw [if_pos h3] at hF
        refine hJ.iload_n (pc := 29) dX12_set_29 rfl ?_
        refine hJ.iconst (pc := 30) (-1) dX12_set_30 ic_m1 ?_
        refine hJ.icmp_eq (pc := 31) 51 dX12_set_31 (by decide) (fun h4 => ?_) (fun h4 => ?_)
        · rw [if_pos h4] at hF
          exact wX12_set_51 hJ hR p0 p1 p2 (up S 12 0 0 0) hF
        · rw [if_neg h4] at hF
          refine hJ.aload_n (pc := 34) dX12_set_34 rfl ?_
          refine hJ.iload_n (pc := 35) dX12_set_35 rfl ?_
          refine hJ.aload_n (pc := 36) dX12_set_36 rfl ?_
          refine hJ.gM (pc := 37) dX12_set_37 fi_X12_127 ?_
          refine hJ.sipush (pc := 40) 9999 dX12_set_40 sc_9999 ?_
          refine hJ.cV (pc := 43) [vi p2, vi ((up S 12 0 0 0) 12 0 2), vi 9999] [] [vi (fX12_isIn p2 ((up S 12 0 0 0) 12 0 2) 9999)] dX12_set_43 lk_X12_116 (ctX12_isIn p2 ((up S 12 0 0 0) 12 0 2) 9999 _ _ (fX12_isIn p2 ((up S 12 0 0 0) 12 0 2) 9999) rfl) rfl rfl rfl rfl ?_
          refine hJ.if_ne (pc := 46) 51 dX12_set_46 (by decide) (fun h17 => ?_) (fun h17 => ?_)
          · rw [if_neg h17] at hF
            exact wX12_set_51 hJ hR p0 p1 p2 (up S 12 0 0 0) hF
          · rw [if_pos h17] at hF
            refine hJ.iconst (pc := 49) 0 dX12_set_49 ic_0 ?_
            cases hF
            exact hR.n (pc := 50) (by decide) dX12_set_50
    · rw [if_pos h2] at hF
      refine hJ.iconst (pc := 23) 0 dX12_set_23 ic_0 ?_
      cases hF
      exact hR.n (pc := 24) (by decide) dX12_set_24
set_option maxRecDepth 100000 in
set_option maxHeartbeats 4000000 in
theorem ctX12_isShelf (p0 : Int32) (Sc Sm : Mem) (r : Int32) (hF : fX12_isShelf p0 = r) : Ct yX12_isShelf cX12_isShelf 2 (some .boolean) 0 0 0 0 [vr 12 0, vi p0] wl0 L0 Sc Sm (some (vi r)) wl0 L0 Sc Sm := by
  refine Ct.of RX12 false (by decide) rfl (fun h => by cases h) (Nat.le_of_ble_eq_true rfl) (fun J hJ hR => ?_)
  rw [fX12_isShelf] at hF
  show J 0 [some (vr 12 0), some (vi p0)] [] wl0 L0 0 0 Sc Sm
  refine hJ.iload_n (pc := 0) dX12_isShelf_0 rfl ?_
  refine hJ.if_lt (pc := 1) 13 dX12_isShelf_1 (by decide) (fun h1 => ?_) (fun h1 => ?_)
  · rw [if_pos h1] at hF
    refine hJ.iconst (pc := 13) 0 dX12_isShelf_13 ic_0 ?_
    cases hF
    exact hR.n (pc := 14) (by decide) dX12_isShelf_14
  · rw [if_neg h1] at hF
    refine hJ.iload_n (pc := 4) dX12_isShelf_4 rfl ?_
    refine hJ.iconst (pc := 5) 5 dX12_isShelf_5 ic_5 ?_
    refine hJ.icmp_ge (pc := 6) 13 dX12_isShelf_6 (by decide) (fun h2 => ?_) (fun h2 => ?_)
    · rw [if_pos h2] at hF
      refine hJ.iconst (pc := 13) 0 dX12_isShelf_13 ic_0 ?_
      cases hF
      exact hR.n (pc := 14) (by decide) dX12_isShelf_14
    · rw [if_neg h2] at hF
      refine hJ.iconst (pc := 9) 1 dX12_isShelf_9 ic_1 ?_
      refine hJ.goto (pc := 10) 14 dX12_isShelf_10 (by decide) ?_
      cases hF
      exact hR.n (pc := 14) (by decide) dX12_isShelf_14
set_option maxRecDepth 100000 in
set_option maxHeartbeats 4000000 in
theorem ctX12_isUnread (p0 : Int32) (Sc S : Mem) (S' : Mem) (hF : fX12_isUnread p0 S = some (S')) : Ct yX12_isUnread cX12_isUnread 2 none 0 0 0 0 [vr 12 0, vi p0] wl0 L0 Sc S none wl0 L0 Sc S' := by
  refine Ct.of RX12 false (by decide) rfl (fun h => by cases h) (Nat.le_of_ble_eq_true rfl) (fun J hJ hR => ?_)
  rw [fX12_isUnread] at hF
  show J 0 [some (vr 12 0), some (vi p0)] [] wl0 L0 0 0 Sc S
  refine hJ.aload_n (pc := 0) dX12_isUnread_0 rfl ?_
  refine hJ.gR (pc := 1) (k' := 67) (i' := 0) dX12_isUnread_1 fr_X12_31 rfl ?_
  refine hJ.iload_n (pc := 4) dX12_isUnread_4 rfl ?_
  refine hJ.iconst (pc := 5) 0 dX12_isUnread_5 ic_0 ?_
  obtain ⟨j1, h2, hF⟩ := bn_some hF
  refine hJ.siastM (pc := 6) dX12_isUnread_6 al_67 h2 ?_
  refine hJ.aload_n (pc := 7) dX12_isUnread_7 rfl ?_
  refine hJ.gR (pc := 8) (k' := 68) (i' := 0) dX12_isUnread_8 fr_X12_34 rfl ?_
  refine hJ.iload_n (pc := 11) dX12_isUnread_11 rfl ?_
  refine hJ.iconst (pc := 12) 0 dX12_isUnread_12 ic_0 ?_
  refine hJ.siastM (pc := 13) dX12_isUnread_13 al_68 h2 ?_
  refine hJ.aload_n (pc := 14) dX12_isUnread_14 rfl ?_
  refine hJ.gR (pc := 15) (k' := 69) (i' := 0) dX12_isUnread_15 fr_X12_37 rfl ?_
  refine hJ.iload_n (pc := 18) dX12_isUnread_18 rfl ?_
  refine hJ.iconst (pc := 19) 0 dX12_isUnread_19 ic_0 ?_
  refine hJ.siastM (pc := 20) dX12_isUnread_20 al_69 h2 ?_
  refine hJ.aload_n (pc := 21) dX12_isUnread_21 rfl ?_
  refine hJ.gR (pc := 22) (k' := 70) (i' := 0) dX12_isUnread_22 fr_X12_40 rfl ?_
  refine hJ.iload_n (pc := 25) dX12_isUnread_25 rfl ?_
  refine hJ.aload_n (pc := 26) dX12_isUnread_26 rfl ?_
  refine hJ.gM (pc := 27) dX12_isUnread_27 fi_X12_127 ?_
  refine hJ.siastM (pc := 30) dX12_isUnread_30 al_70 h2 ?_
  cases hF
  exact hR.v (pc := 31) dX12_isUnread_31
set_option maxRecDepth 100000 in
set_option maxHeartbeats 4000000 in
theorem ctX12_paper (p0 : Int32) (Sc S : Mem) (r : Int32) (S' : Mem) (hF : fX12_paper p0 S = some (r, S')) : Ct yX12_paper cX12_paper 2 (some .int) 1 21 0 0 [vr 12 0, vi p0] wl0 L0 Sc S (some (vi r)) wl0 L0 Sc S' := by
  refine Ct.of RX12 false (by decide) rfl (fun h => by cases h) (Nat.le_of_ble_eq_true rfl) (fun J hJ hR => ?_)
  rw [fX12_paper] at hF
  show J 0 [some (vr 12 0), some (vi p0)] [] wl0 L0 0 0 Sc S
  refine hJ.aload_n (pc := 0) dX12_paper_0 rfl ?_
  refine hJ.iconst (pc := 1) 0 dX12_paper_1 ic_0 ?_
  refine hJ.pIM (pc := 2) dX12_paper_2 fp_X12_104 ?_
  refine hJ.aload_n (pc := 5) dX12_paper_5 rfl ?_
  refine hJ.iload_n (pc := 6) dX12_paper_6 rfl ?_
  refine hJ.cV (pc := 7) [vi p0] [] [vi (fX12_isShelf p0)] dX12_paper_7 lk_X12_133 (ctX12_isShelf p0 _ _ (fX12_isShelf p0) rfl) rfl rfl rfl rfl ?_
  refine hJ.if_eq (pc := 10) 22 dX12_paper_10 (by decide) (fun h1 => ?_) (fun h1 => ?_)
  · rw [if_pos h1] at hF
    refine hJ.iconst (pc := 22) (-1) dX12_paper_22 ic_m1 ?_
    cases hF
    exact hR.i (pc := 23) dX12_paper_23
  · rw [if_neg h1] at hF
    refine hJ.aload_n (pc := 13) dX12_paper_13 rfl ?_
    refine hJ.gM (pc := 14) dX12_paper_14 fi_X12_130 ?_
    refine hJ.bipush (pc := 17) 12 dX12_paper_17 bc_12 ?_
    refine hJ.icmp_ne (pc := 19) 24 dX12_paper_19 (by decide) (fun h2 => ?_) (fun h2 => ?_)
    · rw [if_neg h2] at hF
      refine hJ.aload_n (pc := 24) dX12_paper_24 rfl ?_
      refine hJ.gR (pc := 25) (k' := 65) (i' := 0) dX12_paper_25 fr_X12_25 rfl ?_
      refine hJ.aload_n (pc := 28) dX12_paper_28 rfl ?_
      refine hJ.gM (pc := 29) dX12_paper_29 fi_X12_130 ?_
      refine hJ.iload_n (pc := 32) dX12_paper_32 rfl ?_
      obtain ⟨j3, h4, hF⟩ := bn_some hF
      refine hJ.siastM (pc := 33) dX12_paper_33 al_65 h4 ?_
      refine hJ.aload_n (pc := 34) dX12_paper_34 rfl ?_
      refine hJ.gR (pc := 35) (k' := 66) (i' := 0) dX12_paper_35 fr_X12_28 rfl ?_
      refine hJ.aload_n (pc := 38) dX12_paper_38 rfl ?_
      refine hJ.gM (pc := 39) dX12_paper_39 fi_X12_130 ?_
      refine hJ.aload_n (pc := 42) dX12_paper_42 rfl ?_
      refine hJ.gM (pc := 43) dX12_paper_43 fi_X12_127 ?_
      obtain ⟨j5, h6, hF⟩ := bn_some hF
      refine hJ.siastM (pc := 46) dX12_paper_46 al_66 h6 ?_
      refine hJ.aload_n (pc := 47) dX12_paper_47 rfl ?_
      refine hJ.aload_n (pc := 48) dX12_paper_48 rfl ?_
      refine hJ.gM (pc := 49) dX12_paper_49 fi_X12_130 ?_
      obtain ⟨S8, h7, hF⟩ := bn_some hF
      refine hJ.cV (pc := 52) [vi ((up (up (up S 12 0 0 0) 65 0 j3 p0) 66 0 j5 ((up (up S 12 0 0 0) 65 0 j3 p0) 12 0 2)) 12 0 10)] [] [] dX12_paper_52 lk_X12_136 (ctX12_isUnread ((up (up (up S 12 0 0 0) 65 0 j3 p0) 66 0 j5 ((up (up S 12 0 0 0) 65 0 j3 p0) 12 0 2)) 12 0 10) _ _ _ h7) rfl rfl rfl rfl ?_
      refine hJ.aload_n (pc := 55) dX12_paper_55 rfl ?_
      refine hJ.gR (pc := 56) (k' := 71) (i' := 0) dX12_paper_56 fr_X12_43 rfl ?_
      refine hJ.aload_n (pc := 59) dX12_paper_59 rfl ?_
      refine hJ.gM (pc := 60) dX12_paper_60 fi_X12_130 ?_
      refine hJ.iconst (pc := 63) (-1) dX12_paper_63 ic_m1 ?_
      obtain ⟨j9, h10, hF⟩ := bn_some hF
      refine hJ.siastM (pc := 64) dX12_paper_64 al_71 h10 ?_
      refine hJ.aload_n (pc := 65) dX12_paper_65 rfl ?_
      refine hJ.aload_n (pc := 66) dX12_paper_66 rfl ?_
      refine hJ.gM (pc := 67) dX12_paper_67 fi_X12_130 ?_
      refine hJ.iconst (pc := 70) 1 dX12_paper_70 ic_1 ?_
      refine hJ.iadd (pc := 71) dX12_paper_71 ?_
      refine hJ.pIM (pc := 72) dX12_paper_72 fp_X12_130 ?_
      refine hJ.aload_n (pc := 75) dX12_paper_75 rfl ?_
      refine hJ.iconst (pc := 76) 0 dX12_paper_76 ic_0 ?_
      refine hJ.pIM (pc := 77) dX12_paper_77 fp_X12_120 ?_
      refine hJ.aload_n (pc := 80) dX12_paper_80 rfl ?_
      refine hJ.gM (pc := 81) dX12_paper_81 fi_X12_130 ?_
      refine hJ.iconst (pc := 84) 1 dX12_paper_84 ic_1 ?_
      refine hJ.isub (pc := 85) dX12_paper_85 ?_
      cases hF
      exact hR.i (pc := 86) dX12_paper_86
    · rw [if_pos h2] at hF
      refine hJ.iconst (pc := 22) (-1) dX12_paper_22 ic_m1 ?_
      cases hF
      exact hR.i (pc := 23) dX12_paper_23
set_option maxRecDepth 100000 in
set_option maxHeartbeats 4000000 in
theorem ctX12_isPaper (p0 : Int32) (Sc S : Mem) (r : Int32) (hF : fX12_isPaper p0 S = r) : Ct yX12_isPaper cX12_isPaper 2 (some .boolean) 0 0 0 0 [vr 12 0, vi p0] wl0 L0 Sc S (some (vi r)) wl0 L0 Sc S := by
  refine Ct.of RX12 false (by decide) rfl (fun h => by cases h) (Nat.le_of_ble_eq_true rfl) (fun J hJ hR => ?_)
  rw [fX12_isPaper] at hF
  show J 0 [some (vr 12 0), some (vi p0)] [] wl0 L0 0 0 Sc S
  refine hJ.iload_n (pc := 0) dX12_isPaper_0 rfl ?_
  refine hJ.if_lt (pc := 1) 16 dX12_isPaper_1 (by decide) (fun h1 => ?_) (fun h1 => ?_)
  · rw [if_pos h1] at hF
    refine hJ.iconst (pc := 16) 0 dX12_isPaper_16 ic_0 ?_
    cases hF
    exact hR.n (pc := 17) (by decide) dX12_isPaper_17
  · rw [if_neg h1] at hF
    refine hJ.iload_n (pc := 4) dX12_isPaper_4 rfl ?_
    refine hJ.aload_n (pc := 5) dX12_isPaper_5 rfl ?_
    refine hJ.gM (pc := 6) dX12_isPaper_6 fi_X12_130 ?_
    refine hJ.icmp_ge (pc := 9) 16 dX12_isPaper_9 (by decide) (fun h2 => ?_) (fun h2 => ?_)
    · rw [if_pos h2] at hF
      refine hJ.iconst (pc := 16) 0 dX12_isPaper_16 ic_0 ?_
      cases hF
      exact hR.n (pc := 17) (by decide) dX12_isPaper_17
    · rw [if_neg h2] at hF
      refine hJ.iconst (pc := 12) 1 dX12_isPaper_12 ic_1 ?_
      refine hJ.goto (pc := 13) 17 dX12_isPaper_13 (by decide) ?_
      cases hF
      exact hR.n (pc := 17) (by decide) dX12_isPaper_17
set_option maxRecDepth 100000 in
set_option maxHeartbeats 4000000 in
theorem ctX12_move (p0 : Int32) (p1 : Int32) (Sc S : Mem) (r : Int32) (S' : Mem) (hF : fX12_move p0 p1 S = some (r, S')) : Ct yX12_move cX12_move 3 (some .boolean) 1 21 0 0 [vr 12 0, vi p0, vi p1] wl0 L0 Sc S (some (vi r)) wl0 L0 Sc S' := by
  refine Ct.of RX12 false (by decide) rfl (fun h => by cases h) (Nat.le_of_ble_eq_true rfl) (fun J hJ hR => ?_)
  rw [fX12_move] at hF
  show J 0 [some (vr 12 0), some (vi p0), some (vi p1)] [] wl0 L0 0 0 Sc S
  refine hJ.aload_n (pc := 0) dX12_move_0 rfl ?_
  refine hJ.iconst (pc := 1) 0 dX12_move_1 ic_0 ?_
  refine hJ.pIM (pc := 2) dX12_move_2 fp_X12_104 ?_
  refine hJ.aload_n (pc := 5) dX12_move_5 rfl ?_
  refine hJ.iload_n (pc := 6) dX12_move_6 rfl ?_
  refine hJ.cV (pc := 7) [vi p0] [] [vi (fX12_isPaper p0 (up S 12 0 0 0))] dX12_move_7 lk_X12_140 (ctX12_isPaper p0 _ _ (fX12_isPaper p0 (up S 12 0 0 0)) rfl) rfl rfl rfl rfl ?_
  refine hJ.if_eq (pc := 10) 21 dX12_move_10 (by decide) (fun h1 => ?_) (fun h1 => ?_)
  · rw [if_pos h1] at hF
    refine hJ.iconst (pc := 21) 0 dX12_move_21 ic_0 ?_
    cases hF
    exact hR.n (pc := 22) (by decide) dX12_move_22
  · rw [if_neg h1] at hF
    refine hJ.aload_n (pc := 13) dX12_move_13 rfl ?_
    refine hJ.iload_n (pc := 14) dX12_move_14 rfl ?_
    refine hJ.cV (pc := 15) [vi p1] [] [vi (fX12_isShelf p1)] dX12_move_15 lk_X12_133 (ctX12_isShelf p1 _ _ (fX12_isShelf p1) rfl) rfl rfl rfl rfl ?_
    refine hJ.if_ne (pc := 18) 23 dX12_move_18 (by decide) (fun h2 => ?_) (fun h2 => ?_)
    · rw [if_neg h2] at hF
      refine hJ.aload_n (pc := 23) dX12_move_23 rfl ?_
      refine hJ.gR (pc := 24) (k' := 65) (i' := 0) dX12_move_24 fr_X12_25 rfl ?_
      refine hJ.iload_n (pc := 27) dX12_move_27 rfl ?_
      refine hJ.iload_n (pc := 28) dX12_move_28 rfl ?_
      obtain ⟨j3, h4, hF⟩ := bn_some hF
      refine hJ.siastM (pc := 29) dX12_move_29 al_65 h4 ?_
      refine hJ.aload_n (pc := 30) dX12_move_30 rfl ?_
      refine hJ.iconst (pc := 31) 0 dX12_move_31 ic_0 ?_
      refine hJ.pIM (pc := 32) dX12_move_32 fp_X12_120 ?_
      refine hJ.iconst (pc := 35) 1 dX12_move_35 ic_1 ?_
      cases hF
      exact hR.n (pc := 36) (by decide) dX12_move_36
    · rw [if_pos h2] at hF
      refine hJ.iconst (pc := 21) 0 dX12_move_21 ic_0 ?_
      cases hF
      exact hR.n (pc := 22) (by decide) dX12_move_22
set_option maxRecDepth 100000 in
set_option maxHeartbeats 4000000 in
theorem wX12_swap_30 {J : Nat → Lv → List AV → Obs → Lay → Nat → Nat → Mem → Mem → Prop} (hJ : Cl RX12 cX12_swap 5 1 21 0 0 none false J) {r : Int32} {Sc S' : Mem} (hR : Rk cX12_swap (some .boolean) (some (vi r)) wl0 L0 0 0 Sc S' J) : ∀ (n : Nat) (x1 : Int32) (x2 : Int32) (x3 : Int32) (S : Mem), fX12_swap_30 n x1 x2 x3 S = some (r, S') → J 30 [some (vr 12 0), some (vi x1), some (vi x2), some (vi x3), none] [] wl0 L0 0 0 Sc S := by
  intro n
  induction n with
  | zero =>
    intro x1 x2 x3 S hF
    rw [fX12_swap_30] at hF
    cases hF
  | succ n ih =>
    intro x1 x2 x3 S hF
    rw [fX12_swap_30] at hF
    refine hJ.iload_n (pc := 30) dX12_swap_30 rfl ?_
    refine hJ.aload_n (pc := 31) dX12_swap_31 rfl ?_
    refine hJ.gM (pc := 32) dX12_swap_32 fi_X12_130 ?_
    refine hJ.icmp_ge (pc := 35) 80 dX12_swap_35 (by decide) (fun h4 => ?_) (fun h4 => ?_)
    · rw [if_pos h4] at hF
      refine hJ.aload_n (pc := 80) dX12_swap_80 rfl ?_
      refine hJ.iconst (pc := 81) 0 dX12_swap_81 ic_0 ?_
      refine hJ.pIM (pc := 82) dX12_swap_82 fp_X12_120 ?_
      refine hJ.iconst (pc := 85) 1 dX12_swap_85 ic_1 ?_
      cases hF
      exact hR.n (pc := 86) (by decide) dX12_swap_86
    · rw [if_neg h4] at hF
      refine hJ.aload_n (pc := 38) dX12_swap_38 rfl ?_
      refine hJ.gR (pc := 39) (k' := 65) (i' := 0) dX12_swap_39 fr_X12_25 rfl ?_
      refine hJ.iload_n (pc := 42) dX12_swap_42 rfl ?_
      obtain ⟨j5, h6, hF⟩ := bn_some hF
      refine hJ.lialdM (pc := 43) dX12_swap_43 al_65 h6 ?_
      refine hJ.istore (pc := 44) [some (vr 12 0), some (vi x1), some (vi x2), some (vi x3), some (vi (S 65 0 j5))] dX12_swap_44 (by decide) rfl ?_
      refine hJ.aload_n (pc := 46) dX12_swap_46 rfl ?_
      refine hJ.gR (pc := 47) (k' := 65) (i' := 0) dX12_swap_47 fr_X12_25 rfl ?_
      refine hJ.iload_n (pc := 50) dX12_swap_50 rfl ?_
      refine hJ.iload (pc := 51) dX12_swap_51 rfl ?_
      refine hJ.iload_n (pc := 53) dX12_swap_53 rfl ?_
      refine hJ.icmp_ne (pc := 54) 61 dX12_swap_54 (by decide) (fun h7 => ?_) (fun h7 => ?_)
      · rw [if_neg h7] at hF
        refine hJ.iload (pc := 61) dX12_swap_61 rfl ?_
        refine hJ.iload_n (pc := 63) dX12_swap_63 rfl ?_
        refine hJ.icmp_ne (pc := 64) 71 dX12_swap_64 (by decide) (fun h8 => ?_) (fun h8 => ?_)
        · rw [if_neg h8] at hF
          refine hJ.iload (pc := 71) dX12_swap_71 rfl ?_
          refine hJ.siastM (pc := 73) dX12_swap_73 al_65 h6 ?_
          refine hJ.iinc (pc := 74) (x3 + 1) [some (vr 12 0), some (vi x1), some (vi x2), some (vi (x3 + 1)), some (vi (S 65 0 j5))] dX12_swap_74 (by decide) rfl (congrArg (fun z => x3 + z) ic_1) rfl ?_
          refine hJ.goto (pc := 77) 30 dX12_swap_77 (by decide) ?_
          refine hJ.weak [some (vr 12 0), some (vi x1), some (vi x2), some (vi (x3 + 1)), none] ⟨rfl, rfl, rfl, rfl, trivial⟩ ?_
          exact ih x1 x2 (x3 + 1) (up S 65 0 j5 (S 65 0 j5)) hF
        · rw [if_pos h8] at hF
          refine hJ.iload_n (pc := 67) dX12_swap_67 rfl ?_
          refine hJ.goto (pc := 68) 73 dX12_swap_68 (by decide) ?_
          refine hJ.siastM (pc := 73) dX12_swap_73 al_65 h6 ?_
          refine hJ.iinc (pc := 74) (x3 + 1) [some (vr 12 0), some (vi x1), some (vi x2), some (vi (x3 + 1)), some (vi (S 65 0 j5))] dX12_swap_74 (by decide) rfl (congrArg (fun z => x3 + z) ic_1) rfl ?_
          refine hJ.goto (pc := 77) 30 dX12_swap_77 (by decide) ?_
          refine hJ.weak [some (vr 12 0), some (vi x1), some (vi x2), some (vi (x3 + 1)), none] ⟨rfl, rfl, rfl, rfl, trivial⟩ ?_
          exact ih x1 x2 (x3 + 1) (up S 65 0 j5 x1) hF
      · rw [if_pos h7] at hF
        refine hJ.iload_n (pc := 57) dX12_swap_57 rfl ?_
        refine hJ.goto (pc := 58) 73 dX12_swap_58 (by decide) ?_
        refine hJ.siastM (pc := 73) dX12_swap_73 al_65 h6 ?_
        refine hJ.iinc (pc := 74) (x3 + 1) [some (vr 12 0), some (vi x1), some (vi x2), some (vi (x3 + 1)), some (vi (S 65 0 j5))] dX12_swap_74 (by decide) rfl (congrArg (fun z => x3 + z) ic_1) rfl ?_
        refine hJ.goto (pc := 77) 30 dX12_swap_77 (by decide) ?_
        refine hJ.weak [some (vr 12 0), some (vi x1), some (vi x2), some (vi (x3 + 1)), none] ⟨rfl, rfl, rfl, rfl, trivial⟩ ?_
        exact ih x1 x2 (x3 + 1) (up S 65 0 j5 x2) hF
set_option maxRecDepth 100000 in
set_option maxHeartbeats 4000000 in
theorem ctX12_swap (p0 : Int32) (p1 : Int32) (Sc S : Mem) (r : Int32) (S' : Mem) (hF : fX12_swap p0 p1 S = some (r, S')) : Ct yX12_swap cX12_swap 5 (some .boolean) 1 21 0 0 [vr 12 0, vi p0, vi p1] wl0 L0 Sc S (some (vi r)) wl0 L0 Sc S' := by
  refine Ct.of RX12 false (by decide) rfl (fun h => by cases h) (Nat.le_of_ble_eq_true rfl) (fun J hJ hR => ?_)
  rw [fX12_swap] at hF
  show J 0 [some (vr 12 0), some (vi p0), some (vi p1), none, none] [] wl0 L0 0 0 Sc S
  refine hJ.aload_n (pc := 0) dX12_swap_0 rfl ?_
  refine hJ.iconst (pc := 1) 0 dX12_swap_1 ic_0 ?_
  refine hJ.pIM (pc := 2) dX12_swap_2 fp_X12_104 ?_
  refine hJ.aload_n (pc := 5) dX12_swap_5 rfl ?_
  refine hJ.iload_n (pc := 6) dX12_swap_6 rfl ?_
  refine hJ.cV (pc := 7) [vi p0] [] [vi (fX12_isShelf p0)] dX12_swap_7 lk_X12_133 (ctX12_isShelf p0 _ _ (fX12_isShelf p0) rfl) rfl rfl rfl rfl ?_
  refine hJ.if_eq (pc := 10) 26 dX12_swap_10 (by decide) (fun h1 => ?_) (fun h1 => ?_)
  · rw [if_pos h1] at hF
    refine hJ.iconst (pc := 26) 0 dX12_swap_26 ic_0 ?_
    cases hF
    exact hR.n (pc := 27) (by decide) dX12_swap_27
  · rw [if_neg h1] at hF
    refine hJ.aload_n (pc := 13) dX12_swap_13 rfl ?_
    refine hJ.iload_n (pc := 14) dX12_swap_14 rfl ?_
    refine hJ.cV (pc := 15) [vi p1] [] [vi (fX12_isShelf p1)] dX12_swap_15 lk_X12_133 (ctX12_isShelf p1 _ _ (fX12_isShelf p1) rfl) rfl rfl rfl rfl ?_
    refine hJ.if_eq (pc := 18) 26 dX12_swap_18 (by decide) (fun h2 => ?_) (fun h2 => ?_)
    · rw [if_pos h2] at hF
      refine hJ.iconst (pc := 26) 0 dX12_swap_26 ic_0 ?_
      cases hF
      exact hR.n (pc := 27) (by decide) dX12_swap_27
    · rw [if_neg h2] at hF
      refine hJ.iload_n (pc := 21) dX12_swap_21 rfl ?_
      refine hJ.iload_n (pc := 22) dX12_swap_22 rfl ?_
      refine hJ.icmp_ne (pc := 23) 28 dX12_swap_23 (by decide) (fun h3 => ?_) (fun h3 => ?_)
      · rw [if_neg h3] at hF
        refine hJ.iconst (pc := 28) 0 dX12_swap_28 ic_0 ?_
        refine hJ.istore_n (pc := 29) [some (vr 12 0), some (vi p0), some (vi p1), some (vi 0), none] dX12_swap_29 (by decide) rfl ?_
        exact wX12_swap_30 hJ hR 5000 p0 p1 0 (up S 12 0 0 0) hF
      · rw [if_pos h3] at hF
        refine hJ.iconst (pc := 26) 0 dX12_swap_26 ic_0 ?_
        cases hF
        exact hR.n (pc := 27) (by decide) dX12_swap_27
set_option maxRecDepth 100000 in
set_option maxHeartbeats 4000000 in
theorem wX12_fire_19 {J : Nat → Lv → List AV → Obs → Lay → Nat → Nat → Mem → Mem → Prop} (hJ : Cl RX12 cX12_fire 4 1 21 0 0 none false J) {r : Int32} {Sc S' : Mem} (hR : Rk cX12_fire (some .int) (some (vi r)) wl0 L0 0 0 Sc S' J) : ∀ (n : Nat) (x1 : Int32) (x2 : Int32) (x3 : Int32) (S : Mem), fX12_fire_19 n x1 x2 x3 S = some (r, S') → J 19 [some (vr 12 0), some (vi x1), some (vi x2), some (vi x3)] [] wl0 L0 0 0 Sc S := by
  intro n
  induction n with
  | zero =>
    intro x1 x2 x3 S hF
    rw [fX12_fire_19] at hF
    cases hF
  | succ n ih =>
    intro x1 x2 x3 S hF
    rw [fX12_fire_19] at hF
    refine hJ.iload_n (pc := 19) dX12_fire_19 rfl ?_
    refine hJ.aload_n (pc := 20) dX12_fire_20 rfl ?_
    refine hJ.gM (pc := 21) dX12_fire_21 fi_X12_130 ?_
    refine hJ.icmp_ge (pc := 24) 55 dX12_fire_24 (by decide) (fun h2 => ?_) (fun h2 => ?_)
    · rw [if_pos h2] at hF
      refine hJ.aload_n (pc := 55) dX12_fire_55 rfl ?_
      refine hJ.iconst (pc := 56) 0 dX12_fire_56 ic_0 ?_
      refine hJ.pIM (pc := 57) dX12_fire_57 fp_X12_120 ?_
      refine hJ.iload_n (pc := 60) dX12_fire_60 rfl ?_
      cases hF
      exact hR.i (pc := 61) dX12_fire_61
    · rw [if_neg h2] at hF
      refine hJ.aload_n (pc := 27) dX12_fire_27 rfl ?_
      refine hJ.gR (pc := 28) (k' := 65) (i' := 0) dX12_fire_28 fr_X12_25 rfl ?_
      refine hJ.iload_n (pc := 31) dX12_fire_31 rfl ?_
      obtain ⟨j3, h4, hF⟩ := bn_some hF
      refine hJ.lialdM (pc := 32) dX12_fire_32 al_65 h4 ?_
      refine hJ.iload_n (pc := 33) dX12_fire_33 rfl ?_
      refine hJ.icmp_eq (pc := 34) 40 dX12_fire_34 (by decide) (fun h5 => ?_) (fun h5 => ?_)
      · rw [if_pos h5] at hF
        refine hJ.aload_n (pc := 40) dX12_fire_40 rfl ?_
        refine hJ.iload_n (pc := 41) dX12_fire_41 rfl ?_
        obtain ⟨S7, h6, hF⟩ := bn_some hF
        refine hJ.cV (pc := 42) [vi x3] [] [] dX12_fire_42 lk_X12_136 (ctX12_isUnread x3 _ _ _ h6) rfl rfl rfl rfl ?_
        refine hJ.iload_n (pc := 45) dX12_fire_45 rfl ?_
        refine hJ.iconst (pc := 46) 1 dX12_fire_46 ic_1 ?_
        refine hJ.iadd (pc := 47) dX12_fire_47 ?_
        refine hJ.istore_n (pc := 48) [some (vr 12 0), some (vi x1), some (vi (x2 + 1)), some (vi x3)] dX12_fire_48 (by decide) rfl ?_
        refine hJ.iinc (pc := 49) (x3 + 1) [some (vr 12 0), some (vi x1), some (vi (x2 + 1)), some (vi (x3 + 1))] dX12_fire_49 (by decide) rfl (congrArg (fun z => x3 + z) ic_1) rfl ?_
        refine hJ.goto (pc := 52) 19 dX12_fire_52 (by decide) ?_
        exact ih x1 (x2 + 1) (x3 + 1) S7 hF
      · rw [if_neg h5] at hF
        refine hJ.goto (pc := 37) 49 dX12_fire_37 (by decide) ?_
        refine hJ.iinc (pc := 49) (x3 + 1) [some (vr 12 0), some (vi x1), some (vi x2), some (vi (x3 + 1))] dX12_fire_49 (by decide) rfl (congrArg (fun z => x3 + z) ic_1) rfl ?_
        refine hJ.goto (pc := 52) 19 dX12_fire_52 (by decide) ?_
        exact ih x1 x2 (x3 + 1) S hF
set_option maxRecDepth 100000 in
set_option maxHeartbeats 4000000 in
theorem ctX12_fire (p0 : Int32) (Sc S : Mem) (r : Int32) (S' : Mem) (hF : fX12_fire p0 S = some (r, S')) : Ct yX12_fire cX12_fire 4 (some .int) 1 21 0 0 [vr 12 0, vi p0] wl0 L0 Sc S (some (vi r)) wl0 L0 Sc S' := by
  refine Ct.of RX12 false (by decide) rfl (fun h => by cases h) (Nat.le_of_ble_eq_true rfl) (fun J hJ hR => ?_)
  rw [fX12_fire] at hF
  show J 0 [some (vr 12 0), some (vi p0), none, none] [] wl0 L0 0 0 Sc S
  refine hJ.aload_n (pc := 0) dX12_fire_0 rfl ?_
  refine hJ.iconst (pc := 1) 0 dX12_fire_1 ic_0 ?_
  refine hJ.pIM (pc := 2) dX12_fire_2 fp_X12_104 ?_
  refine hJ.aload_n (pc := 5) dX12_fire_5 rfl ?_
  refine hJ.iload_n (pc := 6) dX12_fire_6 rfl ?_
  refine hJ.cV (pc := 7) [vi p0] [] [vi (fX12_isShelf p0)] dX12_fire_7 lk_X12_133 (ctX12_isShelf p0 _ _ (fX12_isShelf p0) rfl) rfl rfl rfl rfl ?_
  refine hJ.if_ne (pc := 10) 15 dX12_fire_10 (by decide) (fun h1 => ?_) (fun h1 => ?_)
  · rw [if_neg h1] at hF
    refine hJ.iconst (pc := 15) 0 dX12_fire_15 ic_0 ?_
    refine hJ.istore_n (pc := 16) [some (vr 12 0), some (vi p0), some (vi 0), none] dX12_fire_16 (by decide) rfl ?_
    refine hJ.iconst (pc := 17) 0 dX12_fire_17 ic_0 ?_
    refine hJ.istore_n (pc := 18) [some (vr 12 0), some (vi p0), some (vi 0), some (vi 0)] dX12_fire_18 (by decide) rfl ?_
    exact wX12_fire_19 hJ hR 5000 p0 0 0 (up S 12 0 0 0) hF
  · rw [if_pos h1] at hF
    refine hJ.iconst (pc := 13) (-1) dX12_fire_13 ic_m1 ?_
    cases hF
    exact hR.i (pc := 14) dX12_fire_14
set_option maxRecDepth 100000 in
set_option maxHeartbeats 4000000 in
theorem ctX12_doesLive (p0 : Int32) (p1 : Int32) (Sc S : Mem) (r : Int32) (hF : fX12_doesLive p0 p1 S = some r) : Ct yX12_doesLive cX12_doesLive 3 (some .boolean) 0 0 0 0 [vr 12 0, vi p0, vi p1] wl0 L0 Sc S (some (vi r)) wl0 L0 Sc S := by
  refine Ct.of RX12 false (by decide) rfl (fun h => by cases h) (Nat.le_of_ble_eq_true rfl) (fun J hJ hR => ?_)
  rw [fX12_doesLive] at hF
  show J 0 [some (vr 12 0), some (vi p0), some (vi p1)] [] wl0 L0 0 0 Sc S
  refine hJ.iload_n (pc := 0) dX12_doesLive_0 rfl ?_
  refine hJ.aload_n (pc := 1) dX12_doesLive_1 rfl ?_
  refine hJ.gR (pc := 2) (k' := 60) (i' := 0) dX12_doesLive_2 fr_X12_7 rfl ?_
  refine hJ.iload_n (pc := 5) dX12_doesLive_5 rfl ?_
  obtain ⟨j1, h2, hF⟩ := bn_some hF
  refine hJ.lialdM (pc := 6) dX12_doesLive_6 al_60 h2 ?_
  refine hJ.icmp_lt (pc := 7) 34 dX12_doesLive_7 (by decide) (fun h3 => ?_) (fun h3 => ?_)
  · rw [if_pos h3] at hF
    refine hJ.iconst (pc := 34) 0 dX12_doesLive_34 ic_0 ?_
    cases hF
    exact hR.n (pc := 35) (by decide) dX12_doesLive_35
  · rw [if_neg h3] at hF
    refine hJ.aload_n (pc := 10) dX12_doesLive_10 rfl ?_
    refine hJ.gR (pc := 11) (k' := 61) (i' := 0) dX12_doesLive_11 fr_X12_13 rfl ?_
    refine hJ.iload_n (pc := 14) dX12_doesLive_14 rfl ?_
    refine hJ.lialdM (pc := 15) dX12_doesLive_15 al_61 h2 ?_
    refine hJ.iconst (pc := 16) (-1) dX12_doesLive_16 ic_m1 ?_
    refine hJ.icmp_eq (pc := 17) 30 dX12_doesLive_17 (by decide) (fun h4 => ?_) (fun h4 => ?_)
    · rw [if_pos h4] at hF
      refine hJ.iconst (pc := 30) 1 dX12_doesLive_30 ic_1 ?_
      refine hJ.goto (pc := 31) 35 dX12_doesLive_31 (by decide) ?_
      cases hF
      exact hR.n (pc := 35) (by decide) dX12_doesLive_35
    · rw [if_neg h4] at hF
      refine hJ.iload_n (pc := 20) dX12_doesLive_20 rfl ?_
      refine hJ.aload_n (pc := 21) dX12_doesLive_21 rfl ?_
      refine hJ.gR (pc := 22) (k' := 61) (i' := 0) dX12_doesLive_22 fr_X12_13 rfl ?_
      refine hJ.iload_n (pc := 25) dX12_doesLive_25 rfl ?_
      refine hJ.lialdM (pc := 26) dX12_doesLive_26 al_61 h2 ?_
      refine hJ.icmp_ge (pc := 27) 34 dX12_doesLive_27 (by decide) (fun h5 => ?_) (fun h5 => ?_)
      · rw [if_pos h5] at hF
        refine hJ.iconst (pc := 34) 0 dX12_doesLive_34 ic_0 ?_
        cases hF
        exact hR.n (pc := 35) (by decide) dX12_doesLive_35
      · rw [if_neg h5] at hF
        refine hJ.iconst (pc := 30) 1 dX12_doesLive_30 ic_1 ?_
        refine hJ.goto (pc := 31) 35 dX12_doesLive_31 (by decide) ?_
        cases hF
        exact hR.n (pc := 35) (by decide) dX12_doesLive_35
set_option maxRecDepth 100000 in
set_option maxHeartbeats 4000000 in
theorem wX12_keepsAhead_53 {J : Nat → Lv → List AV → Obs → Lay → Nat → Nat → Mem → Mem → Prop} (hJ : Cl RX12 cX12_keepsAhead 3 0 0 0 0 none false J) {Sc S' : Mem} (hR : Rk cX12_keepsAhead none none wl0 L0 0 0 Sc S' J) (x1 : Int32) (S : Mem) (hF : fX12_keepsAhead_53 x1 S = some (S')) : J 53 [some (vr 12 0), some (vi x1), none] [] wl0 L0 0 0 Sc S := by
  rw [fX12_keepsAhead_53] at hF
  refine hJ.bipush (pc := 53) 6 dX12_keepsAhead_53 bc_6 ?_
  refine hJ.aload_n (pc := 55) dX12_keepsAhead_55 rfl ?_
  refine hJ.gM (pc := 56) dX12_keepsAhead_56 fi_X12_120 ?_
  refine hJ.imul (pc := 59) dX12_keepsAhead_59 ?_
  refine hJ.istore_n (pc := 60) [some (vr 12 0), some (vi x1), some (vi (6 * (S 12 0 44)))] dX12_keepsAhead_60 (by decide) rfl ?_
  refine hJ.aload_n (pc := 61) dX12_keepsAhead_61 rfl ?_
  refine hJ.gR (pc := 62) (k' := 83) (i' := 0) dX12_keepsAhead_62 fr_X12_83 rfl ?_
  refine hJ.iload_n (pc := 65) dX12_keepsAhead_65 rfl ?_
  refine hJ.iload_n (pc := 66) dX12_keepsAhead_66 rfl ?_
  obtain ⟨j3, h4, hF⟩ := bn_some hF
  refine hJ.siastM (pc := 67) dX12_keepsAhead_67 al_83 h4 ?_
  refine hJ.aload_n (pc := 68) dX12_keepsAhead_68 rfl ?_
  refine hJ.gR (pc := 69) (k' := 83) (i' := 0) dX12_keepsAhead_69 fr_X12_83 rfl ?_
  refine hJ.iload_n (pc := 72) dX12_keepsAhead_72 rfl ?_
  refine hJ.iconst (pc := 73) 1 dX12_keepsAhead_73 ic_1 ?_
  refine hJ.iadd (pc := 74) dX12_keepsAhead_74 ?_
  refine hJ.aload_n (pc := 75) dX12_keepsAhead_75 rfl ?_
  refine hJ.gR (pc := 76) (k' := 67) (i' := 0) dX12_keepsAhead_76 fr_X12_31 rfl ?_
  refine hJ.iload_n (pc := 79) dX12_keepsAhead_79 rfl ?_
  obtain ⟨j5, h6, hF⟩ := bn_some hF
  refine hJ.lialdM (pc := 80) dX12_keepsAhead_80 al_67 h6 ?_
  obtain ⟨j7, h8, hF⟩ := bn_some hF
  refine hJ.siastM (pc := 81) dX12_keepsAhead_81 al_83 h8 ?_
  refine hJ.aload_n (pc := 82) dX12_keepsAhead_82 rfl ?_
  refine hJ.gR (pc := 83) (k' := 83) (i' := 0) dX12_keepsAhead_83 fr_X12_83 rfl ?_
  refine hJ.iload_n (pc := 86) dX12_keepsAhead_86 rfl ?_
  refine hJ.iconst (pc := 87) 2 dX12_keepsAhead_87 ic_2 ?_
  refine hJ.iadd (pc := 88) dX12_keepsAhead_88 ?_
  refine hJ.aload_n (pc := 89) dX12_keepsAhead_89 rfl ?_
  refine hJ.gR (pc := 90) (k' := 68) (i' := 0) dX12_keepsAhead_90 fr_X12_34 rfl ?_
  refine hJ.iload_n (pc := 93) dX12_keepsAhead_93 rfl ?_
  refine hJ.lialdM (pc := 94) dX12_keepsAhead_94 al_68 h6 ?_
  obtain ⟨j9, h10, hF⟩ := bn_some hF
  refine hJ.siastM (pc := 95) dX12_keepsAhead_95 al_83 h10 ?_
  refine hJ.aload_n (pc := 96) dX12_keepsAhead_96 rfl ?_
  refine hJ.gR (pc := 97) (k' := 83) (i' := 0) dX12_keepsAhead_97 fr_X12_83 rfl ?_
  refine hJ.iload_n (pc := 100) dX12_keepsAhead_100 rfl ?_
  refine hJ.iconst (pc := 101) 3 dX12_keepsAhead_101 ic_3 ?_
  refine hJ.iadd (pc := 102) dX12_keepsAhead_102 ?_
  refine hJ.aload_n (pc := 103) dX12_keepsAhead_103 rfl ?_
  refine hJ.gR (pc := 104) (k' := 69) (i' := 0) dX12_keepsAhead_104 fr_X12_37 rfl ?_
  refine hJ.iload_n (pc := 107) dX12_keepsAhead_107 rfl ?_
  refine hJ.lialdM (pc := 108) dX12_keepsAhead_108 al_69 h6 ?_
  obtain ⟨j11, h12, hF⟩ := bn_some hF
  refine hJ.siastM (pc := 109) dX12_keepsAhead_109 al_83 h12 ?_
  refine hJ.aload_n (pc := 110) dX12_keepsAhead_110 rfl ?_
  refine hJ.gR (pc := 111) (k' := 83) (i' := 0) dX12_keepsAhead_111 fr_X12_83 rfl ?_
  refine hJ.iload_n (pc := 114) dX12_keepsAhead_114 rfl ?_
  refine hJ.iconst (pc := 115) 4 dX12_keepsAhead_115 ic_4 ?_
  refine hJ.iadd (pc := 116) dX12_keepsAhead_116 ?_
  refine hJ.aload_n (pc := 117) dX12_keepsAhead_117 rfl ?_
  refine hJ.gR (pc := 118) (k' := 70) (i' := 0) dX12_keepsAhead_118 fr_X12_40 rfl ?_
  refine hJ.iload_n (pc := 121) dX12_keepsAhead_121 rfl ?_
  refine hJ.lialdM (pc := 122) dX12_keepsAhead_122 al_70 h6 ?_
  obtain ⟨j13, h14, hF⟩ := bn_some hF
  refine hJ.siastM (pc := 123) dX12_keepsAhead_123 al_83 h14 ?_
  refine hJ.aload_n (pc := 124) dX12_keepsAhead_124 rfl ?_
  refine hJ.gR (pc := 125) (k' := 83) (i' := 0) dX12_keepsAhead_125 fr_X12_83 rfl ?_
  refine hJ.iload_n (pc := 128) dX12_keepsAhead_128 rfl ?_
  refine hJ.iconst (pc := 129) 5 dX12_keepsAhead_129 ic_5 ?_
  refine hJ.iadd (pc := 130) dX12_keepsAhead_130 ?_
  refine hJ.aload_n (pc := 131) dX12_keepsAhead_131 rfl ?_
  refine hJ.gM (pc := 132) dX12_keepsAhead_132 fi_X12_260 ?_
  obtain ⟨j15, h16, hF⟩ := bn_some hF
  refine hJ.siastM (pc := 135) dX12_keepsAhead_135 al_83 h16 ?_
  refine hJ.aload_n (pc := 136) dX12_keepsAhead_136 rfl ?_
  refine hJ.aload_n (pc := 137) dX12_keepsAhead_137 rfl ?_
  refine hJ.gM (pc := 138) dX12_keepsAhead_138 fi_X12_120 ?_
  refine hJ.iconst (pc := 141) 1 dX12_keepsAhead_141 ic_1 ?_
  refine hJ.iadd (pc := 142) dX12_keepsAhead_142 ?_
  refine hJ.pIM (pc := 143) dX12_keepsAhead_143 fp_X12_120 ?_
  cases hF
  exact hR.v (pc := 146) dX12_keepsAhead_146
set_option maxRecDepth 100000 in
set_option maxHeartbeats 4000000 in
theorem wX12_keepsAhead_21 {J : Nat → Lv → List AV → Obs → Lay → Nat → Nat → Mem → Mem → Prop} (hJ : Cl RX12 cX12_keepsAhead 3 0 0 0 0 none false J) {Sc S' : Mem} (hR : Rk cX12_keepsAhead none none wl0 L0 0 0 Sc S' J) : ∀ (n : Nat) (x1 : Int32) (x2 : Int32) (S : Mem), fX12_keepsAhead_21 n x1 x2 S = some (S') → J 21 [some (vr 12 0), some (vi x1), some (vi x2)] [] wl0 L0 0 0 Sc S := by
  intro n
  induction n with
  | zero =>
    intro x1 x2 S hF
    rw [fX12_keepsAhead_21] at hF
    cases hF
  | succ n ih =>
    intro x1 x2 S hF
    rw [fX12_keepsAhead_21] at hF
    refine hJ.iload_n (pc := 21) dX12_keepsAhead_21 rfl ?_
    refine hJ.bipush (pc := 22) 6 dX12_keepsAhead_22 bc_6 ?_
    refine hJ.aload_n (pc := 24) dX12_keepsAhead_24 rfl ?_
    refine hJ.gM (pc := 25) dX12_keepsAhead_25 fi_X12_120 ?_
    refine hJ.imul (pc := 28) dX12_keepsAhead_28 ?_
    refine hJ.icmp_ge (pc := 29) 53 dX12_keepsAhead_29 (by decide) (fun h2 => ?_) (fun h2 => ?_)
    · rw [if_pos h2] at hF
      refine hJ.weak [some (vr 12 0), some (vi x1), none] ⟨rfl, rfl, trivial⟩ ?_
      exact wX12_keepsAhead_53 hJ hR x1 S hF
    · rw [if_neg h2] at hF
      refine hJ.aload_n (pc := 32) dX12_keepsAhead_32 rfl ?_
      refine hJ.gR (pc := 33) (k' := 83) (i' := 0) dX12_keepsAhead_33 fr_X12_83 rfl ?_
      refine hJ.iload_n (pc := 36) dX12_keepsAhead_36 rfl ?_
      refine hJ.aload_n (pc := 37) dX12_keepsAhead_37 rfl ?_
      refine hJ.gR (pc := 38) (k' := 83) (i' := 0) dX12_keepsAhead_38 fr_X12_83 rfl ?_
      refine hJ.iload_n (pc := 41) dX12_keepsAhead_41 rfl ?_
      refine hJ.bipush (pc := 42) 6 dX12_keepsAhead_42 bc_6 ?_
      refine hJ.iadd (pc := 44) dX12_keepsAhead_44 ?_
      obtain ⟨j17, h18, hF⟩ := bn_some hF
      refine hJ.lialdM (pc := 45) dX12_keepsAhead_45 al_83 h18 ?_
      obtain ⟨j19, h20, hF⟩ := bn_some hF
      refine hJ.siastM (pc := 46) dX12_keepsAhead_46 al_83 h20 ?_
      refine hJ.iinc (pc := 47) (x2 + 1) [some (vr 12 0), some (vi x1), some (vi (x2 + 1))] dX12_keepsAhead_47 (by decide) rfl (congrArg (fun z => x2 + z) ic_1) rfl ?_
      refine hJ.goto (pc := 50) 21 dX12_keepsAhead_50 (by decide) ?_
      exact ih x1 (x2 + 1) (up S 83 0 j19 (S 83 0 j17)) hF
set_option maxRecDepth 100000 in
set_option maxHeartbeats 4000000 in
theorem ctX12_keepsAhead (p0 : Int32) (Sc S : Mem) (S' : Mem) (hF : fX12_keepsAhead p0 S = some (S')) : Ct yX12_keepsAhead cX12_keepsAhead 3 none 0 0 0 0 [vr 12 0, vi p0] wl0 L0 Sc S none wl0 L0 Sc S' := by
  refine Ct.of RX12 false (by decide) rfl (fun h => by cases h) (Nat.le_of_ble_eq_true rfl) (fun J hJ hR => ?_)
  rw [fX12_keepsAhead] at hF
  show J 0 [some (vr 12 0), some (vi p0), none] [] wl0 L0 0 0 Sc S
  refine hJ.aload_n (pc := 0) dX12_keepsAhead_0 rfl ?_
  refine hJ.gM (pc := 1) dX12_keepsAhead_1 fi_X12_120 ?_
  refine hJ.bipush (pc := 4) 10 dX12_keepsAhead_4 bc_10 ?_
  refine hJ.icmp_ne (pc := 6) 53 dX12_keepsAhead_6 (by decide) (fun h1 => ?_) (fun h1 => ?_)
  · rw [if_neg h1] at hF
    exact wX12_keepsAhead_53 hJ hR p0 S hF
  · rw [if_pos h1] at hF
    refine hJ.aload_n (pc := 9) dX12_keepsAhead_9 rfl ?_
    refine hJ.aload_n (pc := 10) dX12_keepsAhead_10 rfl ?_
    refine hJ.gM (pc := 11) dX12_keepsAhead_11 fi_X12_120 ?_
    refine hJ.iconst (pc := 14) 1 dX12_keepsAhead_14 ic_1 ?_
    refine hJ.isub (pc := 15) dX12_keepsAhead_15 ?_
    refine hJ.pIM (pc := 16) dX12_keepsAhead_16 fp_X12_120 ?_
    refine hJ.iconst (pc := 19) 0 dX12_keepsAhead_19 ic_0 ?_
    refine hJ.istore_n (pc := 20) [some (vr 12 0), some (vi p0), some (vi 0)] dX12_keepsAhead_20 (by decide) rfl ?_
    exact wX12_keepsAhead_21 hJ hR 5000 p0 0 (up S 12 0 44 ((S 12 0 44) - 1)) hF
set_option maxRecDepth 100000 in
set_option maxHeartbeats 4000000 in
theorem ctX12_twoOf (p0 : Int32) (p1 : Int32) (p2 : Int32) (Sc Sm : Mem) (r : Int32) (hF : fX12_twoOf p0 p1 p2 = some r) : Ct yX12_twoOf cX12_twoOf 4 (some .int) 0 0 0 0 [vr 12 0, vi p0, vi p1, vi p2] wl0 L0 Sc Sm (some (vi r)) wl0 L0 Sc Sm := by
  refine Ct.of RX12 false (by decide) rfl (fun h => by cases h) (Nat.le_of_ble_eq_true rfl) (fun J hJ hR => ?_)
  rw [fX12_twoOf] at hF
  show J 0 [some (vr 12 0), some (vi p0), some (vi p1), some (vi p2)] [] wl0 L0 0 0 Sc Sm
  refine hJ.iload_n (pc := 0) dX12_twoOf_0 rfl ?_
  refine hJ.iconst (pc := 1) 2 dX12_twoOf_1 ic_2 ?_
  refine hJ.icmp_ne (pc := 2) 9 dX12_twoOf_2 (by decide) (fun h1 => ?_) (fun h1 => ?_)
  · rw [if_neg h1] at hF
    refine hJ.iload_n (pc := 9) dX12_twoOf_9 rfl ?_
    refine hJ.iconst (pc := 10) 3 dX12_twoOf_10 ic_3 ?_
    refine hJ.icmp_ne (pc := 11) 18 dX12_twoOf_11 (by decide) (fun h2 => ?_) (fun h2 => ?_)
    · rw [if_neg h2] at hF
      refine hJ.iload_n (pc := 18) dX12_twoOf_18 rfl ?_
      refine hJ.iconst (pc := 19) 4 dX12_twoOf_19 ic_4 ?_
      refine hJ.icmp_ne (pc := 20) 27 dX12_twoOf_20 (by decide) (fun h3 => ?_) (fun h3 => ?_)
      · rw [if_neg h3] at hF
        refine hJ.iload_n (pc := 27) dX12_twoOf_27 rfl ?_
        refine hJ.iconst (pc := 28) 5 dX12_twoOf_28 ic_5 ?_
        refine hJ.icmp_ne (pc := 29) 36 dX12_twoOf_29 (by decide) (fun h4 => ?_) (fun h4 => ?_)
        · rw [if_neg h4] at hF
          refine hJ.iload_n (pc := 36) dX12_twoOf_36 rfl ?_
          refine hJ.bipush (pc := 37) 6 dX12_twoOf_37 bc_6 ?_
          refine hJ.icmp_ne (pc := 39) 53 dX12_twoOf_39 (by decide) (fun h6 => ?_) (fun h6 => ?_)
          · rw [if_neg h6] at hF
            refine hJ.iload_n (pc := 53) dX12_twoOf_53 rfl ?_
            refine hJ.bipush (pc := 54) 7 dX12_twoOf_54 bc_7 ?_
            refine hJ.icmp_ne (pc := 56) 70 dX12_twoOf_56 (by decide) (fun h8 => ?_) (fun h8 => ?_)
            · rw [if_neg h8] at hF
              refine hJ.iload_n (pc := 70) dX12_twoOf_70 rfl ?_
              refine hJ.bipush (pc := 71) 8 dX12_twoOf_71 bc_8 ?_
              refine hJ.icmp_ne (pc := 73) 87 dX12_twoOf_73 (by decide) (fun h10 => ?_) (fun h10 => ?_)
              · rw [if_neg h10] at hF
                refine hJ.iload_n (pc := 87) dX12_twoOf_87 rfl ?_
                refine hJ.bipush (pc := 88) 10 dX12_twoOf_88 bc_10 ?_
                refine hJ.icmp_ne (pc := 90) 99 dX12_twoOf_90 (by decide) (fun h12 => ?_) (fun h12 => ?_)
                · rw [if_neg h12] at hF
                  refine hJ.iload_n (pc := 99) dX12_twoOf_99 rfl ?_
                  refine hJ.iload_n (pc := 100) dX12_twoOf_100 rfl ?_
                  refine hJ.iadd (pc := 101) dX12_twoOf_101 ?_
                  refine hJ.if_le (pc := 102) 109 dX12_twoOf_102 (by decide) (fun h13 => ?_) (fun h13 => ?_)
                  · rw [if_pos h13] at hF
                    refine hJ.iconst (pc := 109) 0 dX12_twoOf_109 ic_0 ?_
                    cases hF
                    exact hR.i (pc := 110) dX12_twoOf_110
                  · rw [if_neg h13] at hF
                    refine hJ.iconst (pc := 105) 1 dX12_twoOf_105 ic_1 ?_
                    refine hJ.goto (pc := 106) 110 dX12_twoOf_106 (by decide) ?_
                    cases hF
                    exact hR.i (pc := 110) dX12_twoOf_110
                · rw [if_pos h12] at hF
                  refine hJ.iload_n (pc := 93) dX12_twoOf_93 rfl ?_
                  refine hJ.iload_n (pc := 94) dX12_twoOf_94 rfl ?_
                  refine hJ.imul (pc := 95) dX12_twoOf_95 ?_
                  refine hJ.goto (pc := 96) 110 dX12_twoOf_96 (by decide) ?_
                  cases hF
                  exact hR.i (pc := 110) dX12_twoOf_110
              · rw [if_pos h10] at hF
                refine hJ.iload_n (pc := 76) dX12_twoOf_76 rfl ?_
                refine hJ.iload_n (pc := 77) dX12_twoOf_77 rfl ?_
                refine hJ.icmp_le (pc := 78) 85 dX12_twoOf_78 (by decide) (fun h11 => ?_) (fun h11 => ?_)
                · rw [if_pos h11] at hF
                  refine hJ.iconst (pc := 85) 0 dX12_twoOf_85 ic_0 ?_
                  cases hF
                  exact hR.i (pc := 86) dX12_twoOf_86
                · rw [if_neg h11] at hF
                  refine hJ.iconst (pc := 81) 1 dX12_twoOf_81 ic_1 ?_
                  refine hJ.goto (pc := 82) 86 dX12_twoOf_82 (by decide) ?_
                  cases hF
                  exact hR.i (pc := 86) dX12_twoOf_86
            · rw [if_pos h8] at hF
              refine hJ.iload_n (pc := 59) dX12_twoOf_59 rfl ?_
              refine hJ.iload_n (pc := 60) dX12_twoOf_60 rfl ?_
              refine hJ.icmp_ne (pc := 61) 68 dX12_twoOf_61 (by decide) (fun h9 => ?_) (fun h9 => ?_)
              · rw [if_neg h9] at hF
                refine hJ.iconst (pc := 68) 0 dX12_twoOf_68 ic_0 ?_
                cases hF
                exact hR.i (pc := 69) dX12_twoOf_69
              · rw [if_pos h9] at hF
                refine hJ.iconst (pc := 64) 1 dX12_twoOf_64 ic_1 ?_
                refine hJ.goto (pc := 65) 69 dX12_twoOf_65 (by decide) ?_
                cases hF
                exact hR.i (pc := 69) dX12_twoOf_69
          · rw [if_pos h6] at hF
            refine hJ.iload_n (pc := 42) dX12_twoOf_42 rfl ?_
            refine hJ.iload_n (pc := 43) dX12_twoOf_43 rfl ?_
            refine hJ.icmp_ge (pc := 44) 51 dX12_twoOf_44 (by decide) (fun h7 => ?_) (fun h7 => ?_)
            · rw [if_pos h7] at hF
              refine hJ.iconst (pc := 51) 0 dX12_twoOf_51 ic_0 ?_
              cases hF
              exact hR.i (pc := 52) dX12_twoOf_52
            · rw [if_neg h7] at hF
              refine hJ.iconst (pc := 47) 1 dX12_twoOf_47 ic_1 ?_
              refine hJ.goto (pc := 48) 52 dX12_twoOf_48 (by decide) ?_
              cases hF
              exact hR.i (pc := 52) dX12_twoOf_52
        · rw [if_pos h4] at hF
          refine hJ.iload_n (pc := 32) dX12_twoOf_32 rfl ?_
          refine hJ.iload_n (pc := 33) dX12_twoOf_33 rfl ?_
          obtain ⟨h5, hF⟩ := gn_some hF
          refine hJ.idiv (pc := 34) dX12_twoOf_34 h5 ?_
          cases hF
          exact hR.i (pc := 35) dX12_twoOf_35
      · rw [if_pos h3] at hF
        refine hJ.iload_n (pc := 23) dX12_twoOf_23 rfl ?_
        refine hJ.iload_n (pc := 24) dX12_twoOf_24 rfl ?_
        refine hJ.imul (pc := 25) dX12_twoOf_25 ?_
        cases hF
        exact hR.i (pc := 26) dX12_twoOf_26
    · rw [if_pos h2] at hF
      refine hJ.iload_n (pc := 14) dX12_twoOf_14 rfl ?_
      refine hJ.iload_n (pc := 15) dX12_twoOf_15 rfl ?_
      refine hJ.isub (pc := 16) dX12_twoOf_16 ?_
      cases hF
      exact hR.i (pc := 17) dX12_twoOf_17
  · rw [if_pos h1] at hF
    refine hJ.iload_n (pc := 5) dX12_twoOf_5 rfl ?_
    refine hJ.iload_n (pc := 6) dX12_twoOf_6 rfl ?_
    refine hJ.iadd (pc := 7) dX12_twoOf_7 ?_
    cases hF
    exact hR.i (pc := 8) dX12_twoOf_8
