/-! ===== PURE: read ===== -/
theorem AgE.m {C M M' : Mem} {nr np dy : Nat} {cd : List (Nat × Int32)} {ls : List (Nat × Nat × Nat)} (h : AgE C M nr np dy cd ls) (h1 : ∀ k i, k ≠ 12 → k ≠ 83 → M' k i = M k i) (h2 : ∀ j, j ≠ 44 → M' 12 0 j = M 12 0 j) : AgE C M' nr np dy cd ls := by
  obtain ⟨a, ⟨b1, b2, b3⟩, ⟨d1, d2, d3⟩, e, f, g⟩ := h
  have hk : ∀ k, k ≠ 12 → k ≠ 83 → M' k = M k := fun k q1 q2 => funext fun i => h1 k i q1 q2
  exact ⟨a, ⟨b1, by rw [h2 10 (by omega)]; exact b2, b3⟩, ⟨d1, by rw [h2 2 (by omega)]; exact d2, d3⟩, e.cg (fun i _ => rfl) a.2 (hk 60 (by omega) (by omega)) (hk 61 (by omega) (by omega)) (hk 62 (by omega) (by omega)) (hk 63 (by omega) (by omega)) (hk 64 (by omega) (by omega)), f.cg b3 (fun i hi => rfl) (fun i hi => by rw [hk 65 (by omega) (by omega), hk 66 (by omega) (by omega), hk 67 (by omega) (by omega), hk 68 (by omega) (by omega), hk 69 (by omega) (by omega), hk 70 (by omega) (by omega), hk 71 (by omega) (by omega)]; exact ⟨rfl, rfl, rfl, rfl, rfl, rfl, rfl⟩), g.cg rfl rfl rfl rfl rfl (h2 27 (by omega)) (h1 78 0 (by omega) (by omega)) (h1 79 0 (by omega) (by omega)) (h1 75 0 (by omega) (by omega)) (h1 76 0 (by omega) (by omega)) (h1 77 0 (by omega) (by omega))⟩
/-- one reading, by a reader who lives, of a paper that is there -/
theorem sim_read1 {C M : Mem} {nr np dy nl nc p q : Nat} (hCo : Cor C M nr np dy nl nc) (hU : Und C M nr np nl) (hT : Tap C M) (hW : Wrd M) (hF : Flt C M) (hK : Kpt C M) (hp : p < np) (hq : q < nr) :
    ∃ a b C12 C15 C17 C' M7 M9 M12 M14 M', fX0_ageOf p (nI dy) C = some (a, C12) ∧ fX10_keep p (fX1_hasRoom C12) C12 = some C15 ∧ fX0_ageOf p (nI dy) (fX5_takeReading p (nI q) (fX6_yearsOn q (nI dy) C15) (nI dy) C15) = some (b, C17) ∧ fX1_write (nI p) (nI q) (nI dy) a b C17 = some C' ∧
      fX12_keepsAhead (nI p) M = some M7 ∧ M7 12 0 2 = nI dy ∧ fX12_ageOf (nI p) (nI p) (nI dy) M7 = some (a, M9) ∧ M9 12 0 2 = nI dy ∧ fX12_isRead (nI p) (nI q) (nI dy) M9 = some M12 ∧ M12 12 0 2 = nI dy ∧ fX12_ageOf (nI p) (nI p) (nI dy) M12 = some (b, M14) ∧ writeM (nI p) (nI q) a b M14 = some (b, M') ∧ Rel C' M' := by
  obtain ⟨hCt, hRd, hPp, hBk, hCm, hLw⟩ := hCo
  obtain ⟨⟨c6, m3, hnr⟩, ⟨c7, m10, hnp⟩, ⟨c8, m2, hdy⟩, ⟨c9, c10⟩, ⟨c11, m18, hnl⟩, c24, m45, hnc⟩ := hCt
  have hLw0 := hLw
  obtain ⟨cd, lw, hL⟩ := hLw0
  have hA : AgE C M nr np dy cd lw := ⟨⟨c6, hnr⟩, ⟨c7, m10, hnp⟩, ⟨c8, m2, hdy⟩, hRd, hPp, hL⟩
  obtain ⟨u, lt, ls, u1, u2, u3, u4, u5, u6, u7⟩ := hU
  obtain ⟨M7, t, g1, g2, g3, ⟨g4, g5, g6, g7, g8, g9⟩, g10, g11, g12⟩ := keep_m (M := M) (p := p) (u := u) (nl := nl) (by omega) u1 u4 m18
  have hA7 : AgE C M7 nr np dy cd lw := hA.m g11 g12
  obtain ⟨a, ha, hac, ham⟩ := agP (d := dy) hA7 hp (by omega)
  obtain ⟨C12, e1, e2⟩ := hac C sc.rf
  obtain ⟨M9, e3, e4⟩ := ham M7 sm.rf
  have hA9 := hA7.sc e2 e4
  -- the class keeps
  have hrm : fX1_hasRoom C12 = if nl < 120 then 1 else 0 := by
    unfold fX1_hasRoom
    rw [e2 1 0 (by omega), c11, show (120 : Int32) = nI 120 from rfl, ifLe (by omega) (by omega)]
    split
    · rw [if_neg (by omega)]
    · rw [if_pos (by omega)]
  obtain ⟨C15, f1, f2, f3, f4, f5, f6, f7⟩ := keep_c (C := C12) (p := p) (lt := lt) (u := u) (f := fX1_hasRoom C12) (by omega) (by rw [e2 10 0 (by omega), u5]) u2 (by rw [e2 10 0 (by omega), u3]) u1 (zX1_hasRoom C12)
  generalize hs : (lt + 1) % 10 = s at f2 f4 f5 f6 f7
  have hs2 : s < 10 := by omega
  obtain ⟨C16, k1, k2, k3, k4, k5, k6, k7⟩ := take_c (C := C15) (p := p) (a := nI q) (b := fX6_yearsOn q (nI dy) C15) (d := nI dy)
  have hy15 : fX6_yearsOn q (nI dy) C15 = fX6_yearsOn q (nI dy) C := by
    unfold fX6_yearsOn
    rw [f6 6 q (by omega) (by omega) (by omega), e2 6 q (by omega)]
  rw [hy15] at k3
  -- the reference reads
  have m9_2 : M9 12 0 2 = nI dy := by rw [e4.2.1 0 2 (by omega), g12 2 (by omega), m2]
  obtain ⟨M12, n1, n2, n3, n4, n5, n6, n7⟩ := isRead_m (M := M9) (p := p) (q := q) (y := fX6_yearsOn q (nI dy) C) (by omega) (nI dy) (fun M' hM' => by
    rw [← (yrs_eq hRd hnr hq (show dy ≤ 20000 by omega)).1]
    unfold fX12_yearsOf fX12_yearsOf_26
    rw [hM' 60 0 (by omega), hM' 62 0 (by omega), e4.1 60 0 (by omega) (by omega), e4.1 62 0 (by omega) (by omega), g11 60 0 (by omega) (by omega), g11 62 0 (by omega) (by omega)])
  -- class: slots behind the reading
  have c16k : ∀ k i, ¬ (k = 10 ∧ i = 0) → ¬ (k = 30 ∧ i = 0) → ¬ (k = 5 ∧ i = 25 + s) → ¬ (k = 5 ∧ i = p) → C16 k i = C12 k i := fun k i q1 q2 q3 q4 => by rw [k6 k i q4, f6 k i q1 q2 q3]
  have m12k : ∀ k i, ¬ (67 ≤ k ∧ k ≤ 70) → M12 k i = M9 k i := n6
  have hA16 : AgE C16 M12 nr np dy cd lw := by
    obtain ⟨⟨x1, x2⟩, ⟨x3, x4, x5⟩, ⟨x6, x7, x8⟩, x9, x10, x11⟩ := hA9
    refine ⟨⟨by rw [c16k 0 0 (by omega) (by omega) (by omega) (by omega)]; exact x1, x2⟩, ⟨by rw [c16k 0 0 (by omega) (by omega) (by omega) (by omega)]; exact x3, by rw [m12k 12 0 (by omega)]; exact x4, x5⟩, ⟨by rw [c16k 0 0 (by omega) (by omega) (by omega) (by omega)]; exact x6, by rw [m12k 12 0 (by omega)]; exact x7, x8⟩, x9.cg (fun i _ => c16k 6 i (by omega) (by omega) (by omega) (by omega)) hnr (funext fun i => m12k 60 i (by omega)) (funext fun i => m12k 61 i (by omega)) (funext fun i => m12k 62 i (by omega)) (funext fun i => m12k 63 i (by omega)) (funext fun i => m12k 64 i (by omega)), ?_, x11.cg (by rw [c16k 3 0 (by omega) (by omega) (by omega) (by omega)]) (c16k 21 0 (by omega) (by omega) (by omega) (by omega)) (c16k 22 0 (by omega) (by omega) (by omega) (by omega)) (c16k 23 0 (by omega) (by omega) (by omega) (by omega)) (c16k 24 0 (by omega) (by omega) (by omega) (by omega)) (by rw [m12k 12 0 (by omega)]) (m12k 78 0 (by omega)) (m12k 79 0 (by omega)) (m12k 75 0 (by omega)) (m12k 76 0 (by omega)) (m12k 77 0 (by omega))⟩
    intro i hi
    have old := x10 i hi
    by_cases e : i = p
    · subst e
      have cc : ∀ j, (j < 3 ∨ 6 < j) → C16 5 i j = C12 5 i j := fun j hj => by rw [k7 j hj, f6 5 i (by omega) (by omega) (by omega)]
      obtain ⟨⟨z0, z1, z2, z3, z4, z5, z6, z7⟩, z8, z9, z10⟩ := old
      refine ⟨⟨?_, ?_, ?_, ?_, ?_, ?_, ?_, ?_⟩, ?_, ⟨q + 1, by omega, n2⟩, ?_⟩
      · rw [cc 0 (by omega), z0]
      · rw [cc 1 (by omega), m12k 65 0 (by omega), z1]
      · rw [cc 2 (by omega), m12k 66 0 (by omega), z2]
      · rw [k2, n2, nI_pred]
      · rw [k3, n3]
      · rw [k4, n4, f6 5 i (by omega) (by omega) (by omega), z5]
      · rw [k5, n5]
      · rw [cc 7 (by omega), m12k 71 0 (by omega), z7]
      · rw [m12k 65 0 (by omega), m12k 66 0 (by omega)]; exact z8
      · rw [m12k 71 0 (by omega)]; exact z10
    · rw [c16k 5 i (by omega) (by omega) (by omega) (by omega), n7 65 i e, n7 66 i e, n7 67 i e, n7 68 i e, n7 69 i e, n7 70 i e, n7 71 i e]
      exact old
  obtain ⟨b, hb, hbc, hbm⟩ := agP (d := dy) hA16 hp (by omega)
  obtain ⟨C17, e5, e6⟩ := hbc C16 sc.rf
  obtain ⟨M14, e7, e8⟩ := hbm M12 sm.rf
  have hA17 := hA16.sc e6 e8
  have c17_1 : C17 1 0 1 = nI nl := by rw [e6 1 0 (by omega), c16k 1 0 (by omega) (by omega) (by omega) (by omega), e2 1 0 (by omega), c11]
  have m14_18 : M14 12 0 18 = nI nl := by rw [e8.2.1 0 18 (by omega), m12k 12 0 (by omega), e4.2.1 0 18 (by omega), g12 18 (by omega), m18]
  have m14_2 : M14 12 0 2 = nI dy := hA17.2.2.1.2.1
  obtain ⟨C', w1, w2, w3⟩ := write_c (C := C17) (nl := nl) (a0 := nI p) (a1 := nI q) (a2 := nI dy) (a3 := nI a) (a4 := nI b) c17_1 hnl
  obtain ⟨M', v1, v2, v3, v4⟩ := write_m (M := M14) (nl := nl) (a0 := nI p) (a1 := nI q) (a3 := nI a) (a4 := nI b) m14_18 hnl
  refine ⟨nI a, nI b, C12, C15, C17, C', M7, M9, M12, M14, M', e1, f1, by rw [k1]; exact e5, w1, g1, by rw [g12 2 (by omega), m2], e3, m9_2, n1, by rw [m12k 12 0 (by omega), m9_2], e7, v1, ?_⟩
  -- frames over all
  have FC : ∀ k i, ¬ (k = 15 ∨ k = 25 ∨ k = 28 ∨ k = 8 ∨ k = 5) → ¬ (k = 10 ∧ i = 0) → ¬ (k = 30 ∧ i = 0) → ¬ (k = 1 ∧ i = 0) → ¬ (k = 16 ∧ i = 0) → C' k i = C k i := fun k i q0 q1 q2 q3 q4 => by
    rw [w3 k i q3 q4, e6 k i (by omega), c16k k i q1 q2 (by omega) (by omega), e2 k i (by omega)]
  have F5 : ∀ i, i ≠ 24 → i ≠ 25 + s → i ≠ p → C' 5 i = C 5 i := fun i q1 q2 q3 => by
    rw [w3 5 i (by omega) (by omega), e6 5 i (by omega), c16k 5 i (by omega) (by omega) (by omega) (by omega), e2 5 i (by omega)]
  have F5p : ∀ j, (j < 3 ∨ 6 < j) → C' 5 p j = C 5 p j := fun j hj => by
    rw [w3 5 p (by omega) (by omega), e6 5 p (by omega), k7 j hj, f6 5 p (by omega) (by omega) (by omega), e2 5 p (by omega)]
  have F5s : ∀ j, j < 8 → C' 5 (25 + s) j = C 5 p j := fun j hj => by
    rw [w3 5 _ (by omega) (by omega), e6 5 _ (by omega), k6 5 _ (by omega), f5 j hj, e2 5 p (by omega)]
  have F30 : ∀ j, j ≠ s → C' 30 0 j = C 30 0 j := fun j hj => by
    rw [w3 30 0 (by omega) (by omega), e6 30 0 (by omega), k6 30 0 (by omega), f7 j hj, e2 30 0 (by omega)]
  have F30s : C' 30 0 s = if nl < 120 then 1 else 0 := by
    rw [w3 30 0 (by omega) (by omega), e6 30 0 (by omega), k6 30 0 (by omega), f4, hrm]
  have F10 : C' 10 0 = C15 10 0 := by
    rw [w3 10 0 (by omega) (by omega), e6 10 0 (by omega), k6 10 0 (by omega)]
  have FM : ∀ k i, ¬ (k = 12 ∨ k = 83 ∨ k = 81 ∨ k = 82 ∨ k = 88 ∨ (65 ≤ k ∧ k ≤ 70)) → ¬ (k = 72 ∧ i = 0) → M' k i = M k i := fun k i q1 q2 => by
    rw [v3 k i (by omega) q2, e8.1 k i (by omega) (by omega), m12k k i (by omega), e4.1 k i (by omega) (by omega), g11 k i (by omega) (by omega)]
  have FMk : ∀ k, ¬ (k = 12 ∨ k = 83 ∨ k = 81 ∨ k = 82 ∨ k = 88 ∨ (65 ≤ k ∧ k ≤ 70) ∨ k = 72) → M' k = M k := fun k q1 => funext fun i => FM k i (by omega) (by omega)
  have FM12 : ∀ j, j ≠ 44 → j ≠ 18 → j ≠ 0 → M' 12 0 j = M 12 0 j := fun j q1 q2 q3 => by
    rw [v4 j q2, e8.2.1 0 j q3, m12k 12 0 (by omega), e4.2.1 0 j q3, g12 j q1]
  have FM44 : M' 12 0 44 = nI (t + 1) := by
    rw [v4 44 (by omega), e8.2.1 0 44 (by omega), m12k 12 0 (by omega), e4.2.1 0 44 (by omega), g3]
  have FM83 : ∀ j, M' 83 0 j = M7 83 0 j := fun j => by
    rw [v3 83 0 (by omega) (by omega), e8.1 83 0 (by omega) (by omega), m12k 83 0 (by omega), e4.1 83 0 (by omega) (by omega)]
  generalize hnl' : (if nl < 120 then nl + 1 else nl) = nl'
  have hC1 : C' 1 0 1 = nI nl' := by
    by_cases e : nl < 120
    · rw [if_pos e] at w2 hnl'
      rw [w2.1, hnl']
    · rw [if_neg e] at w2 hnl'
      rw [w2, c17_1, hnl']
  have hM18 : M' 12 0 18 = nI nl' := by
    by_cases e : nl < 120
    · rw [if_pos e] at v2 hnl'
      rw [v2.1, hnl']
    · rw [if_neg e] at v2 hnl'
      rw [v2, m14_18, hnl']
  have hnl2 : nl' ≤ 120 := by
    rw [← hnl']
    split <;> omega
  have hPp' : PpR C' M' nr np dy := hA17.2.2.2.2.1.cg hnp (fun i hi => w3 5 i (by omega) (by omega)) (fun i hi => by
    rw [v3 65 0 (by omega) (by omega), v3 66 0 (by omega) (by omega), v3 67 0 (by omega) (by omega), v3 68 0 (by omega) (by omega), v3 69 0 (by omega) (by omega), v3 70 0 (by omega) (by omega), v3 71 0 (by omega) (by omega)]
    exact ⟨rfl, rfl, rfl, rfl, rfl, rfl, rfl⟩)
  have hBk' : BkR C' M' nr nl' := by
    intro i hi
    have c17_16 : C17 16 0 = C 16 0 := by rw [e6 16 0 (by omega), c16k 16 0 (by omega) (by omega) (by omega) (by omega), e2 16 0 (by omega)]
    have m14_72 : M14 72 0 = M 72 0 := by rw [e8.1 72 0 (by omega) (by omega), m12k 72 0 (by omega), e4.1 72 0 (by omega) (by omega), g11 72 0 (by omega) (by omega)]
    by_cases e : nl < 120
    · rw [if_pos e] at w2 v2 hnl'
      obtain ⟨-, y0, y1, y2, y3, y4, y5⟩ := w2
      obtain ⟨-, z0, z1, z2, z3, z4, z5⟩ := v2
      by_cases ei : i = nl
      · subst ei
        refine ⟨fun j hj => ?_, ⟨q, hq, z1⟩, ⟨a, ha, z3⟩, ⟨b, hb, z4⟩⟩
        match j, hj with
        | 0, _ => rw [Nat.add_zero, y0, z0]
        | 1, _ => rw [y1, z1]
        | 2, _ => rw [y2, z2, m14_2]
        | 3, _ => rw [y3, z3]
        | 4, _ => rw [y4, z4]
        | n + 5, hj => omega
      · obtain ⟨o1, o2, o3, o4⟩ := hBk i (by omega)
        have hz : ∀ j, j < 5 → M' 72 0 (5 * i + j) = M 72 0 (5 * i + j) := fun j hj => by rw [z5 _ (by omega), m14_72]
        refine ⟨fun j hj => ?_, ?_, ?_, ?_⟩
        · rw [hz j hj, y5 _ (by omega), c17_16, o1 j hj]
        · rw [hz 1 (by omega)]; exact o2
        · rw [hz 3 (by omega)]; exact o3
        · rw [hz 4 (by omega)]; exact o4
    · rw [if_neg e] at w2 v2 hnl'
      rw [w2, v2, c17_16, m14_72]
      exact hBk i (by omega)
  refine ⟨nr, np, dy, nl', nc, ⟨?_, hRd.cg (fun i _ => FC 6 i (by omega) (by omega) (by omega) (by omega) (by omega)) hnr (FMk 60 (by omega)) (FMk 61 (by omega)) (FMk 62 (by omega)) (FMk 63 (by omega)) (FMk 64 (by omega)), hPp', hBk', hCm.cg (FC 17 0 (by omega) (by omega) (by omega) (by omega) (by omega)) (FC 18 0 (by omega) (by omega) (by omega) (by omega) (by omega)) (FC 19 0 (by omega) (by omega) (by omega) (by omega) (by omega)) (FC 20 0 (by omega) (by omega) (by omega) (by omega) (by omega)) (FM 84 0 (by omega) (by omega)) (FM 85 0 (by omega) (by omega)) (FM 86 0 (by omega) (by omega)) (FM 87 0 (by omega) (by omega)), hLw.cg (by rw [FC 3 0 (by omega) (by omega) (by omega) (by omega) (by omega)]) (FC 21 0 (by omega) (by omega) (by omega) (by omega) (by omega)) (FC 22 0 (by omega) (by omega) (by omega) (by omega) (by omega)) (FC 23 0 (by omega) (by omega) (by omega) (by omega) (by omega)) (FC 24 0 (by omega) (by omega) (by omega) (by omega) (by omega)) (FM12 27 (by omega) (by omega) (by omega)) (FM 78 0 (by omega) (by omega)) (FM 79 0 (by omega) (by omega)) (FM 75 0 (by omega) (by omega)) (FM 76 0 (by omega) (by omega)) (FM 77 0 (by omega) (by omega))⟩, ?_, hT.cg (by rw [FC 7 0 (by omega) (by omega) (by omega) (by omega) (by omega)]) (FC 27 0 (by omega) (by omega) (by omega) (by omega) (by omega)) (FM12 21 (by omega) (by omega) (by omega)) (FM 73 0 (by omega) (by omega)), hW.cg (FM 74 0 (by omega) (by omega)), ?_, hK.cg (by rw [FC 11 0 (by omega) (by omega) (by omega) (by omega) (by omega)]) (FM12 52 (by omega) (by omega) (by omega)) (FM 89 0 (by omega) (by omega)) (fun k i q1 q2 q3 => ?_)⟩
  · refine ⟨⟨?_, ?_, hnr⟩, ⟨?_, ?_, hnp⟩, ⟨?_, ?_, hdy⟩, ⟨?_, ?_⟩, ⟨hC1, hM18, hnl2⟩, ?_, ?_, hnc⟩
    · rw [FC 0 0 (by omega) (by omega) (by omega) (by omega) (by omega)]; exact c6
    · rw [FM12 3 (by omega) (by omega) (by omega)]; exact m3
    · rw [FC 0 0 (by omega) (by omega) (by omega) (by omega) (by omega)]; exact c7
    · rw [FM12 10 (by omega) (by omega) (by omega)]; exact m10
    · rw [FC 0 0 (by omega) (by omega) (by omega) (by omega) (by omega)]; exact c8
    · rw [FM12 2 (by omega) (by omega) (by omega)]; exact m2
    · rw [FC 0 0 (by omega) (by omega) (by omega) (by omega) (by omega), FM12 1 (by omega) (by omega) (by omega)]; exact c9
    · rw [FC 0 0 (by omega) (by omega) (by omega) (by omega) (by omega), FM12 9 (by omega) (by omega) (by omega)]; exact c10
    · rw [FC 2 0 (by omega) (by omega) (by omega) (by omega) (by omega)]; exact c24
    · rw [FM12 45 (by omega) (by omega) (by omega)]; exact m45
  · -- what can be undone
    have ht : t + 1 = min (u + 1) 10 := by omega
    refine ⟨t + 1, s, fun x => if x = t + 1 then nl' else ls (if u = 10 then x + 1 else x), by omega, hs2, by rw [F10, f3, ht], FM44, by rw [F10, f2], by simp, fun x hx => ?_⟩
    have hsl : slot s (t + 1) x = slot lt u (if u = 10 then x + 1 else x) := by
      unfold slot
      split <;> omega
    by_cases ex : x = t
    · subst ex
      have hslot : slot s (x + 1) x = s := by unfold slot; omega
      obtain ⟨⟨z0, z1, z2, z3, z4, z5, z6, z7⟩, z8, z9, z10⟩ := hPp p hp
      have hu : (if u = 10 then x + 1 else x) = u := by split <;> omega
      refine ⟨p, hp, ⟨?_, ?_, ?_, ?_, ?_, ?_⟩, ⟨?_, ?_, ?_⟩, ?_, ?_, ?_⟩
      · rw [FM83, g4]
      · rw [hslot, F5s 0 (by omega), z0]
      · rw [hslot, F5s 3 (by omega), z3, FM83, g5]
      · rw [hslot, F5s 4 (by omega), z4, FM83, g6]
      · rw [hslot, F5s 5 (by omega), z5, FM83, g7]
      · rw [hslot, F5s 6 (by omega), z6, FM83, g8]
      · rw [hslot, F5s 1 (by omega), F5p 1 (by omega)]
      · rw [hslot, F5s 2 (by omega), F5p 2 (by omega)]
      · rw [hslot, F5s 7 (by omega), F5p 7 (by omega)]
      · rw [FM83, g9]
        simp [hu, u6]
      · rw [FM83, g5]; exact z9
      · rw [hslot, F30s]
        simp only [if_neg (show ¬ x = x + 1 by omega), if_pos, hu, u6]
        rw [← hnl']
        by_cases e : nl < 120
        · rw [if_pos e, if_pos e]; exact Or.inl ⟨rfl, rfl⟩
        · rw [if_neg e, if_neg e]; exact Or.inr ⟨rfl, rfl⟩
    · generalize hx0 : (if u = 10 then x + 1 else x) = x0 at hsl
      have hx1 : (if u = 10 then x + 1 + 1 else x + 1) = x0 + 1 := by rw [← hx0]; split <;> rfl
      have hxu : x0 < u := by rw [← hx0]; split <;> omega
      have h83 : ∀ j, j < 6 → M' 83 0 (6 * x + j) = M 83 0 (6 * x0 + j) := fun j hj => by
        rw [FM83, g10 _ (by omega), ← hx0]
        split
        · rw [show 6 * x + j + 6 = 6 * (x + 1) + j by omega]
        · rfl
      have h830 : M' 83 0 (6 * x) = M 83 0 (6 * x0) := h83 0 (by omega)
      have hx00 : u - x0 ≤ 9 := by rw [← hx0]; split <;> omega
      have hss : slot lt u x0 ≠ s := by
        rw [← hs]
        unfold slot
        omega
      have hsl10 : slot lt u x0 < 10 := by unfold slot; omega
      have h5s : C' 5 (25 + slot lt u x0) = C 5 (25 + slot lt u x0) := F5 _ (by omega) (by omega) (by omega)
      obtain ⟨p', p1, ⟨b1, b2, b3, b4, b5, b6⟩, ⟨b7, b8, b9⟩, b10, b11, b12⟩ := u7 x0 hxu
      have h5p : ∀ j, (j < 3 ∨ 6 < j) → C' 5 p' j = C 5 p' j := fun j hj => by
        by_cases e : p' = p
        · subst e; exact F5p j hj
        · rw [F5 p' (by omega) (by omega) e]
      refine ⟨p', p1, ⟨?_, ?_, ?_, ?_, ?_, ?_⟩, ⟨?_, ?_, ?_⟩, ?_, ?_, ?_⟩
      · rw [h830, b1]
      · rw [hsl, h5s, b2]
      · rw [hsl, h5s, h83 1 (by omega), b3]
      · rw [hsl, h5s, h83 2 (by omega), b4]
      · rw [hsl, h5s, h83 3 (by omega), b5]
      · rw [hsl, h5s, h83 4 (by omega), b6]
      · rw [hsl, h5s, h5p 1 (by omega), b7]
      · rw [hsl, h5s, h5p 2 (by omega), b8]
      · rw [hsl, h5s, h5p 7 (by omega), b9]
      · rw [h83 5 (by omega), b10]
        simp only [if_neg (show ¬ x = t + 1 by omega), hx0]
      · rw [h83 1 (by omega)]; exact b11
      · rw [hsl, F30 _ hss]
        simp only [if_neg (show ¬ x = t + 1 by omega), if_neg (show ¬ x + 1 = t + 1 by omega), hx0, hx1]
        exact b12
  · unfold Flt
    rw [FC 4 0 (by omega) (by omega) (by omega) (by omega) (by omega), FM12 39 (by omega) (by omega) (by omega), FM12 40 (by omega) (by omega) (by omega)]
    exact hF
  · by_cases k5 : k = 5
    · subst k5
      exact F5 i (by omega) (by omega) (by omega)
    · exact FC k i (by omega) (by omega) (by omega) (by omega) (by omega)
theorem sim_read {C M : Mem} (h : Rel C M) (p0 p1 : Int32) : ∃ r C' M', fX11_read p0 p1 C = some (r, C') ∧ fX12_read p0 p1 M = some (r, M') ∧ Rel C' M' := by
  have h0 := h.told
  unfold fX11_read fX12_read
  generalize up M 12 0 0 0 = M0 at h0 ⊢
  have h' := h0
  obtain ⟨nr, np, dy, nl, nc, hCo, hU, hT, hW, hF, hK⟩ := h'
  have hCt := hCo.1
  have hRd := hCo.2.1
  obtain ⟨⟨c6, m3, hnr⟩, ⟨c7, m10, hnp⟩, ⟨c8, m2, hdy⟩, -⟩ := hCt
  rcases paperAt_spec (x := p0) c7 hnp with ⟨e, ho⟩ | ⟨p, hp, rfl, e⟩
  · rw [e, isPaper_out m10 ho, if_pos rfl, bindS, mtN]
    rcases readerAt_spec (x := p1) c6 hnr with ⟨e', ho'⟩ | ⟨q, hq, rfl, e'⟩
    · rw [e', bindS, mtN]; exact ⟨_, _, _, rfl, rfl, h0⟩
    · rw [e', bindS, mtS]; exact ⟨_, _, _, rfl, rfl, h0⟩
  · rw [e, isPaper_in m10 hnp hp, if_neg (by decide), bindS, mtS]
    rcases readerAt_spec (x := p1) c6 hnr with ⟨e', ho'⟩ | ⟨q, hq, rfl, e'⟩
    · rw [e', bindS, mtN, isReader_out m3 ho', if_pos rfl]; exact ⟨_, _, _, rfl, rfl, h0⟩
    · rw [e', bindS, mtS, isReader_in m3 hnr hq, if_neg (show ¬ (1 : Int32) = 0 by decide), c8, m2, lives_eq hRd hnr hq, bindS]
      by_cases l : fX6_livesOn q (nI dy) C = 0
      · rw [if_pos l, if_pos l]; exact ⟨_, _, _, rfl, rfl, h0⟩
      · rw [if_neg l, if_neg l]
        obtain ⟨a, b, C12, C15, C17, C', M7, M9, M12, M14, M', a1, a2, a3, a4, b1, b2, b3, b4, b5, b6, b7, b8, hR⟩ := sim_read1 hCo hU hT hW hF hK hp hq
        refine ⟨b, C', M', ?_, ?_, hR⟩
        · rw [a1, bdS, a2, bindS, a3, bdS, a4, bindS]
        · rw [b1, bindS, b2, b3, bdS, b4, b5, bindS, b6, b7, bdS]
          exact b8
