/-! ===== PURE: imagined readings; thumbs ===== -/
theorem agv_v {cd : List (Nat × Int32)} {ls : List (Nat × Nat × Nat)} {C : Mem} {v v' : Nat → Int32} {d : Int32} (h : ∀ j, j < 7 → v j = v' j) : agv cd ls C v d = agv cd ls C v' d := by
  have e : ∀ y kd al, fct v y kd al d = fct v' y kd al d := by
    intro y kd al
    funext j
    match j with
    | 0 => exact h 4 (by omega)
    | 1 => rfl
    | 2 => show d - v 6 = d - v' 6; rw [h 6 (by omega)]
    | 3 => show (d - v 2) / 365 = (d - v' 2) / 365; rw [h 2 (by omega)]
    | 4 => exact h 5 (by omega)
    | 5 => exact h 1 (by omega)
    | 6 => rfl
    | 7 => rfl
    | 8 => exact h 0 (by omega)
    | n + 9 => rfl
  unfold agv
  rw [h 3 (by omega), e]
noncomputable def iv (C : Mem) (p q : Nat) (d : Int32) (j : Nat) : Int32 := if j = 3 then nI q else if j = 4 then fX6_yearsOn q d C else if j = 5 then C 5 p 5 + 1 else if j = 6 then d else C 5 p j
/-- the class imagines -/
theorem imagine_c {C0 M0 C : Mem} {nr np dy p q d : Nat} {cd : List (Nat × Int32)} {ls : List (Nat × Nat × Nat)} (h : AgE C0 M0 nr np dy cd ls) (hc : sc C0 C) (hp : p < np) (hq : q < nr) : (fX6_livesOn q (nI d) C0 = 0 → fX8_imagine p (nI q) (nI d) C = some (none, C)) ∧ (¬ fX6_livesOn q (nI d) C0 = 0 → ∃ C', fX8_imagine p (nI q) (nI d) C = some (some 24, C') ∧ sc C0 C' ∧ (∀ k i, k ≠ 5 → C' k i = C k i) ∧ ∀ j, j < 8 → C' 5 24 j = iv C0 p q (nI d) j) := by
  obtain ⟨⟨c6, hnr⟩, ⟨_, _, hnp⟩, _⟩ := h.sc hc sm.rf
  have hlv : fX6_livesOn q (nI d) C = fX6_livesOn q (nI d) C0 := by
    unfold fX6_livesOn
    rw [hc 6 q (by omega)]
  have hra : fX0_readerAt (nI q) C = some (some q) := by
    rcases readerAt_spec (x := nI q) c6 hnr with ⟨z, ho⟩ | ⟨j, hj, hj2, z⟩
    · rcases ho with ho | ho
      · exact absurd ho (nI_pos (by omega))
      · exact absurd ho (nI_ge (by omega) (by omega))
    · rw [z, (nI_eq (by omega) (by omega)).mp hj2]
  unfold fX8_imagine
  rw [hra, bindS, mtS, hlv]
  refine ⟨fun e => by rw [if_pos e], fun e => ?_⟩
  rw [if_neg e]
  obtain ⟨k1, k2⟩ := copy5 (S := C) (show 24 ≠ p by omega)
  generalize fX5_copyFrom 24 p C = C1 at k1 k2
  obtain ⟨C2, t1, t2, t3, t4, t5, t6, t7⟩ := take_c (C := C1) (p := 24) (a := nI q) (b := fX6_yearsOn q (nI d) C1) (d := nI d)
  rw [t1]
  have hy : fX6_yearsOn q (nI d) C1 = fX6_yearsOn q (nI d) C0 := by
    unfold fX6_yearsOn
    rw [k2 6 q (by omega), hc 6 q (by omega)]
  have e5 : C 5 p = C0 5 p := hc 5 p (by omega)
  refine ⟨C2, rfl, fun k i hk => ?_, fun k i hk => ?_, fun j hj => ?_⟩
  · rw [t6 k i (by omega), k2 k i (by omega), hc k i hk]
  · rw [t6 k i (by omega), k2 k i (by omega)]
  · unfold iv
    by_cases j3 : j = 3
    · rw [if_pos j3, j3, t2]
    · rw [if_neg j3]
      by_cases j4 : j = 4
      · rw [if_pos j4, j4, t3, hy]
      · rw [if_neg j4]
        by_cases j5 : j = 5
        · rw [if_pos j5, j5, t4, k1 5 (by omega), e5]
        · rw [if_neg j5]
          by_cases j6 : j = 6
          · rw [if_pos j6, j6, t5]
          · rw [if_neg j6, t7 j (by omega), k1 j hj, e5]
/-- the reference thinks of a paper -/
theorem thinks_m {M0 M : Mem} {p : Nat} (hm : sm M0 M) (hp : p < 12) : ∃ M', fX12_thinksOf (nI p) M = some M' ∧ sm M0 M' ∧ (∀ k i, ¬ (65 ≤ k ∧ k ≤ 70) → M' k i = M k i) ∧ ∀ k, 65 ≤ k → k ≤ 70 → M' k 0 12 = M0 k 0 p := by
  unfold fX12_thinksOf
  rw [ix_nI (by omega) (by omega), bindS]
  simp only [upk (show (66 : Nat) ≠ 65 by omega), upk (show (67 : Nat) ≠ 65 by omega), upk (show (68 : Nat) ≠ 65 by omega), upk (show (69 : Nat) ≠ 65 by omega), upk (show (70 : Nat) ≠ 65 by omega), upk (show (67 : Nat) ≠ 66 by omega), upk (show (68 : Nat) ≠ 66 by omega), upk (show (69 : Nat) ≠ 66 by omega), upk (show (70 : Nat) ≠ 66 by omega), upk (show (68 : Nat) ≠ 67 by omega), upk (show (69 : Nat) ≠ 67 by omega), upk (show (70 : Nat) ≠ 67 by omega), upk (show (69 : Nat) ≠ 68 by omega), upk (show (70 : Nat) ≠ 68 by omega), upk (show (70 : Nat) ≠ 69 by omega)]
  have em : ∀ k, 65 ≤ k → k ≤ 70 → M k 0 p = M0 k 0 p := fun k x y => hm.2.2 k 0 p x y (by omega)
  have fr : ∀ k i, ¬ (65 ≤ k ∧ k ≤ 70) → up (up (up (up (up (up M 65 0 12 (M 65 0 p)) 66 0 12 (M 66 0 p)) 67 0 12 (M 67 0 p)) 68 0 12 (M 68 0 p)) 69 0 12 (M 69 0 p)) 70 0 12 (M 70 0 p) k i = M k i := fun k i hk => by
    rw [upk (by omega), upk (by omega), upk (by omega), upk (by omega), upk (by omega), upk (by omega)]
  refine ⟨_, rfl, ⟨fun k i h1 h2 => ?_, fun i j h1 => ?_, fun k i j h1 h2 h3 => ?_⟩, fr, fun k h1 h2 => ?_⟩
  · rw [fr k i (by omega), hm.1 k i h1 h2]
  · rw [fr 12 i (by omega), hm.2.1 i j h1]
  · rw [← hm.2.2 k i j h1 h2 h3]
    simp only [up]
    rw [if_neg (by omega), if_neg (by omega), if_neg (by omega), if_neg (by omega), if_neg (by omega), if_neg (by omega)]
  · rw [← em k h1 h2]
    rcases (show k = 65 ∨ k = 66 ∨ k = 67 ∨ k = 68 ∨ k = 69 ∨ k = 70 by omega) with rfl | rfl | rfl | rfl | rfl | rfl
    · rw [upk (by omega), upk (by omega), upk (by omega), upk (by omega), upk (by omega), up_at]
    · rw [upk (by omega), upk (by omega), upk (by omega), upk (by omega), up_at]
    · rw [upk (by omega), upk (by omega), upk (by omega), up_at]
    · rw [upk (by omega), upk (by omega), up_at]
    · rw [upk (by omega), up_at]
    · rw [up_at]
/-- and imagines that it is read -/
theorem imagine_m {C0 M0 M : Mem} {nr np dy p q d : Nat} {cd : List (Nat × Int32)} {ls : List (Nat × Nat × Nat)} (h : AgE C0 M0 nr np dy cd ls) (hm : sm M0 M) (hp : p < np) (hq : q < nr) (hd : d ≤ 20000) : ∃ M1 M', fX12_thinksOf (nI p) M = some M1 ∧ M1 12 0 2 = nI dy ∧ fX12_isRead 12 (nI q) (nI d) M1 = some M' ∧ sm M0 M' ∧ (∀ k i, ¬ (65 ≤ k ∧ k ≤ 70) → M' k i = M k i) ∧ M' 65 0 12 = M0 65 0 p ∧ M' 66 0 12 = M0 66 0 p ∧ M' 67 0 12 = nI (q + 1) ∧ M' 68 0 12 = fX6_yearsOn q (nI d) C0 ∧ M' 69 0 12 = M0 69 0 p + 1 ∧ M' 70 0 12 = nI d := by
  have h' := h
  obtain ⟨⟨_, hnr⟩, ⟨_, _, hnp⟩, ⟨_, m2, _⟩, hRd, _⟩ := h'
  obtain ⟨M1, e1, e2, e3, e4⟩ := thinks_m (p := p) hm (by omega)
  obtain ⟨M', n1, n2, n3, n4, n5, n6, n7⟩ := isRead_m (M := M1) (p := 12) (q := q) (y := fX6_yearsOn q (nI d) C0) (by omega) (nI d) (fun M' hM' => by
    rw [← (yrs_eq hRd hnr hq hd).1]
    unfold fX12_yearsOf fX12_yearsOf_26
    rw [hM' 60 0 (by omega), hM' 62 0 (by omega), e2.1 60 0 (by omega) (by omega), e2.1 62 0 (by omega) (by omega)])
  refine ⟨M1, M', e1, by rw [e2.2.1 0 2 (by omega)]; exact m2, n1, ⟨fun k i h1 h2 => ?_, fun i j h1 => ?_, fun k i j h1 h2 h3 => ?_⟩, fun k i hk => ?_, ?_, ?_, n2, n3, ?_, n5⟩
  · rw [n6 k i (by omega), e2.1 k i h1 h2]
  · rw [n6 12 i (by omega), e2.2.1 i j h1]
  · by_cases i0 : i = 0
    · subst i0
      rw [n7 k j h3, e2.2.2 k 0 j h1 h2 h3]
    · rw [← e2.2.2 k i j h1 h2 h3]
      revert n1
      unfold fX12_isRead
      rw [ix_nI (show 12 < 13 by omega) (by omega), bindS]
      intro n1
      cases hz : fX12_yearsOf (nI q) (nI d) (up M1 67 0 12 (nI q + 1)) with
      | none => rw [hz] at n1; cases n1
      | some z =>
        rw [hz, bindS] at n1
        rw [← Option.some.inj n1]
        simp only [up]
        rw [if_neg (by omega), if_neg (by omega), if_neg (by omega), if_neg (by omega)]
  · rw [n6 k i (by omega), e3 k i hk]
  · rw [n6 65 0 (by omega), e4 65 (by omega) (by omega)]
  · rw [n6 66 0 (by omega), e4 66 (by omega) (by omega)]
  · rw [n4, e4 69 (by omega) (by omega)]
/-- the age of a paper that is imagined to be read -/
theorem agI {C0 M0 : Mem} {nr np dy p q d e : Nat} {cd : List (Nat × Int32)} {ls : List (Nat × Nat × Nat)} (h : AgE C0 M0 nr np dy cd ls) (hp : p < np) (hq : q < nr) (he : e ≤ 20000) : ∃ a, a ≤ 999 ∧ (∀ C, sc C0 C → (∀ j, j < 8 → C 5 24 j = iv C0 p q (nI d) j) → ∃ C', fX0_ageOf 24 (nI e) C = some (nI a, C') ∧ sc C0 C' ∧ ∀ k i, k ≠ 15 → k ≠ 25 → C' k i = C k i) ∧ ∀ M, sm M0 M → (M 65 0 12 = M0 65 0 p ∧ M 66 0 12 = M0 66 0 p ∧ M 67 0 12 = nI (q + 1) ∧ M 68 0 12 = fX6_yearsOn q (nI d) C0 ∧ M 69 0 12 = M0 69 0 p + 1 ∧ M 70 0 12 = nI d) → ∃ M', fX12_ageOf 12 (nI p) (nI e) M = some (nI a, M') ∧ sm M0 M' ∧ ∀ k i, k ≠ 81 → k ≠ 82 → M' k i = M k i := by
  have h' := h
  obtain ⟨⟨a1, a2⟩, ⟨b1, b2, b3⟩, ⟨d1, d2, d3⟩, _, f, g⟩ := h'
  obtain ⟨⟨f0, f1, f2, f3, f4, f5, f6, f7⟩, f8, ⟨q', q1, q2⟩, f9⟩ := f p hp
  obtain ⟨a, ha, hv⟩ : ∃ a, a ≤ 999 ∧ agv cd ls C0 (iv C0 p q (nI d)) (nI e) = nI a := held_le _
  refine ⟨a, ha, fun C hc hi => ?_, fun M hm hr => ?_⟩
  · obtain ⟨C', g1, g2, g3⟩ := ag_C (b := 24) (d := nI e) h hc ⟨q + 1, by omega, by rw [hi 3 (by omega), nI_pred]; rfl⟩
    rw [agv_v (v' := iv C0 p q (nI d)) (fun j hj => hi j (by omega)), hv] at g1
    exact ⟨C', g1, g2, g3⟩
  · obtain ⟨r1, r2, r3, r4, r5, r6⟩ := hr
    obtain ⟨M', g1, g2, g3⟩ := ag_M (v := iv C0 p q (nI d)) h hm (show 12 < 13 by omega) he ⟨q + 1, by omega, r3⟩ (by rw [r1, ← f1]; rfl) (by rw [r2, ← f2]; rfl) (by rw [r3, nI_pred]; rfl) (by rw [r4]; rfl) (by rw [r5, ← f5]; rfl) (by rw [r6]; rfl)
    rw [show iv C0 p q (nI d) 0 = nI p from f0, hv] at g1
    exact ⟨M', g1, g2, g3⟩
theorem sc.up8 {C0 C : Mem} {j : Nat} {x : Int32} (h : sc C0 C) : sc C0 (up C 8 0 j x) := fun k i q => by rw [upk (by omega), h k i q]
theorem thumb_in {C0 M0 : Mem} {nr np dy p q : Nat} {cd : List (Nat × Int32)} {ls : List (Nat × Nat × Nat)} (h : AgE C0 M0 nr np dy cd ls) (hp : p < np) (hq : q < nr) (age x3 x4 : Int32) : ∀ (fuel d : Nat) (C M : Mem) (y5 y6 y7 : Int32), d ≤ dy + 1 → dy + 1 - d < fuel → sc C0 C → sm M0 M → C 8 0 2 = y5 → C 8 0 3 = y6 → C 8 0 4 = y7 → ∃ C' M' z5 z6 z7, fX8_seekThumbs_51 fuel p age x4 (nI q) (nI d) C = some C' ∧ fX12_thumbs_96 fuel (nI p) age x3 x4 y5 y6 y7 (nI q) (nI d) M = some (z5, z6, z7, M') ∧ sc C0 C' ∧ sm M0 M' ∧ C' 8 0 2 = z5 ∧ C' 8 0 3 = z6 ∧ C' 8 0 4 = z7 := by
  intro fuel
  induction fuel with
  | zero => intro d C M y5 y6 y7 _ h; omega
  | succ fuel ih =>
    intro d C M y5 y6 y7 h1 h2 hc hm w5 w6 w7
    obtain ⟨⟨c6, hnr⟩, ⟨c7, m10, hnp⟩, ⟨c8, m2, hdy⟩, hRd, _⟩ := h.sc hc hm
    rw [fX8_seekThumbs_51, fX12_thumbs_96, c8, m2]
    by_cases e : d = dy + 1
    · rw [if_pos (nI_lt (by omega) (by omega)), if_pos (nI_lt (by omega) (by omega))]
      exact ⟨C, M, y5, y6, y7, rfl, rfl, hc, hm, w5, w6, w7⟩
    · rw [if_neg (nI_nlt (by omega) (by omega)), if_neg (nI_nlt (by omega) (by omega)), lives_eq hRd hnr hq, bindS, nI_1]
      have hlv : fX6_livesOn q (nI d) C = fX6_livesOn q (nI d) C0 := by
        unfold fX6_livesOn
        rw [hc 6 q (by omega)]
      rw [hlv]
      obtain ⟨i1, i2⟩ := imagine_c (d := d) h hc hp hq
      by_cases l : fX6_livesOn q (nI d) C0 = 0
      · rw [i1 l, if_pos l, bdS, mtN]
        exact ih (d + 1) C M y5 y6 y7 (by omega) (by omega) hc hm w5 w6 w7
      · obtain ⟨C1, j1, j2, j3, j4⟩ := i2 l
        obtain ⟨M1, M2, k1, k2, k3, k4, k5, k6⟩ := imagine_m (d := d) h hm hp hq (by omega)
        have hA2 := h.sc j2 k4
        obtain ⟨a, ha, fa, fb⟩ := agI (d := d) (e := dy) h hp hq (by omega)
        obtain ⟨C3, g1, g2, g3⟩ := fa C1 j2 j4
        obtain ⟨M3, g4, g5, g6⟩ := fb M2 k4 k6
        have c8' : C1 0 0 8 = nI dy := hA2.2.2.1.1
        have m2' : M2 12 0 2 = nI dy := hA2.2.2.1.2.1
        rw [j1, if_neg l, bdS, mtS, c8', g1, bdS, k1, bindS, k3, bindS, m2', g4, bdS]
        have e8 : C3 8 0 = C 8 0 := by rw [g3 8 0 (by omega) (by omega), j3 8 0 (by omega)]
        by_cases ea : nI a = age
        · rw [if_pos ea, if_pos ea]
          unfold fX8_countThumb fX8_countThumb_17
          rw [e8, w5]
          by_cases e0 : y5 = 0
          · rw [if_pos e0, if_pos e0]
            refine ih (d + 1) _ M3 (y5 + 1) (nI q) (nI d) (by omega) (by omega) (sc.up8 (sc.up8 (sc.up8 g2))) g5 ?_ ?_ ?_
            · rw [up_at, upj (by omega), upj (by omega), e8, w5]
            · rw [upj (by omega), upj (by omega), up_at]
            · rw [upj (by omega), up_at]
          · rw [if_neg e0, if_neg e0]
            refine ih (d + 1) _ M3 (y5 + 1) y6 y7 (by omega) (by omega) (sc.up8 g2) g5 ?_ ?_ ?_
            · rw [up_at]
            · rw [upj (by omega), e8, w6]
            · rw [upj (by omega), e8, w7]
        · rw [if_neg ea, if_neg ea]
          exact ih (d + 1) C3 M3 y5 y6 y7 (by omega) (by omega) g2 g5 (by rw [e8, w5]) (by rw [e8, w6]) (by rw [e8, w7])
theorem thumb_out {C0 M0 : Mem} {nr np dy p f : Nat} {cd : List (Nat × Int32)} {ls : List (Nat × Nat × Nat)} (h : AgE C0 M0 nr np dy cd ls) (m3 : M0 12 0 3 = nI nr) (hp : p < np) (hf : f ≤ dy) (hf2 : dy ≤ f + 99) (age x3 : Int32) : ∀ (fuel q : Nat) (C M : Mem) (y5 y6 y7 : Int32), q ≤ nr → nr - q < fuel → sc C0 C → sm M0 M → C 8 0 2 = y5 → C 8 0 3 = y6 → C 8 0 4 = y7 → ∃ C' M' r, fX8_seekThumbs_38 fuel p age (nI f) (nI q) C = some C' ∧ fX12_thumbs_83 fuel (nI p) age x3 (nI f) y5 y6 y7 (nI q) M = some (r, M') ∧ sc C0 C' ∧ sm M0 M' ∧ r = if x3 = 0 then C' 8 0 2 else if x3 = 1 then C' 8 0 3 else C' 8 0 4 := by
  intro fuel
  induction fuel with
  | zero => intro q C M y5 y6 y7 _ h; omega
  | succ fuel ih =>
    intro q C M y5 y6 y7 h1 h2 hc hm w5 w6 w7
    obtain ⟨⟨c6, hnr⟩, ⟨c7, m10, hnp⟩, ⟨c8, m2, hdy⟩, hRd, _⟩ := h.sc hc hm
    rw [fX8_seekThumbs_38, fX12_thumbs_83, c6, hm.2.1 0 3 (by omega), m3]
    by_cases e : q = nr
    · subst e
      rw [if_pos (Int32.le_refl _), if_pos (Int32.le_refl _)]
      refine ⟨C, M, if x3 = 0 then y5 else if x3 = 1 then y6 else y7, rfl, ?_, hc, hm, by rw [w5, w6, w7]⟩
      split
      · rfl
      · split <;> rfl
    · rw [if_neg (nI_ge (by omega) (by omega)), if_neg (nI_ge (by omega) (by omega)), nI_1]
      obtain ⟨C', M', z5, z6, z7, g1, g2, g3, g4, g5, g6, g7⟩ := thumb_in h hp (show q < nr by omega) age x3 (nI f) 5000 f C M y5 y6 y7 (by omega) (by omega) hc hm w5 w6 w7
      rw [g1, g2, bindS]
      show ∃ C'' M'' r, _ = some C'' ∧ fX12_thumbs_83 fuel (nI p) age x3 (nI f) z5 z6 z7 (nI (q + 1)) M' = some (r, M'') ∧ _
      exact ih (q + 1) C' M' z5 z6 z7 (by omega) (by omega) g3 g4 g5 g6 g7
theorem sim_thumbs {C M : Mem} (h : Rel C M) (p0 p1 p2 : Int32) : ∃ r C' M', fX11_thumbs p0 p1 p2 C = some (r, C') ∧ fX12_thumbs p0 p1 p2 M = some (r, M') ∧ Rel C' M' := by
  have h0 := h.told
  unfold fX11_thumbs fX12_thumbs
  generalize up M 12 0 0 0 = M0 at h0 ⊢
  obtain ⟨nr, np, dy, cd, ls, hA⟩ := h0.agE
  have m3 : M0 12 0 3 = nI nr := by
    obtain ⟨nr', q1, q2, q3, q4⟩ := h0.nr
    rw [q2, ← q1, hA.1.1]
  have hA' := hA
  obtain ⟨⟨_, hnr⟩, ⟨c7, m10, hnp⟩, ⟨c8, m2, hdy⟩, _, hPp, _⟩ := hA'
  rw [isIn_eq]
  rcases paperAt_spec (x := p0) c7 hnp with ⟨e, ho⟩ | ⟨p, hp, rfl, e⟩
  · rw [e, isPaper_out m10 ho, if_pos rfl]
    exact ⟨_, _, _, rfl, rfl, h0⟩
  · rw [e, isPaper_in m10 hnp hp, if_neg (show ¬ (1 : Int32) = 0 by decide), bindS, mtS]
    by_cases a1 : fX11_within p1 0 999 = 0
    · rw [if_pos a1, if_pos a1]; exact ⟨_, _, _, rfl, rfl, h0⟩
    · rw [if_neg a1, if_neg a1]
      by_cases a2 : fX11_within p2 0 2 = 0
      · rw [if_pos a2, if_pos a2]; exact ⟨_, _, _, rfl, rfl, h0⟩
      · rw [if_neg a2, if_neg a2, ix_nI (show p < 13 by omega) (by omega), bindS, m2]
        obtain ⟨⟨_, _, f2, _⟩, ⟨_, w, w1, w2⟩, _⟩ := hPp p hp
        unfold fX8_seekThumbs fX12_thumbs_69
        simp only [upk (show (5 : Nat) ≠ 8 by omega), upk (show (0 : Nat) ≠ 8 by omega)]
        rw [c8, f2, w2]
        have t99 : (nI dy - 99).toInt = (dy : Int) - 99 := by
          have : (99 : Int32).toInt = 99 := by decide
          rw [i_sub, nI_toInt (by omega), this] <;> rw [nI_toInt (by omega), this] <;> omega
        have t0 : (0 : Int32).toInt = 0 := by decide
        obtain ⟨f, hf, e1, e2⟩ : ∃ f, (f ≤ dy ∧ dy ≤ f + 99) ∧ (if nI w < (if 0 < nI dy - 99 then nI dy - 99 else 0) then (if 0 < nI dy - 99 then nI dy - 99 else 0) else nI w) = nI f ∧ (if nI dy - 99 ≤ nI w then nI w else nI dy - 99) = nI f := by
          by_cases q : dy ≤ 99 + w
          · refine ⟨w, ⟨w1, by omega⟩, ?_, ?_⟩
            · rw [if_neg]
              by_cases q2 : 99 < dy
              · rw [if_pos (by rw [i_lt, t0, t99]; omega), i_lt, nI_toInt (by omega), t99]
                omega
              · rw [if_neg (by rw [i_lt, t0, t99]; omega), i_lt, nI_toInt (by omega), t0]
                omega
            · rw [if_pos (by rw [i_le, t99, nI_toInt (by omega)]; omega)]
          · have e9 : nI dy - 99 = nI (dy - 99) := i_nI (by rw [t99]; omega) (by omega)
            refine ⟨dy - 99, by omega, ?_, ?_⟩
            · rw [if_pos (show (0 : Int32) < nI dy - 99 by rw [i_lt, t0, t99]; omega), e9, if_pos (nI_lt (by omega) (by omega))]
            · rw [if_neg (by rw [i_le, t99, nI_toInt (by omega)]; omega), e9]
        have e2' : (if nI dy - 99 ≤ nI w then fX12_thumbs_83 5000 (nI p) p1 p2 (nI w) 0 (-1) (-1) 0 M0 else fX12_thumbs_83 5000 (nI p) p1 p2 (nI dy - 99) 0 (-1) (-1) 0 M0) = fX12_thumbs_83 5000 (nI p) p1 p2 (nI f) 0 (-1) (-1) 0 M0 := by
          rw [← e2]
          split <;> rfl
        rw [e1, e2']
        obtain ⟨C', M', r, g1, g2, g3, g4, g5⟩ := thumb_out hA m3 hp hf.1 hf.2 p1 p2 5000 0 (up (up (up C 8 0 2 0) 8 0 3 (-1)) 8 0 4 (-1)) M0 0 (-1) (-1) (by omega) (by omega) (sc.up8 (sc.up8 (sc.up8 sc.rf))) sm.rf (by rw [upj (by omega), upj (by omega), up_at]) (by rw [upj (by omega), up_at]) up_at
        rw [show fX8_seekThumbs_38 5000 p p1 (nI f) 0 (up (up (up C 8 0 2 0) 8 0 3 (-1)) 8 0 4 (-1)) = _ from g1, show fX12_thumbs_83 5000 (nI p) p1 p2 (nI f) 0 (-1) (-1) 0 M0 = _ from g2, bindS]
        refine ⟨r, C', M', ?_, rfl, h0.sc g3 g4⟩
        rw [g5]
        split
        · rfl
        · split <;> rfl
