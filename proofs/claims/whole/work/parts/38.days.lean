/-! ===== PURE: days ===== -/
def frC1 (C C' : Mem) : Prop := ∀ k i j, ¬ (k = 0 ∧ i = 0 ∧ j = 9) → ¬ (k = 6 ∧ i < 12 ∧ j = 1) → C' k i j = C k i j
def frM1 (M M' : Mem) : Prop := ∀ k i j, ¬ (k = 12 ∧ i = 0 ∧ (j = 1 ∨ j = 9)) → k ≠ 61 → M' k i j = M k i j
theorem draw_eq {C M : Mem} (h : C 0 0 9 = M 12 0 1) : fX12_draw 10000 M = some ((fX0_drawTenThousandth C).1, up M 12 0 1 ((1664525 * (C 0 0 9)) + 1013904223)) ∧ (fX0_drawTenThousandth C).2 = up C 0 0 9 ((1664525 * (C 0 0 9)) + 1013904223) := by
  refine ⟨?_, rfl⟩
  unfold fX12_draw fX0_drawTenThousandth
  rw [if_neg (by decide), h]
  have e1 : ∀ x, up M 12 0 1 x 12 0 1 = x := fun x => up_at
  have e2 : ∀ x, up C 0 0 9 x 0 0 9 = x := fun x => up_at
  rw [e1, e2]
theorem drawDeaths_eq {nr d : Nat} (hnr : nr ≤ 12) : ∀ (fuel i : Nat) (x : Int32) (C M : Mem), C 0 0 6 = nI nr → M 12 0 3 = nI nr → C 0 0 8 = nI d → M 12 0 2 = nI d → C 0 0 9 = M 12 0 1 → RdR C M nr → i ≤ nr → nr - i < fuel →
    ∃ x' C' M', fX0_drawDeaths_4 fuel x (nI i) C = some (x', C') ∧ fX12_ends_12 fuel (nI i) M = fX12_ends_88 5000 0 M' ∧ C' 0 0 9 = M' 12 0 1 ∧ RdR C' M' nr ∧ M' 12 0 9 = M 12 0 9 + (x' - x) ∧ frC1 C C' ∧ frM1 M M' := by
  intro fuel
  induction fuel with
  | zero => intro i x C M _ _ _ _ _ _ h1 h2; omega
  | succ fuel ih =>
    intro i x C M c6 m3 c8 m2 h9 hRd h1 h2
    rw [fX0_drawDeaths_4, fX12_ends_12, c6, m3]
    by_cases e : i = nr
    · subst e
      rw [if_pos (nI_le (Nat.le_refl _) (by omega)), if_pos (nI_le (Nat.le_refl _) (by omega))]
      exact ⟨x, C, M, rfl, rfl, h9, hRd, by rw [Int32.sub_self, Int32.add_zero], fun _ _ _ _ _ => rfl, fun _ _ _ _ _ => rfl⟩
    · have hi : i < nr := by omega
      have hix : ix (nI i) 12 = some i := ix_nI (by omega) (by omega)
      obtain ⟨⟨a0, a1, a2, a3, a4⟩, a5, a6, a7, a8⟩ := hRd i hi
      rw [if_neg (nI_ge (by omega) (by omega)), if_neg (nI_ge (by omega) (by omega)), hix, c8, m2, lives_eq hRd hnr hi, (draw_eq h9).2, nI_1, (draw_eq h9).1]
      show ∃ x' C' M', (if fX6_livesOn i (nI d) C = 0 then fX0_drawDeaths_4 fuel x (nI (i + 1)) C else if C 6 i 4 ≤ 0 then fX0_drawDeaths_4 fuel x (nI (i + 1)) C else if (up C 0 0 9 ((1664525 * (C 0 0 9)) + 1013904223)) 6 i 4 ≤ (fX0_drawTenThousandth C).1 then fX0_drawDeaths_4 fuel x (nI (i + 1)) (up C 0 0 9 ((1664525 * (C 0 0 9)) + 1013904223)) else fX0_drawDeaths_4 fuel (x + 1) (nI (i + 1)) (up (up C 0 0 9 ((1664525 * (C 0 0 9)) + 1013904223)) 6 i 1 ((up C 0 0 9 ((1664525 * (C 0 0 9)) + 1013904223)) 0 0 8))) = some (x', C') ∧ (if M 64 0 i = 0 then fX12_ends_12 fuel (nI (i + 1)) M else if fX6_livesOn i (nI d) C = 0 then fX12_ends_12 fuel (nI (i + 1)) M else if (fX0_drawTenThousandth C).1 < (up M 12 0 1 ((1664525 * (C 0 0 9)) + 1013904223)) 64 0 i then fX12_ends_12 fuel (nI (i + 1)) (up (up (up M 12 0 1 ((1664525 * (C 0 0 9)) + 1013904223)) 61 0 i ((up M 12 0 1 ((1664525 * (C 0 0 9)) + 1013904223)) 12 0 2)) 12 0 9 (((up (up M 12 0 1 ((1664525 * (C 0 0 9)) + 1013904223)) 61 0 i ((up M 12 0 1 ((1664525 * (C 0 0 9)) + 1013904223)) 12 0 2)) 12 0 9) + 1)) else fX12_ends_12 fuel (nI (i + 1)) (up M 12 0 1 ((1664525 * (C 0 0 9)) + 1013904223))) = fX12_ends_88 5000 0 M' ∧ _
      have same := ih (i + 1) x C M c6 m3 c8 m2 h9 hRd (by omega) (by omega)
      by_cases b1 : fX6_livesOn i (nI d) C = 0
      · rw [if_pos b1, if_pos b1, ite_self]
        exact same
      · rw [if_neg b1, if_neg b1]
        by_cases b2 : M 64 0 i = 0
        · rw [a4, b2, if_pos (Int32.le_refl 0), if_pos rfl]
          exact same
        · have n4 : ¬ M 64 0 i ≤ 0 := fun q => b2 (Int32.le_antisymm q a7)
          rw [a4, if_neg n4, if_neg b2]
          generalize hz : (1664525 * (C 0 0 9)) + 1013904223 = z
          generalize hq : (fX0_drawTenThousandth C).1 = q
          have u1 : up C 0 0 9 z 6 i 4 = M 64 0 i := by rw [upk (by omega), a4]
          have u2 : up M 12 0 1 z 64 0 i = M 64 0 i := by rw [upk (by omega)]
          have u3 : up C 0 0 9 z 0 0 8 = nI d := by rw [upj (by omega), c8]
          have u4 : up M 12 0 1 z 12 0 2 = nI d := by rw [upj (by omega), m2]
          have u5 : ∀ w, up (up M 12 0 1 z) 61 0 i w 12 0 9 = M 12 0 9 := fun w => by rw [upk (by omega), upj (by omega)]
          have r1 : RdR (up C 0 0 9 z) (up M 12 0 1 z) nr := hRd.cg (fun i hi => by rw [upk (by omega)]) hnr (by rw [upk (by omega)]) (by rw [upk (by omega)]) (by rw [upk (by omega)]) (by rw [upk (by omega)]) (by rw [upk (by omega)])
          rw [u1, u2, u3, u4, u5]
          by_cases b3 : M 64 0 i ≤ q
          · rw [if_pos b3, if_neg (Int32.not_lt.mpr b3)]
            obtain ⟨x', C', M', e1, e2, e3, e4, e5, e6, e7⟩ := ih (i + 1) x (up C 0 0 9 z) (up M 12 0 1 z) (by rw [upj (by omega), c6]) (by rw [upj (by omega), m3]) u3 u4 (by rw [up_at, up_at]) r1 (by omega) (by omega)
            refine ⟨x', C', M', e1, e2, e3, e4, ?_, fun k i' j q1 q2 => ?_, fun k i' j q1 q2 => ?_⟩
            · rw [e5, upj (by omega)]
            · rw [e6 k i' j q1 q2]
              simp only [up]
              rw [if_neg q1]
            · rw [e7 k i' j q1 q2]
              simp only [up]
              rw [if_neg (by omega)]
          · rw [if_neg b3, if_pos (Int32.not_le.mp b3)]
            obtain ⟨x', C', M', e1, e2, e3, e4, e5, e6, e7⟩ := ih (i + 1) (x + 1) (up (up C 0 0 9 z) 6 i 1 (nI d)) (up (up (up M 12 0 1 z) 61 0 i (nI d)) 12 0 9 (M 12 0 9 + 1)) (by rw [upk (by omega), upj (by omega), c6]) (by rw [upj (by omega), upk (by omega), upj (by omega), m3]) (by rw [upk (by omega), u3]) (by rw [upj (by omega), upk (by omega), u4]) (by rw [upk (by omega), up_at, upj (by omega), upk (by omega), up_at]) (by
              intro i' hi'
              have h8 := r1 i' hi'
              by_cases ee : i' = i
              · subst ee; simp [up] at h8 ⊢; exact ⟨⟨h8.1.1, h8.1.2.2⟩, h8.2⟩
              · simpa [up, ee] using h8) (by omega) (by omega)
            refine ⟨x', C', M', e1, e2, e3, e4, ?_, fun k i' j q1 q2 => ?_, fun k i' j q1 q2 => ?_⟩
            · rw [e5, up_at]
              generalize M 12 0 9 = w
              apply Int32.toBitVec_inj.mp
              simp
              grind
            · rw [e6 k i' j q1 q2]
              simp only [up]
              rw [if_neg (by omega), if_neg q1]
            · rw [e7 k i' j q1 q2]
              simp only [up]
              rw [if_neg (by omega), if_neg (by omega), if_neg (by omega)]
def frC2 (C C' : Mem) : Prop := ∀ k i j, ¬ (k = 5 ∧ i < 12 ∧ j = 7) → C' k i j = C k i j
def frM2 (M M' : Mem) : Prop := ∀ k i j, k ≠ 71 → M' k i j = M k i j
theorem passLeases_eq {nr np dy d : Nat} (hnr : nr ≤ 12) (hnp : np ≤ 12) (hd : d ≤ 20000) : ∀ (fuel i : Nat) (C M : Mem), C 0 0 6 = nI nr → M 12 0 3 = nI nr → C 0 0 7 = nI np → M 12 0 10 = nI np → C 0 0 8 = nI d → M 12 0 2 = nI d → RdR C M nr → PpR C M nr np dy → i ≤ np → np - i < fuel →
    ∃ C' M', fX0_passLeases_2 fuel (nI i) C = some C' ∧ fX12_ends_88 fuel (nI i) M = some M' ∧ PpR C' M' nr np dy ∧ frC2 C C' ∧ frM2 M M' := by
  intro fuel
  induction fuel with
  | zero => intro i C M _ _ _ _ _ _ _ _ h1 h2; omega
  | succ fuel ih =>
    intro i C M c6 m3 c7 m10 c8 m2 hRd hP h1 h2
    rw [fX0_passLeases_2, fX12_ends_88, c7, m10]
    by_cases e : i = np
    · subst e
      rw [if_pos (nI_le (Nat.le_refl _) (by omega)), if_pos (nI_le (Nat.le_refl _) (by omega))]
      exact ⟨C, M, rfl, rfl, hP, fun _ _ _ _ => rfl, fun _ _ _ _ => rfl⟩
    · have hi : i < np := by omega
      have hix : ix (nI i) 12 = some i := ix_nI (by omega) (by omega)
      obtain ⟨⟨a0, a1, a2, a3, a4, a5, a6, a7⟩, b1, b2, b3⟩ := hP i hi
      rw [if_neg (nI_ge (by omega) (by omega)), if_neg (nI_ge (by omega) (by omega)), hix, c8, m2, nI_1]
      have same := ih (i + 1) C M c6 m3 c7 m10 c8 m2 hRd hP (by omega) (by omega)
      show ∃ C' M', ((fX0_readerAt (C 5 i 7) C).bind fun r5 => mt r5 (fX0_passLeases_2 fuel (nI (i + 1)) C) fun i6 => if fX6_livesOn i6 (nI d) C = 0 then (fX0_nextForLease C).bind fun r9 => fX0_passLeases_2 fuel (nI (i + 1)) (up C 5 i 7 r9) else fX0_passLeases_2 fuel (nI (i + 1)) C) = some C' ∧ (if M 71 0 i = -1 then fX12_ends_88 fuel (nI (i + 1)) M else (fX12_doesLive (M 71 0 i) (nI d) M).bind fun r7 => if r7 = 0 then (fX12_nextOne M).bind fun r10 => fX12_ends_88 fuel (nI (i + 1)) (up M 71 0 i r10) else fX12_ends_88 fuel (nI (i + 1)) M) = some M' ∧ _
      rw [a7]
      rcases b3 with b3 | ⟨q, q1, q2⟩
      · rw [b3, if_pos rfl]
        rcases readerAt_spec (x := -1) c6 hnr with ⟨e, ho⟩ | ⟨j, hj, hj2, e⟩
        · rw [e]
          exact same
        · exact absurd hj2.symm (nI_ne_m1 (by omega))
      · rw [q2, if_neg (nI_ne_m1 (by omega)), lives_eq hRd hnr q1]
        rcases readerAt_spec (x := nI q) c6 hnr with ⟨e, ho⟩ | ⟨j, hj, hj2, e⟩
        · rcases ho with ho | ho
          · exact absurd ho (nI_pos (by omega))
          · exact absurd ho (nI_ge (by omega) (by omega))
        · have eq : q = j := (nI_eq (by omega) (by omega)).mp hj2
          subst eq
          rw [e]
          show ∃ C' M', (if fX6_livesOn q (nI d) C = 0 then (fX0_nextForLease C).bind fun r9 => fX0_passLeases_2 fuel (nI (i + 1)) (up C 5 i 7 r9) else fX0_passLeases_2 fuel (nI (i + 1)) C) = some C' ∧ (if fX6_livesOn q (nI d) C = 0 then (fX12_nextOne M).bind fun r10 => fX12_ends_88 fuel (nI (i + 1)) (up M 71 0 i r10) else fX12_ends_88 fuel (nI (i + 1)) M) = some M' ∧ _
          by_cases g : fX6_livesOn q (nI d) C = 0
          · rw [if_pos g, if_pos g]
            obtain ⟨o, e1, e2, e3⟩ := next_eq hRd hnr hP hnp c6 m3 c7 m10 c8 m2 hd
            rw [e1, e2]
            obtain ⟨C', M', f1, f2, f3, f4, f5⟩ := ih (i + 1) (up C 5 i 7 (oI o)) (up M 71 0 i (oI o)) (by rw [upk (by omega), c6]) (by rw [upk (by omega), m3]) (by rw [upk (by omega), c7]) (by rw [upk (by omega), m10]) (by rw [upk (by omega), c8]) (by rw [upk (by omega), m2]) (hRd.cg (fun i hi => by rw [upk (by omega)]) hnr (by rw [upk (by omega)]) (by rw [upk (by omega)]) (by rw [upk (by omega)]) (by rw [upk (by omega)]) (by rw [upk (by omega)])) (by
              intro i' hi'
              have h8 := hP i' hi'
              by_cases ee : i' = i
              · subst ee
                simp [up] at h8 ⊢
                refine ⟨⟨h8.1.1, h8.1.2.1, h8.1.2.2.1, h8.1.2.2.2.1, h8.1.2.2.2.2.1, h8.1.2.2.2.2.2.1, h8.1.2.2.2.2.2.2.1⟩, h8.2.1, h8.2.2.1, ?_⟩
                cases o with
                | none => exact Or.inl rfl
                | some b => exact Or.inr ⟨b, e3 b rfl, rfl⟩
              · simpa [up, ee] using h8) (by omega) (by omega)
            refine ⟨C', M', f1, f2, f3, fun k i' j q1 => ?_, fun k i' j q1 => ?_⟩
            · rw [f4 k i' j q1]
              simp only [up]
              rw [if_neg (by omega)]
            · rw [f5 k i' j q1]
              simp only [up]
              rw [if_neg (by omega)]
          · rw [if_neg g, if_neg g]
            exact same
theorem Rel.forget {C M : Mem} (h : Rel C M) : Rel (up C 10 0 3 0) (up M 12 0 44 0) := by
  obtain ⟨nr, np, dy, nl, nc, ⟨hCt, hRd, hPp, hBk, hCm, hLw⟩, hU, hT, hW, hF, hK⟩ := h
  obtain ⟨⟨c6, m3, hnr⟩, ⟨c7, m10, hnp⟩, ⟨c8, m2, hdy⟩, ⟨c9, c10⟩, ⟨c11, m18, hnl⟩, c24, m45, hnc⟩ := hCt
  obtain ⟨lt0, hlt0, hlt1⟩ : ∃ lt, lt < 10 ∧ C 10 0 2 = nI lt := by obtain ⟨_, lt, _, _, q1, _, _, q2, _⟩ := hU; exact ⟨lt, q1, q2⟩
  refine ⟨nr, np, dy, nl, nc, ⟨?_, (hRd.cg (fun i hi => by simp [upk]) hnr (by simp [upk]) (by simp [upk]) (by simp [upk]) (by simp [upk]) (by simp [upk])), (hPp.cg hnp (fun i hi => by simp [upk]) (fun i hi => by simp [upk])), (hBk.cg (by simp [upk]) (by simp [upk])), (hCm.cg (by simp [upk]) (by simp [upk]) (by simp [upk]) (by simp [upk]) (by simp [upk]) (by simp [upk]) (by simp [upk]) (by simp [upk])), (hLw.cg (by simp [up]) (by simp [upk]) (by simp [upk]) (by simp [upk]) (by simp [upk]) (by simp [up]) (by simp [upk]) (by simp [upk]) (by simp [upk]) (by simp [upk]) (by simp [upk]))⟩, (Und.zero (by simp [up]) (by simp [up]) lt0 hlt0 (by simp [up]; exact hlt1)), (hT.cg (by simp [up]) (by simp [upk]) (by simp [up]) (by simp [upk])), (hW.cg (by simp [upk])), (by unfold Flt; simp [up]; exact hF), (hK.cg (by simp [up]) (by simp [up]) (by simp [upk]) (fun k i q1 q2 q3 => by funext j; simp only [up]; repeat (rw [if_neg (by omega)])))⟩
  simp [CtR, up, c9, c6, m3, hnr, c7, m10, hnp, c8, m2, hdy, c10, c11, m18, hnl, c24, m45, hnc]
theorem sim_day {C M : Mem} {d : Nat} (h : Rel C (up M 12 0 44 0)) (hd : C 0 0 8 = nI d) (hd2 : d + 1 ≤ 9999) : ∃ r C' M', fX0_endDay C = some (r, C') ∧ fX12_ends M = some M' ∧ C' 0 0 8 = nI (d + 1) ∧ M' 12 0 9 = M 12 0 9 + r ∧ Rel C' (up M' 12 0 44 0) := by
  obtain ⟨nr, np, dy, nl, nc, ⟨hCt, hRd, hPp, hBk, hCm, hLw⟩, hU, hT, hW, hF, hK⟩ := h
  obtain ⟨⟨c6, m3, hnr⟩, ⟨c7, m10, hnp⟩, ⟨c8, m2, hdy⟩, ⟨c9, c10⟩, ⟨c11, m18, hnl⟩, c24, m45, hnc⟩ := hCt
  have ed : dy = d := (nI_eq (by omega) (by omega)).mp (c8.symm.trans hd)
  subst ed
  rw [upj (by omega)] at m3 m10 m2 c9 c10 m18 m45
  unfold fX0_endDay fX12_ends fX0_drawDeaths
  rw [c8, m2, nI_1]
  have hRd0 : RdR C M nr := hRd.cg (fun i hi => rfl) hnr (by rw [upk (by omega)]) (by rw [upk (by omega)]) (by rw [upk (by omega)]) (by rw [upk (by omega)]) (by rw [upk (by omega)])
  have hPp0 : PpR C M nr np dy := hPp.cg hnp (fun i hi => rfl) (fun i hi => by simp [upk])
  obtain ⟨x', C1, M1, e1, e2, e3, e4, e5, e6, e7⟩ := drawDeaths_eq (nr := nr) (d := dy + 1) hnr 5000 0 0 (up C 0 0 8 (nI (dy + 1))) (up M 12 0 2 (nI (dy + 1))) (by rw [upj (by omega), c6]) (by rw [upj (by omega), m3]) up_at up_at (by rw [upj (by omega), upj (by omega), c9]) (hRd0.cg (fun i hi => by rw [upk (by omega)]) hnr (by rw [upk (by omega)]) (by rw [upk (by omega)]) (by rw [upk (by omega)]) (by rw [upk (by omega)]) (by rw [upk (by omega)])) (by omega) (by omega)
  have a1 : C1 0 0 6 = nI nr := by rw [e6 0 0 6 (by omega) (by omega), upj (by omega), c6]
  have a2 : C1 0 0 7 = nI np := by rw [e6 0 0 7 (by omega) (by omega), upj (by omega), c7]
  have a3 : C1 0 0 8 = nI (dy + 1) := by rw [e6 0 0 8 (by omega) (by omega), up_at]
  have a4 : C1 0 0 10 = C 0 0 10 := by rw [e6 0 0 10 (by omega) (by omega), upj (by omega)]
  have b1 : M1 12 0 3 = nI nr := by rw [e7 12 0 3 (by omega) (by omega), upj (by omega), m3]
  have b2 : M1 12 0 10 = nI np := by rw [e7 12 0 10 (by omega) (by omega), upj (by omega), m10]
  have b3 : M1 12 0 2 = nI (dy + 1) := by rw [e7 12 0 2 (by omega) (by omega), up_at]
  have hx : (OfNat.ofNat 0 : Int32) = nI 0 := rfl
  have hP1 : PpR C1 M1 nr np dy := hPp0.cg hnp (fun i hi => by funext j; rw [e6 5 i j (by omega) (by omega), upk (by omega)]) (fun i hi => by
    refine ⟨?_, ?_, ?_, ?_, ?_, ?_, ?_⟩ <;> rw [e7 _ _ _ (by omega) (by omega), upk (by omega)])
  obtain ⟨C2, M2, g1, g2, g3, g4, g5⟩ := passLeases_eq (nr := nr) (np := np) (dy := dy) (d := dy + 1) hnr hnp (by omega) 5000 0 (up C1 0 0 10 (C1 0 0 10 + x')) M1 (by rw [upj (by omega), a1]) b1 (by rw [upj (by omega), a2]) b2 (by rw [upj (by omega), a3]) b3 (e4.cg (fun i hi => by rw [upk (by omega)]) hnr rfl rfl rfl rfl rfl) (hP1.cg hnp (fun i hi => by rw [upk (by omega)]) (fun i hi => ⟨rfl, rfl, rfl, rfl, rfl, rfl, rfl⟩)) (by omega) (by omega)
  rw [show fX0_drawDeaths_4 5000 0 0 (up C 0 0 8 (nI (dy + 1))) = some (x', C1) from e1, show fX12_ends_12 5000 0 (up M 12 0 2 (nI (dy + 1))) = fX12_ends_88 5000 0 M1 from e2, show fX12_ends_88 5000 0 M1 = some M2 from g2]
  have ep : fX0_passLeases (up C1 0 0 10 (C1 0 0 10 + x')) = some C2 := g1
  have s5 : x' - 0 = x' := Int32.sub_zero _
  rw [s5, upj (by omega)] at e5
  -- the memories, slot by slot
  have fC : ∀ k i j, ¬ (k = 0 ∧ i = 0 ∧ (j = 8 ∨ j = 9 ∨ j = 10)) → ¬ (k = 6 ∧ i < 12 ∧ j = 1) → ¬ (k = 5 ∧ i < 12 ∧ j = 7) → C2 k i j = C k i j := by
    intro k i j q1 q2 q3
    rw [g4 k i j q3]
    simp only [up]
    rw [if_neg (by omega), e6 k i j (by omega) (by omega)]
    simp only [up]
    rw [if_neg (by omega)]
  have fM : ∀ k i j, ¬ (k = 12 ∧ i = 0 ∧ (j = 1 ∨ j = 2 ∨ j = 9)) → k ≠ 61 → k ≠ 71 → M2 k i j = M k i j := by
    intro k i j q1 q2 q3
    rw [g5 k i j q3, e7 k i j (by omega) (by omega)]
    simp only [up]
    rw [if_neg (by omega)]
  have fMk : ∀ k, k ≠ 12 → k ≠ 61 → k ≠ 71 → M2 k 0 = M k 0 := fun k q1 q2 q3 => by funext j; exact fM k 0 j (by omega) q2 q3
  have fMu : ∀ k, k ≠ 12 → k ≠ 61 → k ≠ 71 → up M2 12 0 44 0 k 0 = up M 12 0 44 0 k 0 := fun k q1 q2 q3 => by rw [upk q1, upk q1]; exact fMk k q1 q2 q3
  have fM12 : ∀ j, j ≠ 1 → j ≠ 2 → j ≠ 9 → up M2 12 0 44 0 12 0 j = up M 12 0 44 0 12 0 j := fun j q1 q2 q3 => by
    simp only [up]
    split
    · rfl
    · exact fM 12 0 j (by omega) (by omega) (by omega)
  have fCk : ∀ k i, k ≠ 0 → k ≠ 5 → k ≠ 6 → C2 k i = C k i := fun k i q1 q2 q3 => by funext j; exact fC k i j (by omega) (by omega) (by omega)
  have hRd2 : RdR C2 (up M2 12 0 44 0) nr := by
    intro i hi
    rw [upk (by omega), upk (by omega), upk (by omega), upk (by omega), upk (by omega), g4 6 i 0 (by omega), g4 6 i 1 (by omega), g4 6 i 2 (by omega), g4 6 i 3 (by omega), g4 6 i 4 (by omega), g5 60 0 i (by omega), g5 61 0 i (by omega), g5 62 0 i (by omega), g5 63 0 i (by omega), g5 64 0 i (by omega), upk (by omega)]
    exact e4 i hi
  have hlt : ∃ lt, lt < 10 ∧ C 10 0 2 = nI lt ∧ C 10 0 3 = 0 := by
    obtain ⟨u, lt, ls, q0, q1, q2, q3, q4, _⟩ := hU
    rw [up_at] at q3
    exact ⟨lt, q1, q4, by rw [q2, ← q3]⟩
  obtain ⟨lt, l1, l2, l3⟩ := hlt
  refine ⟨x', C2, M2, ?_, rfl, ?_, ?_, nr, np, dy + 1, nl, nc, ⟨?_, hRd2, ?_, hBk.cg (fCk 16 0 (by omega) (by omega) (by omega)) (fMu 72 (by omega) (by omega) (by omega)), hCm.cg (fCk 17 0 (by omega) (by omega) (by omega)) (fCk 18 0 (by omega) (by omega) (by omega)) (fCk 19 0 (by omega) (by omega) (by omega)) (fCk 20 0 (by omega) (by omega) (by omega)) (fMu 84 (by omega) (by omega) (by omega)) (fMu 85 (by omega) (by omega) (by omega)) (fMu 86 (by omega) (by omega) (by omega)) (fMu 87 (by omega) (by omega) (by omega)), hLw.cg (fC 3 0 6 (by omega) (by omega) (by omega)) (fCk 21 0 (by omega) (by omega) (by omega)) (fCk 22 0 (by omega) (by omega) (by omega)) (fCk 23 0 (by omega) (by omega) (by omega)) (fCk 24 0 (by omega) (by omega) (by omega)) (fM12 27 (by omega) (by omega) (by omega)) (fMu 78 (by omega) (by omega) (by omega)) (fMu 79 (by omega) (by omega) (by omega)) (fMu 75 (by omega) (by omega) (by omega)) (fMu 76 (by omega) (by omega) (by omega)) (fMu 77 (by omega) (by omega) (by omega))⟩, Und.zero (by rw [fCk 10 0 (by omega) (by omega) (by omega)]; exact l3) up_at lt l1 (by rw [fCk 10 0 (by omega) (by omega) (by omega)]; exact l2), hT.cg (fC 7 0 1 (by omega) (by omega) (by omega)) (fCk 27 0 (by omega) (by omega) (by omega)) (fM12 21 (by omega) (by omega) (by omega)) (fMu 73 (by omega) (by omega) (by omega)), hW.cg (fMu 74 (by omega) (by omega) (by omega)), ?_, hK.cg (fC 11 0 2 (by omega) (by omega) (by omega)) (fM12 52 (by omega) (by omega) (by omega)) (fMu 89 (by omega) (by omega) (by omega)) (fun k i q1 q2 q3 => by funext j; exact fC k i j (by omega) (by omega) (by omega))⟩
  · show ((fX0_passLeases (up C1 0 0 10 (C1 0 0 10 + x'))).bind fun S5 => some (x', S5)) = _
    rw [ep]
    rfl
  · rw [g4 0 0 8 (by omega), upj (by omega), a3]
  · rw [g5 12 0 9 (by omega), e5]
  · have w1 : C2 0 0 9 = M2 12 0 1 := by rw [g4 0 0 9 (by omega), upj (by omega), g5 12 0 1 (by omega), e3]
    have w2 : C2 0 0 10 = M2 12 0 9 := by rw [g4 0 0 10 (by omega), up_at, g5 12 0 9 (by omega), e5, a4, c10]
    refine ⟨⟨?_, ?_, hnr⟩, ⟨?_, ?_, hnp⟩, ⟨?_, ?_, by omega⟩, ⟨?_, ?_⟩, ⟨?_, ?_, hnl⟩, ?_, ?_, hnc⟩
    · rw [fC 0 0 6 (by omega) (by omega) (by omega), c6]
    · rw [upj (by omega), fM 12 0 3 (by omega) (by omega) (by omega), m3]
    · rw [fC 0 0 7 (by omega) (by omega) (by omega), c7]
    · rw [upj (by omega), fM 12 0 10 (by omega) (by omega) (by omega), m10]
    · rw [g4 0 0 8 (by omega), upj (by omega), a3]
    · rw [upj (by omega), g5 12 0 2 (by omega), b3]
    · rw [upj (by omega), w1]
    · rw [upj (by omega), w2]
    · rw [fC 1 0 1 (by omega) (by omega) (by omega), c11]
    · rw [upj (by omega), fM 12 0 18 (by omega) (by omega) (by omega), m18]
    · rw [fC 2 0 4 (by omega) (by omega) (by omega), c24]
    · rw [upj (by omega), fM 12 0 45 (by omega) (by omega) (by omega), m45]
  · exact (g3.mono (Nat.le_refl _) (by omega)).cg hnp (fun i hi => rfl) (fun i hi => by simp [upk])
  · unfold Flt
    rw [fC 4 0 7 (by omega) (by omega) (by omega), fC 4 0 8 (by omega) (by omega) (by omega), fM12 39 (by omega) (by omega) (by omega), fM12 40 (by omega) (by omega) (by omega)]
    exact hF
theorem days_eq {n : Nat} {was : Int32} (hn : n ≤ 400) : ∀ (fuel i d : Nat) (x : Int32) (C M : Mem), Rel C (up M 12 0 44 0) → C 0 0 8 = nI d → d + (n - i) ≤ 9999 → i ≤ n → n - i < fuel → x = M 12 0 9 - was → ∃ r C' M', fX11_days_39 fuel (nI n) x (nI i) C = some (r, C') ∧ fX12_days_38 fuel (nI n) was (nI i) M = some (r, M') ∧ Rel C' M' := by
  intro fuel
  induction fuel with
  | zero => intro i d x C M _ _ _ _ h; omega
  | succ fuel ih =>
    intro i d x C M hR h8 hd h1 h2 hx
    rw [fX11_days_39, fX12_days_38]
    by_cases e : i = n
    · subst e
      rw [if_pos (nI_le (Nat.le_refl _) (by omega)), if_pos (nI_le (Nat.le_refl _) (by omega)), upj (by omega), hx]
      exact ⟨_, _, _, rfl, rfl, hR⟩
    · rw [if_neg (nI_ge (by omega) (by omega)), if_neg (nI_ge (by omega) (by omega)), nI_1]
      obtain ⟨r, C', M', e1, e2, e3, e4, e5⟩ := sim_day hR h8 (by omega)
      rw [e1, e2]
      exact ih (i + 1) (d + 1) (x + r) C' M' e5 e3 (by omega) (by omega) (by omega) (by
        rw [e4, hx]
        generalize M 12 0 9 = w
        apply Int32.toBitVec_inj.mp
        simp
        grind)
theorem sim_days {C M : Mem} (h : Rel C M) (p0 : Int32) : ∃ r C' M', fX11_days p0 C = some (r, C') ∧ fX12_days p0 M = some (r, M') ∧ Rel C' M' := by
  have h0 := h.told
  unfold fX11_days fX12_days
  generalize up M 12 0 0 0 = M0 at h0 ⊢
  obtain ⟨dy, c8, m2, hdy⟩ := h0.dy
  rw [isIn_eq, c8, m2]
  by_cases a1 : fX11_within p0 1 400 = 0
  · rw [if_pos a1, if_pos a1]
    exact ⟨_, _, _, rfl, rfl, h0⟩
  · rw [if_neg a1, if_neg a1]
    obtain ⟨b1, b2⟩ := within_ne a1
    rw [i_le] at b1 b2
    have t1 : (1 : Int32).toInt = 1 := by decide
    have t4 : (400 : Int32).toInt = 400 := by decide
    rw [t1] at b1
    rw [t4] at b2
    have e : p0 = nI p0.toInt.toNat := i_nI (by omega) (by omega)
    generalize hn : p0.toInt.toNat = n at e
    have hn4 : n ≤ 400 := by omega
    subst e
    rw [nI_add]
    have t9 : (9999 : Int32) = nI 9999 := rfl
    rw [t9, ifLe (by omega) (by omega), ifLe (by omega) (by omega)]
    by_cases a2 : dy + n ≤ 9999
    · rw [if_pos a2, if_pos a2]
      exact days_eq hn4 5000 0 dy 0 (fX10_forget C) M0 h0.forget (by unfold fX10_forget; rw [upk (by omega)]; exact c8) (by omega) (by omega) (by omega) (by rw [Int32.sub_self])
    · rw [if_neg a2, if_neg a2]
      exact ⟨_, _, _, rfl, rfl, h0⟩
