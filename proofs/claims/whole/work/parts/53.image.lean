/-! ===== PURE: the image ===== -/
def agC (C C' : Mem) : Prop := (∀ j, 6 ≤ j → j ≤ 10 → C' 0 0 j = C 0 0 j) ∧ C' 1 0 1 = C 1 0 1 ∧ C' 2 0 4 = C 2 0 4 ∧ C' 3 0 6 = C 3 0 6 ∧ (∀ i j, i < 12 → j < 8 → C' 5 i j = C 5 i j) ∧ (∀ i j, i < 12 → j < 5 → C' 6 i j = C 6 i j) ∧ (∀ j, j < 600 → C' 16 0 j = C 16 0 j) ∧ (∀ k j, 17 ≤ k → k ≤ 20 → j < 6 → C' k 0 j = C k 0 j) ∧ (∀ j, j < 400 → C' 21 0 j = C 21 0 j) ∧ ∀ k j, 22 ≤ k → k ≤ 24 → j < 16 → C' k 0 j = C k 0 j
def agM (M M' : Mem) : Prop := (∀ j, (j = 1 ∨ j = 2 ∨ j = 3 ∨ j = 9 ∨ j = 10 ∨ j = 18 ∨ j = 27 ∨ j = 45) → M' 12 0 j = M 12 0 j) ∧ (∀ k j, 60 ≤ k → k ≤ 71 → j < 12 → M' k 0 j = M k 0 j) ∧ (∀ j, j < 600 → M' 72 0 j = M 72 0 j) ∧ (∀ k j, 75 ≤ k → k ≤ 77 → j < 16 → M' k 0 j = M k 0 j) ∧ (∀ k j, 78 ≤ k → k ≤ 79 → j < 400 → M' k 0 j = M k 0 j) ∧ ∀ k j, 84 ≤ k → k ≤ 87 → j < 6 → M' k 0 j = M k 0 j
theorem Cor.ag {C M C' M' : Mem} {nr np dy nl nc : Nat} (h : Cor C M nr np dy nl nc) (hc : agC C C') (hm : agM M M') : Cor C' M' nr np dy nl nc := by
  obtain ⟨hCt, hRd, hPp, hBk, hCm, cd, ls, hL⟩ := h
  obtain ⟨⟨c6, m3, hnr⟩, ⟨c7, m10, hnp⟩, ⟨c8, m2, hdy⟩, ⟨c9, c10⟩, ⟨c11, m18, hnl⟩, c24, m45, hnc⟩ := hCt
  obtain ⟨a0, a1, a2, a3, a5, a6, a16, a17, a21, a22⟩ := hc
  obtain ⟨b12, b60, b72, b75, b78, b84⟩ := hm
  refine ⟨⟨⟨?_, ?_, hnr⟩, ⟨?_, ?_, hnp⟩, ⟨?_, ?_, hdy⟩, ⟨?_, ?_⟩, ⟨?_, ?_, hnl⟩, ?_, ?_, hnc⟩, fun i hi => ?_, fun i hi => ?_, fun i hi => ?_, fun i hi => ?_, cd, ls, ?_⟩
  · rw [a0 6 (by omega) (by omega), c6]
  · rw [b12 3 (by omega), m3]
  · rw [a0 7 (by omega) (by omega), c7]
  · rw [b12 10 (by omega), m10]
  · rw [a0 8 (by omega) (by omega), c8]
  · rw [b12 2 (by omega), m2]
  · rw [a0 9 (by omega) (by omega), b12 1 (by omega), c9]
  · rw [a0 10 (by omega) (by omega), b12 9 (by omega), c10]
  · rw [a1, c11]
  · rw [b12 18 (by omega), m18]
  · rw [a2, c24]
  · rw [b12 45 (by omega), m45]
  · rw [a6 i 0 (by omega) (by omega), a6 i 1 (by omega) (by omega), a6 i 2 (by omega) (by omega), a6 i 3 (by omega) (by omega), a6 i 4 (by omega) (by omega), b60 60 i (by omega) (by omega) (by omega), b60 61 i (by omega) (by omega) (by omega), b60 62 i (by omega) (by omega) (by omega), b60 63 i (by omega) (by omega) (by omega), b60 64 i (by omega) (by omega) (by omega)]
    exact hRd i hi
  · rw [a5 i 0 (by omega) (by omega), a5 i 1 (by omega) (by omega), a5 i 2 (by omega) (by omega), a5 i 3 (by omega) (by omega), a5 i 4 (by omega) (by omega), a5 i 5 (by omega) (by omega), a5 i 6 (by omega) (by omega), a5 i 7 (by omega) (by omega), b60 65 i (by omega) (by omega) (by omega), b60 66 i (by omega) (by omega) (by omega), b60 67 i (by omega) (by omega) (by omega), b60 68 i (by omega) (by omega) (by omega), b60 69 i (by omega) (by omega) (by omega), b60 70 i (by omega) (by omega) (by omega), b60 71 i (by omega) (by omega) (by omega)]
    exact hPp i hi
  · obtain ⟨o1, o2, o3, o4⟩ := hBk i hi
    refine ⟨fun j hj => ?_, ?_, ?_, ?_⟩
    · rw [a16 _ (by omega), b72 _ (by omega), o1 j hj]
    · rw [b72 _ (by omega)]; exact o2
    · rw [b72 _ (by omega)]; exact o3
    · rw [b72 _ (by omega)]; exact o4
  · rw [a17 17 i (by omega) (by omega) (by omega), a17 18 i (by omega) (by omega) (by omega), a17 19 i (by omega) (by omega) (by omega), a17 20 i (by omega) (by omega) (by omega), b84 84 i (by omega) (by omega) (by omega), b84 85 i (by omega) (by omega) (by omega), b84 86 i (by omega) (by omega) (by omega), b84 87 i (by omega) (by omega) (by omega)]
    exact hCm i hi
  · obtain ⟨l4, l16, cl, ml, hcd, hls⟩ := hL
    refine ⟨l4, l16, by rw [a3, cl], by rw [b12 27 (by omega), ml], fun k q hk => ?_, fun l q hl => ?_⟩
    · have hk4 : k < cd.length := by
        rcases Nat.lt_or_ge k cd.length with z | z
        · exact z
        · rw [List.getElem?_eq_none z] at hk; cases hk
      rw [a21 k (by omega), b78 78 k (by omega) (by omega) (by omega), b78 79 k (by omega) (by omega) (by omega)]
      exact hcd k q hk
    · have hl4 : l < ls.length := by
        rcases Nat.lt_or_ge l ls.length with z | z
        · exact z
        · rw [List.getElem?_eq_none z] at hl; cases hl
      rw [a22 22 l (by omega) (by omega) (by omega), a22 23 l (by omega) (by omega) (by omega), a22 24 l (by omega) (by omega) (by omega), b75 75 l (by omega) (by omega) (by omega), b75 76 l (by omega) (by omega) (by omega), b75 77 l (by omega) (by omega) (by omega)]
      exact hls l q hl
/-! the class copies -/
theorem cpy0 {f g : Nat → Int32} {n j : Nat} (h : j < n) : va_cpy f g 0 0 n j = f j := by
  unfold va_cpy
  simp
  omega
theorem upA_k {S : Mem} {k i k' i' : Nat} {f : Nat → Int32} (h : ¬ (k' = k ∧ i' = i)) : upA S k i f k' i' = S k' i' := by
  unfold upA
  rw [if_neg h]
theorem upA_at {S : Mem} {k i : Nat} {f : Nat → Int32} : upA S k i f k i = f := by
  unfold upA
  rw [if_pos ⟨rfl, rfl⟩]
theorem copy1 {S : Mem} {a b : Nat} (h : a ≠ b) : (∀ j, j < 600 → fX1_copyFrom a b S 16 a j = S 16 b j) ∧ fX1_copyFrom a b S 1 a 1 = S 1 b 1 ∧ ∀ k i, ¬ ((k = 16 ∨ k = 1) ∧ i = a) → fX1_copyFrom a b S k i = S k i := by
  unfold fX1_copyFrom
  refine ⟨fun j hj => ?_, ?_, fun k i hk => ?_⟩
  · rw [upf (by omega), upA_at, cpy0 hj]
  · rw [up_at, upA_k (by omega)]
  · rw [upf (by omega), upA_k (by omega)]
theorem copy2 {S : Mem} {a b : Nat} (h : a ≠ b) : (∀ k j, 17 ≤ k → k ≤ 20 → j < 6 → fX2_copyFrom a b S k a j = S k b j) ∧ fX2_copyFrom a b S 2 a 4 = S 2 b 4 ∧ ∀ k i, ¬ ((k = 2 ∨ (17 ≤ k ∧ k ≤ 20)) ∧ i = a) → fX2_copyFrom a b S k i = S k i := by
  have e : fX2_copyFrom a b S = up (upA (upA (upA (upA S 17 a (va_cpy (S 17 b) (S 17 a) 0 0 6)) 18 a (va_cpy (S 18 b) (S 18 a) 0 0 6)) 19 a (va_cpy (S 19 b) (S 19 a) 0 0 6)) 20 a (va_cpy (S 20 b) (S 20 a) 0 0 6)) 2 a 4 (S 2 b 4) := by
    unfold fX2_copyFrom
    simp only [upA_k (show ¬ (18 = 17 ∧ b = a) by omega), upA_k (show ¬ (18 = 17 ∧ a = a) by omega), upA_k (show ¬ (19 = 17 ∧ b = a) by omega), upA_k (show ¬ (19 = 17 ∧ a = a) by omega), upA_k (show ¬ (19 = 18 ∧ b = a) by omega), upA_k (show ¬ (19 = 18 ∧ a = a) by omega), upA_k (show ¬ (20 = 17 ∧ b = a) by omega), upA_k (show ¬ (20 = 17 ∧ a = a) by omega), upA_k (show ¬ (20 = 18 ∧ b = a) by omega), upA_k (show ¬ (20 = 18 ∧ a = a) by omega), upA_k (show ¬ (20 = 19 ∧ b = a) by omega), upA_k (show ¬ (20 = 19 ∧ a = a) by omega), upA_k (show ¬ (2 = 17 ∧ b = a) by omega), upA_k (show ¬ (2 = 18 ∧ b = a) by omega), upA_k (show ¬ (2 = 19 ∧ b = a) by omega), upA_k (show ¬ (2 = 20 ∧ b = a) by omega)]
  rw [e]
  refine ⟨fun k j h1 h2 hj => ?_, up_at, fun k i hk => ?_⟩
  · rw [upf (by omega)]
    rcases (show k = 17 ∨ k = 18 ∨ k = 19 ∨ k = 20 by omega) with rfl | rfl | rfl | rfl
    · rw [upA_k (by omega), upA_k (by omega), upA_k (by omega), upA_at, cpy0 hj]
    · rw [upA_k (by omega), upA_k (by omega), upA_at, cpy0 hj]
    · rw [upA_k (by omega), upA_at, cpy0 hj]
    · rw [upA_at, cpy0 hj]
  · rw [upf (by omega), upA_k (by omega), upA_k (by omega), upA_k (by omega), upA_k (by omega)]
theorem copy3 {S : Mem} {a b : Nat} (h : a ≠ b) : (∀ j, j < 400 → fX3_copyFrom a b S 21 a j = S 21 b j) ∧ (∀ k j, 22 ≤ k → k ≤ 24 → j < 16 → fX3_copyFrom a b S k a j = S k b j) ∧ fX3_copyFrom a b S 3 a 6 = S 3 b 6 ∧ fX3_copyFrom a b S 3 a 5 = S 3 b 5 ∧ ∀ k i, ¬ ((k = 3 ∨ (21 ≤ k ∧ k ≤ 24)) ∧ i = a) → fX3_copyFrom a b S k i = S k i := by
  have e : fX3_copyFrom a b S = up (up (upA (upA (upA (upA S 21 a (va_cpy (S 21 b) (S 21 a) 0 0 400)) 22 a (va_cpy (S 22 b) (S 22 a) 0 0 16)) 23 a (va_cpy (S 23 b) (S 23 a) 0 0 16)) 24 a (va_cpy (S 24 b) (S 24 a) 0 0 16)) 3 a 5 (S 3 b 5)) 3 a 6 (S 3 b 6) := by
    unfold fX3_copyFrom
    simp only [upA_k (show ¬ (22 = 21 ∧ b = a) by omega), upA_k (show ¬ (22 = 21 ∧ a = a) by omega), upA_k (show ¬ (23 = 21 ∧ b = a) by omega), upA_k (show ¬ (23 = 21 ∧ a = a) by omega), upA_k (show ¬ (23 = 22 ∧ b = a) by omega), upA_k (show ¬ (23 = 22 ∧ a = a) by omega), upA_k (show ¬ (24 = 21 ∧ b = a) by omega), upA_k (show ¬ (24 = 21 ∧ a = a) by omega), upA_k (show ¬ (24 = 22 ∧ b = a) by omega), upA_k (show ¬ (24 = 22 ∧ a = a) by omega), upA_k (show ¬ (24 = 23 ∧ b = a) by omega), upA_k (show ¬ (24 = 23 ∧ a = a) by omega), upA_k (show ¬ (3 = 21 ∧ b = a) by omega), upA_k (show ¬ (3 = 22 ∧ b = a) by omega), upA_k (show ¬ (3 = 23 ∧ b = a) by omega), upA_k (show ¬ (3 = 24 ∧ b = a) by omega), upi (show b ≠ a by omega)]
  rw [e]
  refine ⟨fun j hj => ?_, fun k j h1 h2 hj => ?_, up_at, ?_, fun k i hk => ?_⟩
  · rw [upf (by omega), upf (by omega), upA_k (by omega), upA_k (by omega), upA_k (by omega), upA_at, cpy0 hj]
  · rw [upf (by omega), upf (by omega)]
    rcases (show k = 22 ∨ k = 23 ∨ k = 24 by omega) with rfl | rfl | rfl
    · rw [upA_k (by omega), upA_k (by omega), upA_at, cpy0 hj]
    · rw [upA_k (by omega), upA_at, cpy0 hj]
    · rw [upA_at, cpy0 hj]
  · rw [upj (by omega), up_at]
  · rw [upf (by omega), upf (by omega), upA_k (by omega), upA_k (by omega), upA_k (by omega), upA_k (by omega)]
theorem five {P : Nat → Prop} (h0 : P 0) (h1 : P 1) (h2 : P 2) (h3 : P 3) (h4 : P 4) : ∀ j, j < 5 → P j
  | 0, _ => h0 | 1, _ => h1 | 2, _ => h2 | 3, _ => h3 | 4, _ => h4
  | n + 5, h => absurd h (by omega)
theorem copy6 {S : Mem} {a b : Nat} (h : a ≠ b) : (∀ j, j < 5 → fX6_copyFrom a b S 6 a j = S 6 b j) ∧ ∀ k i, ¬ (k = 6 ∧ i = a) → fX6_copyFrom a b S k i = S k i := by
  have e : fX6_copyFrom a b S = up (up (up (up (up S 6 a 0 (S 6 b 0)) 6 a 1 (S 6 b 1)) 6 a 2 (S 6 b 2)) 6 a 3 (S 6 b 3)) 6 a 4 (S 6 b 4) := by
    unfold fX6_copyFrom
    simp only [upi (Ne.symm h)]
  rw [e]
  refine ⟨?_, fun k i hk => ?_⟩
  · apply five <;> simp [up]
  · repeat (rw [upf hk])
/-- what an archive's copy holds: the one of a as b's -/
def cpA (a b : Nat) (S S' : Mem) : Prop := (∀ j, 6 ≤ j → j ≤ 10 → S' 0 a j = S 0 b j) ∧ S' 1 a 1 = S 1 b 1 ∧ S' 2 a 4 = S 2 b 4 ∧ S' 3 a 6 = S 3 b 6 ∧ (∀ i j, i < 12 → j < 8 → S' 5 (12 * a + i) j = S 5 (12 * b + i) j) ∧ (∀ i j, i < 12 → j < 5 → S' 6 (12 * a + i) j = S 6 (12 * b + i) j) ∧ (∀ j, j < 600 → S' 16 a j = S 16 b j) ∧ (∀ k j, 17 ≤ k → k ≤ 20 → j < 6 → S' k a j = S k b j) ∧ (∀ j, j < 400 → S' 21 a j = S 21 b j) ∧ (∀ k j, 22 ≤ k → k ≤ 24 → j < 16 → S' k a j = S k b j) ∧ ∀ k i, ¬ ((k ≤ 3 ∨ (16 ≤ k ∧ k ≤ 24)) ∧ i = a) → ¬ ((k = 5 ∨ k = 6) ∧ 12 * a ≤ i ∧ i < 12 * a + 12) → S' k i = S k i
theorem copy31 {a b : Nat} (hab : a ≠ b) {S0 : Mem} : ∀ (fuel i : Nat) (S : Mem), i ≤ 12 → 12 - i < fuel → (∀ k x, k ≠ 5 → k ≠ 6 → S k x = S0 k x) → (∀ x, ¬ (12 * a ≤ x ∧ x < 12 * a + 12) → S 5 x = S0 5 x ∧ S 6 x = S0 6 x) → (∀ x j, x < i → j < 8 → S 5 (12 * a + x) j = S0 5 (12 * b + x) j) → (∀ x j, x < 12 → j < 5 → S 6 (12 * a + x) j = S0 6 (12 * b + x) j) → ∃ S', fX0_copyFrom_31 fuel a b (nI i) S = some S' ∧ cpA a b S0 S' := by
  intro fuel
  induction fuel with
  | zero => intro i S _ h; omega
  | succ fuel ih =>
    intro i S h1 h2 hk hx h5 h6
    rw [fX0_copyFrom_31]
    by_cases e : i = 12
    · subst e
      rw [if_pos (by decide)]
      obtain ⟨p1, p2, p3⟩ := copy1 (S := S) hab
      generalize fX1_copyFrom a b S = S1 at p1 p2 p3 ⊢
      obtain ⟨q1, q2, q3⟩ := copy2 (S := S1) hab
      generalize fX2_copyFrom a b S1 = S2 at q1 q2 q3 ⊢
      obtain ⟨r1, r2, r3, r4, r5⟩ := copy3 (S := S2) hab
      generalize fX3_copyFrom a b S2 = S3 at r1 r2 r3 r4 r5 ⊢
      simp only [upi (show b ≠ a by omega)]
      have e3 : ∀ k i, ¬ ((k ≤ 3 ∨ (16 ≤ k ∧ k ≤ 24)) ∧ i = a) → S3 k i = S k i := fun k i h => by rw [r5 k i (by omega), q3 k i (by omega), p3 k i (by omega)]
      have e30 : S3 0 b = S0 0 b := by rw [r5 0 b (by omega), q3 0 b (by omega), p3 0 b (by omega), hk 0 b (by omega) (by omega)]
      rw [e30]
      refine ⟨_, rfl, fun j hj1 hj2 => ?_, ?_, ?_, ?_, fun i j hi hj => ?_, fun i j hi hj => ?_, fun j hj => ?_, fun k j hk1 hk2 hj => ?_, fun j hj => ?_, fun k j hk1 hk2 hj => ?_, fun k i hk1 hk2 => ?_⟩
      · rcases (show j = 6 ∨ j = 7 ∨ j = 8 ∨ j = 9 ∨ j = 10 by omega) with rfl | rfl | rfl | rfl | rfl
        · rw [upj (by omega), upj (by omega), upj (by omega), upj (by omega), up_at]
        · rw [upj (by omega), upj (by omega), upj (by omega), up_at]
        · rw [upj (by omega), upj (by omega), up_at]
        · rw [upj (by omega), up_at]
        · rw [up_at]
      · rw [upf (by omega), upf (by omega), upf (by omega), upf (by omega), upf (by omega), r5 1 a (by omega), q3 1 a (by omega), p2, hk 1 b (by omega) (by omega)]
      · rw [upf (by omega), upf (by omega), upf (by omega), upf (by omega), upf (by omega), r5 2 a (by omega), q2, p3 2 b (by omega), hk 2 b (by omega) (by omega)]
      · rw [upf (by omega), upf (by omega), upf (by omega), upf (by omega), upf (by omega), r3, q3 3 b (by omega), p3 3 b (by omega), hk 3 b (by omega) (by omega)]
      · rw [upf (by omega), upf (by omega), upf (by omega), upf (by omega), upf (by omega), e3 5 _ (by omega), h5 i j hi hj]
      · rw [upf (by omega), upf (by omega), upf (by omega), upf (by omega), upf (by omega), e3 6 _ (by omega), h6 i j hi hj]
      · rw [upf (by omega), upf (by omega), upf (by omega), upf (by omega), upf (by omega), r5 16 a (by omega), q3 16 a (by omega), p1 j hj, hk 16 b (by omega) (by omega)]
      · rw [upf (by omega), upf (by omega), upf (by omega), upf (by omega), upf (by omega), r5 k a (by omega), q1 k j hk1 hk2 hj, p3 k b (by omega), hk k b (by omega) (by omega)]
      · rw [upf (by omega), upf (by omega), upf (by omega), upf (by omega), upf (by omega), r1 j hj, q3 21 b (by omega), p3 21 b (by omega), hk 21 b (by omega) (by omega)]
      · rw [upf (by omega), upf (by omega), upf (by omega), upf (by omega), upf (by omega), r2 k j hk1 hk2 hj, q3 k b (by omega), p3 k b (by omega), hk k b (by omega) (by omega)]
      · rw [upf (by omega), upf (by omega), upf (by omega), upf (by omega), upf (by omega), e3 k i (by omega)]
        by_cases k5 : k = 5
        · subst k5; exact (hx i (by omega)).1
        · by_cases k6 : k = 6
          · subst k6; exact (hx i (by omega)).2
          · exact hk k i k5 k6
    · rw [if_neg (show ¬ (12 : Int32) ≤ nI i from nI_ge (b := 12) (by omega) (by omega)), ix_nI (by omega) (by omega), bindS, nI_1]
      obtain ⟨k1, k2⟩ := copy5 (S := S) (show 12 * a + i ≠ 12 * b + i by omega)
      refine ih (i + 1) _ (by omega) (by omega) (fun k x h5' h6' => ?_) (fun x hx' => ?_) (fun x j hx' hj => ?_) (fun x j hx' hj => ?_)
      · rw [k2 k x (by omega), hk k x h5' h6']
      · rw [k2 5 x (by omega), k2 6 x (by omega)]
        exact hx x hx'
      · by_cases ex : x = i
        · subst ex
          rw [k1 j hj, (hx (12 * b + x) (by omega)).1]
        · rw [k2 5 _ (by omega), h5 x j (by omega) hj]
      · rw [k2 6 _ (by omega), h6 x j hx' hj]
theorem copyArch {a b : Nat} (hab : a ≠ b) (S0 : Mem) : ∃ S', fX0_copyFrom a b S0 = some S' ∧ cpA a b S0 S' := by
  have run : ∀ (fuel i : Nat) (S : Mem), i ≤ 12 → 12 - i < fuel → (∀ k x, k ≠ 6 → S k x = S0 k x) → (∀ x, ¬ (12 * a ≤ x ∧ x < 12 * a + 12) → S 6 x = S0 6 x) → (∀ x j, x < i → j < 5 → S 6 (12 * a + x) j = S0 6 (12 * b + x) j) → ∃ S', fX0_copyFrom_2 fuel a b (nI i) S = some S' ∧ cpA a b S0 S' := by
    intro fuel
    induction fuel with
    | zero => intro i S _ h; omega
    | succ fuel ih =>
      intro i S h1 h2 hk hx h6
      rw [fX0_copyFrom_2]
      by_cases e : i = 12
      · subst e
        rw [if_pos (by decide)]
        exact copy31 hab 5000 0 S (by omega) (by omega) (fun k x _ q => hk k x q) (fun x q => ⟨by rw [hk 5 x (by omega)], hx x q⟩) (fun x j q => absurd q (by omega)) h6
      · rw [if_neg (show ¬ (12 : Int32) ≤ nI i from nI_ge (b := 12) (by omega) (by omega)), ix_nI (by omega) (by omega), bindS, nI_1]
        obtain ⟨k1, k2⟩ := copy6 (S := S) (show 12 * a + i ≠ 12 * b + i by omega)
        refine ih (i + 1) _ (by omega) (by omega) (fun k x h6' => ?_) (fun x hx' => ?_) (fun x j hx' hj => ?_)
        · rw [k2 k x (by omega), hk k x h6']
        · rw [k2 6 x (by omega)]
          exact hx x hx'
        · by_cases ex : x = i
          · subst ex
            rw [k1 j hj, hx (12 * b + x) (by omega)]
          · rw [k2 6 _ (by omega), h6 x j (by omega) hj]
  exact run 5000 0 S0 (by omega) (by omega) (fun _ _ _ => rfl) (fun _ _ => rfl) (fun x j q => absurd q (by omega))
