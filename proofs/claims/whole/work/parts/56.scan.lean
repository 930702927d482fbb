/-! ===== PURE: tokens ===== -/
def TC (bb : Nat → Nat) (n : Nat) (C : Mem) : Prop := C 7 0 1 = nI n ∧ ∀ j, j < n → C 27 0 j &&& 255 = nI (bb j)
def TM (bb : Nat → Nat) (n : Nat) (M : Mem) : Prop := M 12 0 21 = nI n ∧ (∀ j, j < n → M 73 0 j = nI (bb j)) ∧ Wrd M
def ltB (b : Nat) : Bool := (decide (97 ≤ b) && decide (b ≤ 122)) || (decide (65 ≤ b) && decide (b ≤ 90))
def dgB (b : Nat) : Bool := decide (48 ≤ b) && decide (b ≤ 57)
def blB (b : Nat) : Bool := decide (b = 32) || decide (b = 10)
/-- how far a run goes -/
def rn (P : Nat → Bool) : Nat → Nat → Nat
  | 0, a => a
  | f + 1, a => if P a = true then rn P f (a + 1) else a
theorem rn_le {P : Nat → Bool} : ∀ f a, a ≤ rn P f a ∧ rn P f a ≤ a + f
  | 0, a => ⟨Nat.le_refl _, Nat.le_refl _⟩
  | f + 1, a => by
    have := rn_le (P := P) f (a + 1)
    unfold rn
    split
    · omega
    · omega
theorem rn_in {P : Nat → Bool} : ∀ f a j, a ≤ j → j < rn P f a → P j = true
  | 0, a, j, h1, h2 => by unfold rn at h2; omega
  | f + 1, a, j, h1, h2 => by
    unfold rn at h2
    split at h2
    · by_cases e : j = a
      · rw [e]; assumption
      · exact rn_in f (a + 1) j (by omega) h2
    · omega
theorem rn_end {P : Nat → Bool} : ∀ f a, rn P f a = a + f ∨ P (rn P f a) = false
  | 0, a => Or.inl rfl
  | f + 1, a => by
    unfold rn
    cases h : P a with
    | true =>
      rw [if_pos rfl]
      have := rn_end (P := P) f (a + 1)
      rw [show a + (f + 1) = a + 1 + f by omega]
      exact this
    | false => rw [if_neg (by decide)]; exact Or.inr h
theorem sgn_c {bb : Nat → Nat} {n p : Nat} {C : Mem} (h : TC bb n C) (hn : n ≤ 400) (hp : p ≤ 1000) : fX7_signAt (nI p) C = some (if p < n then nI (bb p) else -1) := by
  unfold fX7_signAt
  rw [h.1]
  by_cases e : p < n
  · rw [if_neg (by rw [within_in (by omega) e]; decide), ix_nI (by omega) (by omega), bindS, h.2 p e, if_pos e]
  · rw [if_neg e]
    rcases within_sub (x := nI p) (n := n) (by omega) with q | ⟨j, q1, q2, _⟩
    · rw [if_pos q]
    · have := (nI_eq (by omega) (by omega)).mp q2
      omega
theorem raw_m {bb : Nat → Nat} {n p : Nat} {M : Mem} (h : TM bb n M) (hn : n ≤ 400) (hp : p ≤ 1000) : fX12_raw (nI p) M = some (if p < n then nI (bb p) else -1) := by
  unfold fX12_raw
  rw [h.1, ifLe (by omega) (by omega)]
  by_cases e : p < n
  · rw [if_neg (by omega), ix_nI (by omega) (by omega), bindS, h.2.1 p e, if_pos e]
  · rw [if_pos (by omega), if_neg e]
theorem letter_all : ∀ b, b < 256 → fX9_isLetter (nI b) = (if ltB b = true then 1 else 0) ∧ fX9_isDigit (nI b) = (if dgB b = true then 1 else 0) ∧ fX9_isBlank (nI b) = (if blB b = true then 1 else 0) := by decide +kernel
theorem isLetter_eq : fX12_isLetter = fX9_isLetter := rfl
theorem isDigit_eq : fX12_isDigit = fX9_isDigit := rfl
theorem sgx {P : Prop} [Decidable P] {f : Int32 → Int32} {b : Nat} {t : Bool} (h1 : P → f (nI b) = if t = true then 1 else 0) (h2 : f (-1) = 0) : f (if P then nI b else -1) = if P ∧ t = true then 1 else 0 := by
  by_cases e : P
  · rw [if_pos e, h1 e]
    cases t with
    | true => rw [if_pos rfl, if_pos ⟨e, rfl⟩]
    | false => rw [if_neg (by decide), if_neg (fun q => absurd q.2 (by decide))]
  · rw [if_neg e, h2, if_neg (fun q => e q.1)]
/-- blanks -/
theorem adv8 {bb : Nat → Nat} {n : Nat} (hn : n ≤ 400) (hb : ∀ j, j < n → bb j < 256) : ∀ (f fuel a : Nat) (C : Mem), TC bb n C → C 9 0 0 = nI a → a + f = n → f < fuel → ∃ C', fX9_advance_8 fuel C = fX9_advance_46 C' ∧ C' 9 0 0 = nI (rn (fun j => blB (bb j)) f a) ∧ ∀ k i j, ¬ (k = 9 ∧ i = 0 ∧ j = 0) → C' k i j = C k i j := by
  intro f
  induction f with
  | zero =>
    intro fuel a C hT h0 ha hf
    obtain ⟨m, rfl⟩ : ∃ m, fuel = m + 1 := ⟨fuel - 1, by omega⟩
    rw [fX9_advance_8, hT.1, h0, if_pos (nI_le (by omega) (by omega))]
    exact ⟨C, rfl, h0, fun _ _ _ _ => rfl⟩
  | succ f ih =>
    intro fuel a C hT h0 ha hf
    obtain ⟨m, rfl⟩ : ∃ m, fuel = m + 1 := ⟨fuel - 1, by omega⟩
    rw [fX9_advance_8, hT.1, h0, if_neg (nI_ge (by omega) (by omega)), sgn_c hT hn (by omega), bindS, if_pos (show a < n by omega), (letter_all (bb a) (hb a (by omega))).2.2]
    unfold rn
    cases hB : blB (bb a) with
    | true =>
      rw [if_pos rfl, if_neg (by decide), nI_1]
      obtain ⟨C', e1, e2, e3⟩ := ih m (a + 1) (up C 9 0 0 (nI (a + 1))) ⟨by rw [upk (by omega)]; exact hT.1, fun j hj => by rw [upk (by omega)]; exact hT.2 j hj⟩ up_at (by omega) (by omega)
      refine ⟨C', e1, e2, fun k i j h => ?_⟩
      rw [e3 k i j h]
      simp only [up]
      rw [if_neg h]
    | false =>
      rw [if_neg (show ¬ false = true by decide), if_pos rfl]
      exact ⟨C, rfl, h0, fun _ _ _ _ => rfl⟩
/-- what follows the blanks in the reference -/
noncomputable def afterM (S : Mem) : Option Mem :=
  (fX12_raw ((up (up S 12 0 23 (S 12 0 22)) 12 0 24 1) 12 0 22) (up (up S 12 0 23 (S 12 0 22)) 12 0 24 1)).bind fun r8 =>
    if r8 = (-1) then
      some (up (up (up S 12 0 23 (S 12 0 22)) 12 0 24 1) 12 0 24 0)
    else
      if (fX12_isLetter r8) = 0 then
        if (fX12_isDigit r8) = 0 then
          if (fX12_isMarkSign r8) = 0 then
            some (up (up (up (up S 12 0 23 (S 12 0 22)) 12 0 24 1) 12 0 22 (((up (up S 12 0 23 (S 12 0 22)) 12 0 24 1) 12 0 22) + 1)) 12 0 25 r8)
          else
            some (up (up (up (up (up S 12 0 23 (S 12 0 22)) 12 0 24 1) 12 0 22 (((up (up S 12 0 23 (S 12 0 22)) 12 0 24 1) 12 0 22) + 1)) 12 0 25 r8) 12 0 24 4)
        else
          fX12_reads_171 5000 (up (up (up (up (up S 12 0 23 (S 12 0 22)) 12 0 24 1) 12 0 22 (((up (up S 12 0 23 (S 12 0 22)) 12 0 24 1) 12 0 22) + 1)) 12 0 25 r8) 12 0 25 (r8 - 48))
      else
        fX12_reads_95 5000 (up (up (up (up S 12 0 23 (S 12 0 22)) 12 0 24 1) 12 0 22 (((up (up S 12 0 23 (S 12 0 22)) 12 0 24 1) 12 0 22) + 1)) 12 0 25 r8)
def frM22 (M M' : Mem) : Prop := (∀ k i, k ≠ 12 → M' k i = M k i) ∧ ∀ i j, ¬ (i = 0 ∧ 22 ≤ j ∧ j ≤ 25) → M' 12 i j = M 12 i j
theorem frM22.rf {M : Mem} : frM22 M M := ⟨fun _ _ _ => rfl, fun _ _ _ => rfl⟩
theorem frM22.tr {A B D : Mem} (h : frM22 A B) (h2 : frM22 B D) : frM22 A D := ⟨fun k i q => (h2.1 k i q).trans (h.1 k i q), fun i j q => (h2.2 i j q).trans (h.2 i j q)⟩
theorem frM22.u {M : Mem} {j : Nat} {x : Int32} (h : 22 ≤ j ∧ j ≤ 25) : frM22 M (up M 12 0 j x) := ⟨fun k i q => by rw [upk q], fun i j' q => by simp only [up]; rw [if_neg (by omega)]⟩
theorem TM.fr {bb : Nat → Nat} {n : Nat} {M M' : Mem} (h : TM bb n M) (hf : frM22 M M') : TM bb n M' := ⟨by rw [hf.2 0 21 (by omega)]; exact h.1, fun j hj => by rw [hf.1 73 0 (by omega)]; exact h.2.1 j hj, h.2.2.cg (hf.1 74 0 (by omega))⟩
theorem blk32 {b : Nat} (hb : b < 256) : (nI b = 32 ∨ nI b = 10) ↔ blB b = true := by
  have h1 : nI b = 32 ↔ b = 32 := nI_eq (b := 32) (by omega) (by omega)
  have h2 : nI b = 10 ↔ b = 10 := nI_eq (b := 10) (by omega) (by omega)
  rw [h1, h2]
  unfold blB
  simp
theorem reads0 {bb : Nat → Nat} {n : Nat} (hn : n ≤ 400) (hb : ∀ j, j < n → bb j < 256) : ∀ (f fuel a : Nat) (M : Mem), TM bb n M → M 12 0 22 = nI a → a + f = n → f < fuel → ∃ M', fX12_reads_0 fuel M = afterM M' ∧ M' 12 0 22 = nI (rn (fun j => blB (bb j)) f a) ∧ frM22 M M' := by
  intro f
  induction f with
  | zero =>
    intro fuel a M hT h0 ha hf
    obtain ⟨m, rfl⟩ : ∃ m, fuel = m + 1 := ⟨fuel - 1, by omega⟩
    rw [fX12_reads_0, h0, raw_m hT hn (by omega), bindS, bindS, if_neg (show ¬ a < n by omega), if_neg (by decide), if_neg (by decide)]
    refine ⟨M, ?_, h0, frM22.rf⟩
    unfold afterM
    rw [h0]
  | succ f ih =>
    intro fuel a M hT h0 ha hf
    obtain ⟨m, rfl⟩ : ∃ m, fuel = m + 1 := ⟨fuel - 1, by omega⟩
    rw [fX12_reads_0, h0, raw_m hT hn (by omega), bindS, bindS, if_pos (show a < n by omega), nI_1]
    have hbl := blk32 (hb a (by omega))
    have go : ∃ M', fX12_reads_0 m (up M 12 0 22 (nI (a + 1))) = afterM M' ∧ M' 12 0 22 = nI (rn (fun j => blB (bb j)) f (a + 1)) ∧ frM22 M M' := by
      obtain ⟨M', e1, e2, e3⟩ := ih m (a + 1) (up M 12 0 22 (nI (a + 1))) (hT.fr (frM22.u (by omega))) up_at (by omega) (by omega)
      exact ⟨M', e1, e2, (frM22.u (by omega)).tr e3⟩
    unfold rn
    by_cases e1 : nI (bb a) = 32
    · rw [if_pos e1, if_pos (hbl.mp (Or.inl e1))]
      exact go
    · rw [if_neg e1]
      by_cases e2 : nI (bb a) = 10
      · rw [if_pos e2, if_pos (hbl.mp (Or.inr e2))]
        exact go
      · rw [if_neg e2, if_neg (fun q => (hbl.mpr q).elim e1 e2)]
        refine ⟨M, ?_, h0, frM22.rf⟩
        unfold afterM
        rw [h0]
