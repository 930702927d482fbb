/-! ===== PURE: numbers ===== -/
theorem li (n : Nat) : (OfNat.ofNat n : Int32) = nI n := rfl
theorem ix_nI {j n : Nat} (h : j < n) (hn : n ≤ 100000) : ix (nI j) n = some j := by
  unfold ix
  rw [if_neg (nI_pos (by omega)), nI_clamp (by omega), if_pos h]
theorem nI_lt' {a b : Nat} (ha : a < 2 ^ 31) (hb : b < 2 ^ 31) : (nI a < nI b) = (a < b) := propext (nI_ltI ha hb)
theorem nI_le' {a b : Nat} (ha : a < 2 ^ 31) (hb : b < 2 ^ 31) : (nI a ≤ nI b) = (a ≤ b) := propext (nI_leI ha hb)
theorem nI_eq' {a b : Nat} (ha : a < 2 ^ 31) (hb : b < 2 ^ 31) : (nI a = nI b) = (a = b) := propext (nI_eq ha hb)
theorem ifLt {α : Type} {a b : Nat} {x y : α} (ha : a < 2 ^ 31) (hb : b < 2 ^ 31) : (if nI a < nI b then x else y) = if a < b then x else y := by
  by_cases h : a < b
  · rw [if_pos h, if_pos ((nI_ltI ha hb).mpr h)]
  · rw [if_neg h, if_neg (fun q => h ((nI_ltI ha hb).mp q))]
theorem ifLe {α : Type} {a b : Nat} {x y : α} (ha : a < 2 ^ 31) (hb : b < 2 ^ 31) : (if nI a ≤ nI b then x else y) = if a ≤ b then x else y := by
  by_cases h : a ≤ b
  · rw [if_pos h, if_pos ((nI_leI ha hb).mpr h)]
  · rw [if_neg h, if_neg (fun q => h ((nI_leI ha hb).mp q))]
theorem ifEq {α : Type} {a b : Nat} {x y : α} (ha : a < 2 ^ 31) (hb : b < 2 ^ 31) : (if nI a = nI b then x else y) = if a = b then x else y := by
  by_cases h : a = b
  · rw [if_pos h, if_pos ((nI_eq ha hb).mpr h)]
  · rw [if_neg h, if_neg (fun q => h ((nI_eq ha hb).mp q))]
theorem up_at {S : Mem} {k i j : Nat} {x : Int32} : up S k i j x k i j = x := by simp [up]
/-- an index that the class's tests let through -/
theorem within_sub {x : Int32} {n : Nat} (hn : n ≤ 100000) : fX11_within x 0 (nI n - 1) = 0 ∨ ∃ j, j < n ∧ x = nI j ∧ fX11_within x 0 (nI n - 1) = 1 := by
  unfold fX11_within
  by_cases h0 : x < 0
  · rw [if_pos h0]; exact Or.inl rfl
  · rw [if_neg h0]
    obtain ⟨j, hj, rfl⟩ := nI_of h0
    cases n with
    | zero =>
      rw [if_pos]
      · exact Or.inl rfl
      · have e : nI 0 - 1 = -1 := by decide
        rw [e]
        rw [Int32.lt_iff_toInt_lt, nI_toInt hj]
        have : (-1 : Int32).toInt = -1 := by decide
        rw [this]
        omega
    | succ n =>
      rw [nI_pred, ifLt (by omega) hj]
      by_cases h1 : n < j
      · rw [if_pos h1]; exact Or.inl rfl
      · rw [if_neg h1]; exact Or.inr ⟨j, by omega, rfl, rfl⟩
theorem within_out {x : Int32} {n : Nat} (hn : n ≤ 100000) (h : fX11_within x 0 (nI n - 1) = 0) : x < 0 ∨ nI n ≤ x := by
  rcases pk_ix x (show n < 2 ^ 31 by omega) with h1 | h1 | ⟨j, hj, rfl⟩
  · exact Or.inl h1
  · exact Or.inr h1
  · exfalso
    unfold fX11_within at h
    rw [if_neg (nI_pos (by omega))] at h
    cases n with
    | zero => omega
    | succ n =>
      rw [nI_pred, ifLt (by omega) (by omega), if_neg (by omega)] at h
      exact absurd h (by decide)
theorem within_in {j n : Nat} (hn : n ≤ 100000) (h : j < n) : fX11_within (nI j) 0 (nI n - 1) = 1 := by
  rcases within_sub (x := nI j) hn with h1 | ⟨_, _, _, h1⟩
  · rcases within_out hn h1 with h2 | h2
    · exact absurd h2 (nI_pos (by omega))
    · rw [nI_le' (by omega) (by omega)] at h2; omega
  · exact h1
/-- the readers and papers that the class finds -/
theorem readerAt_spec {C : Mem} {x : Int32} {n : Nat} (hc : C 0 0 6 = nI n) (hn : n ≤ 12) : (fX0_readerAt x C = some none ∧ (x < 0 ∨ nI n ≤ x)) ∨ ∃ j, j < n ∧ x = nI j ∧ fX0_readerAt x C = some (some j) := by
  unfold fX0_readerAt
  rw [hc]
  rcases within_sub (x := x) (n := n) (by omega) with h | ⟨j, h1, rfl, h2⟩
  · rw [if_pos h]; exact Or.inl ⟨rfl, within_out (by omega) h⟩
  · rw [if_neg (by rw [h2]; decide), ix_nI (by omega) (by omega)]
    exact Or.inr ⟨j, h1, rfl, rfl⟩
theorem paperAt_spec {C : Mem} {x : Int32} {n : Nat} (hc : C 0 0 7 = nI n) (hn : n ≤ 12) : (fX0_paperAt x C = some none ∧ (x < 0 ∨ nI n ≤ x)) ∨ ∃ j, j < n ∧ x = nI j ∧ fX0_paperAt x C = some (some j) := by
  unfold fX0_paperAt
  rw [hc]
  rcases within_sub (x := x) (n := n) (by omega) with h | ⟨j, h1, rfl, h2⟩
  · rw [if_pos h]; exact Or.inl ⟨rfl, within_out (by omega) h⟩
  · rw [if_neg (by rw [h2]; decide), ix_nI (by omega) (by omega)]
    exact Or.inr ⟨j, h1, rfl, rfl⟩
theorem isIn_eq : fX12_isIn = fX11_within := rfl
theorem isReader_out {M : Mem} {x : Int32} {n : Nat} (hm : M 12 0 3 = nI n) (h : x < 0 ∨ nI n ≤ x) : fX12_isReader x M = 0 := by
  unfold fX12_isReader
  rw [hm]
  by_cases h0 : x < 0
  · rw [if_pos h0]
  · rw [if_neg h0, if_pos (h.resolve_left h0)]
theorem isReader_in {M : Mem} {j n : Nat} (hm : M 12 0 3 = nI n) (hn : n ≤ 12) (h : j < n) : fX12_isReader (nI j) M = 1 := by
  unfold fX12_isReader
  rw [hm, if_neg (nI_pos (by omega)), ifLe (by omega) (by omega), if_neg (by omega)]
theorem isPaper_out {M : Mem} {x : Int32} {n : Nat} (hm : M 12 0 10 = nI n) (h : x < 0 ∨ nI n ≤ x) : fX12_isPaper x M = 0 := by
  unfold fX12_isPaper
  rw [hm]
  by_cases h0 : x < 0
  · rw [if_pos h0]
  · rw [if_neg h0, if_pos (h.resolve_left h0)]
theorem isPaper_in {M : Mem} {j n : Nat} (hm : M 12 0 10 = nI n) (hn : n ≤ 12) (h : j < n) : fX12_isPaper (nI j) M = 1 := by
  unfold fX12_isPaper
  rw [hm, if_neg (nI_pos (by omega)), ifLe (by omega) (by omega), if_neg (by omega)]
theorem isShelf_eq (x : Int32) : fX12_isShelf x = fX11_isShelf x := by
  unfold fX12_isShelf fX11_isShelf fX11_within
  by_cases h0 : x < 0
  · rw [if_pos h0, if_pos h0]
  · rw [if_neg h0, if_neg h0]
    obtain ⟨j, hj, rfl⟩ := nI_of h0
    have e5 : (5 : Int32) = nI 5 := rfl
    have e4 : (4 : Int32) = nI 4 := rfl
    rw [e5, e4, ifLe (by omega) hj, ifLt (by omega) hj]
    by_cases h1 : 5 ≤ j
    · rw [if_pos h1, if_pos (by omega)]
    · rw [if_neg h1, if_neg (by omega)]
