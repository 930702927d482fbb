/-! ===== PURE: numbers, signs, words ===== -/
theorem nI_sub' {a b : Nat} (h : b ≤ a) (ha : a < 2 ^ 31) : nI a - nI b = nI (a - b) := by
  refine i_nI ?_ (by omega)
  rw [i_sub, nI_toInt ha, nI_toInt (by omega)]
  · omega
  · rw [nI_toInt ha, nI_toInt (by omega)]; omega
  · rw [nI_toInt ha, nI_toInt (by omega)]; omega
def nv (bb : Nat → Nat) (p : Nat) : Nat → Nat
  | 0 => 0
  | j + 1 => nv bb p j * 10 + (bb (p + j) - 48)
theorem nv_lt {bb : Nat → Nat} {p : Nat} : ∀ j, (∀ i, i < j → dgB (bb (p + i)) = true) → nv bb p j < 10 ^ j
  | 0, _ => by show 0 < 1; omega
  | j + 1, h => by
    have h1 := nv_lt (bb := bb) (p := p) j (fun i hi => h i (by omega))
    have h2 := h j (by omega)
    unfold dgB at h2
    simp at h2
    unfold nv
    rw [Nat.pow_succ]
    omega
theorem nv_le {bb : Nat → Nat} {p j : Nat} (hj : j ≤ 4) (h : ∀ i, i < j → dgB (bb (p + i)) = true) : nv bb p j ≤ 9999 := by
  have h1 := nv_lt j h
  have h2 : 10 ^ j ≤ 10 ^ 4 := Nat.pow_le_pow_right (by omega) hj
  omega
def frC9 (C C' : Mem) : Prop := ∀ k i, ¬ (k = 9 ∧ i = 0) → C' k i = C k i
theorem frC9.rf {C : Mem} : frC9 C C := fun _ _ _ => rfl
theorem frC9.tr {A B D : Mem} (h : frC9 A B) (h2 : frC9 B D) : frC9 A D := fun k i q => (h2 k i q).trans (h k i q)
theorem frC9.u {C : Mem} {j : Nat} {x : Int32} : frC9 C (up C 9 0 j x) := fun k i q => by rw [upf q]
theorem TC.fr {bb : Nat → Nat} {n : Nat} {C C' : Mem} (h : TC bb n C) (hf : frC9 C C') : TC bb n C' := ⟨by rw [hf 7 0 (by omega)]; exact h.1, fun j hj => by rw [hf 27 0 (by omega)]; exact h.2 j hj⟩
theorem num_c {bb : Nat → Nat} {n p : Nat} (hn : n ≤ 400) (hb : ∀ j, j < n → bb j < 256) : ∀ (f fuel j : Nat) (C : Mem), TC bb n C → C 9 0 1 = nI (p + j) → (j ≤ 4 → C 9 0 3 = nI (nv bb p j)) → (∀ i, i < j → dgB (bb (p + i)) = true) → p + j + f = n → f < fuel → ∃ C', fX9_takeNumber_5 fuel C = fX9_takeNumber_66 C' ∧ C' 9 0 1 = nI (rn (fun i => dgB (bb i)) f (p + j)) ∧ (rn (fun i => dgB (bb i)) f (p + j) - p ≤ 4 → C' 9 0 3 = nI (nv bb p (rn (fun i => dgB (bb i)) f (p + j) - p))) ∧ C' 9 0 0 = C 9 0 0 ∧ frC9 C C' := by
  intro f
  induction f with
  | zero =>
    intro fuel j C hT h1 h3 hd ha hf
    obtain ⟨m, rfl⟩ : ∃ m, fuel = m + 1 := ⟨fuel - 1, by omega⟩
    rw [fX9_takeNumber_5, hT.1, h1, if_pos (nI_le (by omega) (by omega))]
    refine ⟨C, rfl, h1, fun q => ?_, rfl, frC9.rf⟩
    unfold rn at q ⊢
    rw [show p + j - p = j by omega] at q ⊢
    exact h3 q
  | succ f ih =>
    intro fuel j C hT h1 h3 hd ha hf
    obtain ⟨m, rfl⟩ : ∃ m, fuel = m + 1 := ⟨fuel - 1, by omega⟩
    rw [fX9_takeNumber_5, hT.1, h1, if_neg (nI_ge (by omega) (by omega)), sgn_c hT hn (by omega), bindS, bindS, if_pos (show p + j < n by omega), (letter_all (bb (p + j)) (hb _ (by omega))).2.1]
    unfold rn
    cases hB : dgB (bb (p + j)) with
    | true =>
      rw [if_pos rfl, if_neg (by decide), if_pos rfl, upj (show (1 : Nat) ≠ 3 by omega), h1, nI_1]
      have hb2 := hb (p + j) (by omega)
      have hdd : 48 ≤ bb (p + j) := by
        unfold dgB at hB
        simp at hB
        omega
      obtain ⟨C', e1, e2, e3, e4, e5⟩ := ih m (j + 1) (up (up C 9 0 3 (C 9 0 3 * 10 + nI (bb (p + j)) - 48)) 9 0 1 (nI (p + j + 1))) ((hT.fr frC9.u).fr frC9.u) up_at (fun q => by
          have hv := h3 (by omega)
          have hvl := nv_le (bb := bb) (p := p) (j := j) (by omega) hd
          rw [upj (by omega), up_at, hv, show (10 : Int32) = nI 10 from rfl, show (48 : Int32) = nI 48 from rfl, pk_mul, nI_add, nI_sub' (by omega) (by omega)]
          show _ = nI (nv bb p j * 10 + (bb (p + j) - 48))
          rw [show nv bb p j * 10 + bb (p + j) - 48 = nv bb p j * 10 + (bb (p + j) - 48) by omega]) (fun i hi => by
          by_cases e : i = j
          · rw [e]; exact hB
          · exact hd i (by omega)) (by omega) (by omega)
      refine ⟨C', e1, e2, e3, ?_, (frC9.u.tr frC9.u).tr e5⟩
      rw [e4, upj (by omega), upj (by omega)]
    | false =>
      rw [if_neg (show ¬ false = true by decide), if_pos rfl, if_neg (show ¬ false = true by decide)]
      refine ⟨C, rfl, h1, fun q => ?_, rfl, frC9.rf⟩
      rw [show p + j - p = j by omega] at q ⊢
      exact h3 q
theorem num_m {bb : Nat → Nat} {n p : Nat} (hn : n ≤ 400) (hb : ∀ j, j < n → bb j < 256) : ∀ (f fuel j : Nat) (M : Mem), TM bb n M → M 12 0 22 = nI (p + j) → M 12 0 23 = nI p → (j ≤ 4 → M 12 0 25 = nI (nv bb p j)) → (∀ i, i < j → dgB (bb (p + i)) = true) → p + j + f = n → f < fuel → ∃ M', fX12_reads_171 fuel M = (if 5 ≤ nI (rn (fun i => dgB (bb i)) f (p + j)) - nI p then some M' else some (up M' 12 0 24 3)) ∧ M' 12 0 22 = nI (rn (fun i => dgB (bb i)) f (p + j)) ∧ (rn (fun i => dgB (bb i)) f (p + j) - p ≤ 4 → M' 12 0 25 = nI (nv bb p (rn (fun i => dgB (bb i)) f (p + j) - p))) ∧ M' 12 0 23 = nI p ∧ M' 12 0 24 = M 12 0 24 ∧ frM22 M M' := by
  intro f
  induction f with
  | zero =>
    intro fuel j M hT h1 h23 h3 hd ha hf
    obtain ⟨m, rfl⟩ : ∃ m, fuel = m + 1 := ⟨fuel - 1, by omega⟩
    rw [fX12_reads_171, h1, raw_m hT hn (by omega), bindS, if_neg (show ¬ p + j < n by omega), if_pos (by decide), h23]
    refine ⟨M, rfl, h1, fun q => ?_, h23, rfl, frM22.rf⟩
    unfold rn at q ⊢
    rw [show p + j - p = j by omega] at q ⊢
    exact h3 q
  | succ f ih =>
    intro fuel j M hT h1 h23 h3 hd ha hf
    obtain ⟨m, rfl⟩ : ∃ m, fuel = m + 1 := ⟨fuel - 1, by omega⟩
    rw [fX12_reads_171, h1, raw_m hT hn (by omega), bindS, bindS, if_pos (show p + j < n by omega), isDigit_eq, (letter_all (bb (p + j)) (hb _ (by omega))).2.1, h23]
    unfold rn
    cases hB : dgB (bb (p + j)) with
    | true =>
      rw [if_pos rfl, if_neg (by decide), if_pos rfl, upj (show (22 : Nat) ≠ 25 by omega), upj (show (22 : Nat) ≠ 25 by omega), h1, nI_1]
      have hb2 := hb (p + j) (by omega)
      have hdd : 48 ≤ bb (p + j) := by
        unfold dgB at hB
        simp at hB
        omega
      have hd2 : ∀ i, i < j + 1 → dgB (bb (p + i)) = true := fun i hi => by
        by_cases e : i = j
        · rw [e]; exact hB
        · exact hd i (by omega)
      have run : ∀ x, (j + 1 ≤ 4 → x = nI (nv bb p (j + 1))) → ∃ M', fX12_reads_171 m (up (up M 12 0 25 x) 12 0 22 (nI (p + j + 1))) = (if 5 ≤ nI (rn (fun i => dgB (bb i)) f (p + j + 1)) - nI p then some M' else some (up M' 12 0 24 3)) ∧ M' 12 0 22 = nI (rn (fun i => dgB (bb i)) f (p + j + 1)) ∧ (rn (fun i => dgB (bb i)) f (p + j + 1) - p ≤ 4 → M' 12 0 25 = nI (nv bb p (rn (fun i => dgB (bb i)) f (p + j + 1) - p))) ∧ M' 12 0 23 = nI p ∧ M' 12 0 24 = M 12 0 24 ∧ frM22 M M' := by
        intro x hx
        obtain ⟨M', e1, e2, e3, e4, e5, e6⟩ := ih m (j + 1) (up (up M 12 0 25 x) 12 0 22 (nI (p + j + 1))) ((hT.fr (frM22.u (by omega))).fr (frM22.u (by omega))) up_at (by rw [upj (by omega), upj (by omega), h23]) (fun q => by rw [upj (by omega), up_at]; exact hx q) hd2 (by omega) (by omega)
        refine ⟨M', e1, e2, e3, e4, ?_, ((frM22.u (by omega)).tr (frM22.u (by omega))).tr e6⟩
        rw [e5, upj (by omega), upj (by omega)]
      by_cases hv : 10000 ≤ M 12 0 25
      · rw [if_pos hv]
        refine run _ (fun q => ?_)
        have h4 := h3 (by omega)
        have hvl := nv_le (bb := bb) (p := p) (j := j) (by omega) hd
        rw [h4] at hv
        exact absurd hv (nI_ge (b := 10000) (by omega) (by omega))
      · rw [if_neg hv]
        refine run _ (fun q => ?_)
        have h4 := h3 (by omega)
        have hvl := nv_le (bb := bb) (p := p) (j := j) (by omega) hd
        rw [h4, show (10 : Int32) = nI 10 from rfl, show (48 : Int32) = nI 48 from rfl, pk_mul, nI_add, nI_sub' (by omega) (by omega)]
        show _ = nI (nv bb p j * 10 + (bb (p + j) - 48))
        rw [show 10 * nv bb p j + bb (p + j) - 48 = nv bb p j * 10 + (bb (p + j) - 48) by omega]
    | false =>
      rw [if_neg (show ¬ false = true by decide), if_pos rfl, if_neg (show ¬ false = true by decide)]
      refine ⟨M, rfl, h1, fun q => ?_, h23, rfl, frM22.rf⟩
      rw [show p + j - p = j by omega] at q ⊢
      exact h3 q
/-! signs -/
def sgk (b : Nat) : Nat := if b = 59 then 17 else if b = 43 then 18 else if b = 45 then 19 else if b = 42 then 20 else if b = 47 then 21 else if b = 40 then 22 else if b = 41 then 23 else if b = 60 then 24 else if b = 61 then 25 else if b = 62 then 26 else 1
theorem sgk_all : ∀ b, b < 256 → fJ0_indexOf_0f7a4 1 (i2c (nI b)) = some (if sgk b = 1 then -1 else nI (sgk b - 17)) ∧ fX12_isMarkSign (nI b) = (if sgk b = 1 then 0 else 1) ∧ (sgk b = 1 ∨ (17 ≤ sgk b ∧ sgk b ≤ 26)) := by decide +kernel
/-! words -/
def wdN : List Nat := [97, 103, 101, 32, 119, 104, 101, 110, 32, 111, 114, 32, 97, 110, 100, 32, 110, 111, 116, 32, 116, 104, 101, 110, 32, 110, 111, 119, 32, 100, 117, 115, 116, 32, 111, 119, 110, 32, 114, 101, 97, 100, 32, 115, 104, 101, 108, 102, 32, 107, 105, 110, 100, 32, 97, 108, 105, 118, 101, 32, 112, 97, 112, 101, 114, 32]
def wch (i : Nat) : Nat := wdN.getD i 0
theorem charAt_all : ∀ i, i < 66 → fJ0_charAt_5068e 0 (nI i) = some (nI (wch i)) := by decide +kernel
theorem words_all : ∀ i, i < 66 → wordsT.getD (i + 1) 0 = nI (wch i) ∧ wch i < 256 := by decide +kernel
def lens : List Nat := [3, 4, 2, 3, 3, 4, 3, 4, 3, 4, 5, 4, 5, 5]
/-- whether the bytes are the word that begins at a place of the words -/
def Mp (bb : Nat → Nat) (p e st m : Nat) : Prop := ∀ i, i < m → p + i < e ∧ bb (p + i) = wch (st + i)
noncomputable def fw (bb : Nat → Nat) (p e : Nat) : List Nat → Nat → Nat → Option Nat
  | [], _, _ => none
  | l :: t, w, st => if dcd (Mp bb p e st l ∧ p + l = e) = true then some w else fw bb p e t (w + 1) (st + l + 1)
def wok : List Nat → Nat → Bool
  | [], st => st == 66
  | l :: t, st => allB (fun i => wch (st + i) != 32) l && (wch (st + l) == 32) && decide (st + l < 66) && wok t (st + l + 1)
theorem wok_lens : wok lens 0 = true := by decide +kernel
theorem wok_cons {l st : Nat} {t : List Nat} (h : wok (l :: t) st = true) : (∀ i, i < l → wch (st + i) ≠ 32) ∧ wch (st + l) = 32 ∧ st + l < 66 ∧ wok t (st + l + 1) = true := by
  unfold wok at h
  simp only [Bool.and_eq_true] at h
  obtain ⟨⟨⟨h1, h2⟩, h3⟩, h4⟩ := h
  refine ⟨fun i hi => ?_, by simpa using h2, of_decide_eq_true h3, h4⟩
  have := allB_at h1 hi
  simpa using this
theorem tw_in {bb : Nat → Nat} {n p e st l : Nat} {x2 : Int32} {C : Mem} (hn : n ≤ 400) (hb : ∀ j, j < n → bb j < 256) (hT : TC bb n C) (h0 : C 9 0 0 = nI p) (h1 : C 9 0 1 = nI e) (h2 : C 9 0 2 = 1) (hpe : p ≤ e) (he : e ≤ n) (hs : ∀ i, i < l → wch (st + i) ≠ 32) (hl : st + l < 66) : ∀ (d m fuel : Nat) (x4 : Int32), m + d = l → ((x4 = 1 ∧ Mp bb p e st m) ∨ (x4 = 0 ∧ ¬ Mp bb p e st m)) → ∃ x4' : Int32, fX9_takeWord_53 (fuel + d) x2 (nI m) x4 (nI (st + m)) C = fX9_takeWord_53 fuel x2 (nI l) x4' (nI (st + l)) C ∧ ((x4' = 1 ∧ Mp bb p e st l) ∨ (x4' = 0 ∧ ¬ Mp bb p e st l)) := by
  intro d
  induction d with
  | zero =>
    intro m fuel x4 hm hx
    obtain rfl : m = l := by omega
    exact ⟨x4, rfl, hx⟩
  | succ d ih =>
    intro m fuel x4 hm hx
    have hw := (words_all (st + m) (by omega)).2
    rw [show fuel + (d + 1) = (fuel + d) + 1 by omega, fX9_takeWord_53, show fJ0_length_8abf5 0 = nI 66 by decide, if_neg (nI_ge (by omega) (by omega)), h2, if_pos rfl, charAt_all (st + m) (by omega), bindS, if_neg (show ¬ nI (wch (st + m)) = 32 from fun q => hs m (by omega) ((nI_eq (by omega) (by omega)).mp (show nI (wch (st + m)) = nI 32 from q))), h0, h1, nI_add, nI_1, nI_1]
    have nxt : ∀ x : Int32, ((x = 1 ∧ Mp bb p e st (m + 1)) ∨ (x = 0 ∧ ¬ Mp bb p e st (m + 1))) → ∃ x4' : Int32, fX9_takeWord_53 (fuel + d) x2 (nI (m + 1)) x (nI (st + m + 1)) C = fX9_takeWord_53 fuel x2 (nI l) x4' (nI (st + l)) C ∧ ((x4' = 1 ∧ Mp bb p e st l) ∨ (x4' = 0 ∧ ¬ Mp bb p e st l)) := fun x hx' => ih (m + 1) fuel x (by omega) hx'
    have no : ¬ Mp bb p e st m → ¬ Mp bb p e st (m + 1) := fun q z => q (fun i hi => z i (by omega))
    rcases hx with ⟨rfl, hM⟩ | ⟨rfl, hM⟩
    · rw [if_neg (by decide), ifLe (by omega) (by omega)]
      by_cases q : e ≤ p + m
      · rw [if_pos q]
        exact nxt 0 (Or.inr ⟨rfl, fun z => by have := (z m (by omega)).1; omega⟩)
      · rw [if_neg q, sgn_c hT hn (by omega), bindS, if_pos (show p + m < n by omega)]
        have hb2 := hb (p + m) (by omega)
        rw [ifEq (by omega) (by omega)]
        by_cases q2 : bb (p + m) = wch (st + m)
        · rw [if_pos q2]
          refine nxt 1 (Or.inl ⟨rfl, fun i hi => ?_⟩)
          by_cases ei : i = m
          · rw [ei]; exact ⟨by omega, q2⟩
          · exact hM i (by omega)
        · rw [if_neg q2]
          exact nxt 0 (Or.inr ⟨rfl, fun z => q2 (z m (by omega)).2⟩)
    · rw [if_pos rfl]
      exact nxt 0 (Or.inr ⟨rfl, no hM⟩)
theorem tw_c {bb : Nat → Nat} {n p e : Nat} {C : Mem} (hn : n ≤ 400) (hb : ∀ j, j < n → bb j < 256) (hT : TC bb n C) (h0 : C 9 0 0 = nI p) (h1 : C 9 0 1 = nI e) (h2 : C 9 0 2 = 1) (hpe : p ≤ e) (he : e ≤ n) : ∀ (ws : List Nat) (w st fuel : Nat), wok ws st = true → 67 - st < fuel → st ≤ 66 → w + ws.length < 1000 → fX9_takeWord_53 fuel (nI (3 + w)) 0 1 (nI st) C = some (match fw bb p e ws w st with | some k => up C 9 0 2 (nI (3 + k)) | none => C) := by
  intro ws
  induction ws with
  | nil =>
    intro w st fuel hw hf hst hw2
    obtain ⟨m, rfl⟩ : ∃ m, fuel = m + 1 := ⟨fuel - 1, by omega⟩
    unfold wok at hw
    have : st = 66 := by simpa using hw
    subst this
    rw [fX9_takeWord_53, show fJ0_length_8abf5 0 = nI 66 by decide, if_pos (Int32.le_refl _)]
    rfl
  | cons l t ih =>
    intro w st fuel hw hf hst hw2
    simp only [List.length_cons] at hw2
    obtain ⟨a1, a2, a3, a4⟩ := wok_cons hw
    obtain ⟨m, rfl⟩ : ∃ m, fuel = (m + 1) + l := ⟨fuel - 1 - l, by omega⟩
    obtain ⟨x4, e1, e2⟩ := tw_in (x2 := nI (3 + w)) hn hb hT h0 h1 h2 hpe he a1 a3 l 0 (m + 1) 1 (by omega) (Or.inl ⟨rfl, fun i hi => absurd hi (by omega)⟩)
    rw [show fX9_takeWord_53 (m + 1 + l) (nI (3 + w)) 0 1 (nI st) C = _ from e1, fX9_takeWord_53, show fJ0_length_8abf5 0 = nI 66 by decide, if_neg (nI_ge (by omega) (by omega)), h2, if_pos rfl, charAt_all (st + l) (by omega), bindS, a2, if_pos (show nI 32 = 32 from rfl), h0, h1, nI_add, nI_1, nI_1, show 3 + w + 1 = 3 + (w + 1) by omega]
    have hgo := ih (w + 1) (st + l + 1) m a4 (by omega) (by omega) (by omega)
    show _ = some (match (if dcd (Mp bb p e st l ∧ p + l = e) = true then some w else fw bb p e t (w + 1) (st + l + 1)) with | some k => up C 9 0 2 (nI (3 + k)) | none => C)
    rcases e2 with ⟨rfl, hM⟩ | ⟨rfl, hM⟩
    · rw [if_neg (by decide), ifEq (by omega) (by omega)]
      by_cases q : p + l = e
      · rw [if_pos q, if_pos (dcd_iff.mpr ⟨hM, q⟩)]
        obtain ⟨m', rfl⟩ : ∃ m', m = m' + 1 := ⟨m - 1, by omega⟩
        rw [fX9_takeWord_53, up_at, if_neg (show ¬ nI (3 + w) = 1 from fun z => by
          have := (nI_eq (by omega) (by omega)).mp (show nI (3 + w) = nI 1 from z)
          omega)]
        split <;> rfl
      · rw [if_neg q, dcd_no (fun z => q z.2), if_neg (by decide)]
        exact hgo
    · rw [if_pos rfl, dcd_no (fun z => hM z.1), if_neg (by decide)]
      exact hgo
theorem wa_19 {bb : Nat → Nat} {n p e st l : Nat} {x3 : Int32} {M : Mem} (hn : n ≤ 400) (hb : ∀ j, j < n → bb j < 256) (hT : TM bb n M) (he : e ≤ n) (hlt : ∀ j, p ≤ j → j < e → bb j ≠ 32) (hs : wch (st + l) = 32) (hl : st + l < 66) : ∀ (f fuel i : Nat), p + i + f = e → i ≤ l → f < fuel → fX12_wordAt_19 fuel (nI p) (nI e) x3 (nI st) (nI i) M = some (nI (rn (fun i => decide (wch (st + i) = bb (p + i))) f i)) ∧ rn (fun i => decide (wch (st + i) = bb (p + i))) f i ≤ l := by
  intro f
  induction f with
  | zero =>
    intro fuel i h1 h2 hf
    obtain ⟨m, rfl⟩ : ∃ m, fuel = m + 1 := ⟨fuel - 1, by omega⟩
    rw [fX12_wordAt_19, nI_add, if_pos (nI_le (by omega) (by omega))]
    exact ⟨rfl, h2⟩
  | succ f ih =>
    intro fuel i h1 h2 hf
    obtain ⟨m, rfl⟩ : ∃ m, fuel = m + 1 := ⟨fuel - 1, by omega⟩
    have hw := words_all (st + i) (by omega)
    have hw74 : M 74 0 (st + 1 + i) = nI (wch (st + i)) := by
      rw [hT.2.2 _ (by omega), show st + 1 + i = st + i + 1 by omega, hw.1]
    have hb2 := hb (p + i) (by omega)
    rw [fX12_wordAt_19, nI_add, if_neg (nI_ge (by omega) (by omega)), nI_1, nI_add, ix_nI (by omega) (by omega), bindS, ix_nI (by omega) (by omega), bindS, hw74, hT.2.1 (p + i) (by omega), ifEq (by omega) (by omega), nI_1]
    unfold rn
    by_cases q : wch (st + i) = bb (p + i)
    · have hil : i < l := by
        rcases Nat.lt_or_ge i l with z | z
        · exact z
        · have : i = l := by omega
          rw [this, hs] at q
          exact absurd q.symm (hlt _ (by omega) (by omega))
      rw [if_pos q, if_pos (decide_eq_true q)]
      exact ih m (i + 1) (by omega) (by omega) (by omega)
    · rw [if_neg q, if_neg (fun z => q (of_decide_eq_true z))]
      exact ⟨rfl, h2⟩
theorem wa_93 {bb : Nat → Nat} {n st l : Nat} {x1 x2 x3 : Int32} {M : Mem} (hT : TM bb n M) (hs : ∀ i, i < l → wch (st + i) ≠ 32) (hs2 : wch (st + l) = 32) (hl : st + l < 66) : ∀ (d j fuel : Nat), j + d = l → d < fuel → fX12_wordAt_93 fuel x1 x2 x3 (nI (st + 1 + j)) M = some (nI (st + l + 1)) := by
  intro d
  induction d with
  | zero =>
    intro j fuel h1 hf
    obtain ⟨m, rfl⟩ : ∃ m, fuel = m + 1 := ⟨fuel - 1, by omega⟩
    obtain rfl : j = l := by omega
    have hw := words_all (st + j) (by omega)
    rw [fX12_wordAt_93, ix_nI (by omega) (by omega), bindS, hT.2.2 _ (by omega), show st + 1 + j = st + j + 1 by omega, hw.1, hs2, if_pos (show nI 32 = 32 from rfl)]
  | succ d ih =>
    intro j fuel h1 hf
    obtain ⟨m, rfl⟩ : ∃ m, fuel = m + 1 := ⟨fuel - 1, by omega⟩
    have hw := words_all (st + j) (by omega)
    have hj := hs j (by omega)
    rw [fX12_wordAt_93, ix_nI (by omega) (by omega), bindS, hT.2.2 _ (by omega), show st + 1 + j = st + j + 1 by omega, hw.1, if_neg (show ¬ nI (wch (st + j)) = 32 from fun q => hj ((nI_eq (by omega) (by omega)).mp (show nI (wch (st + j)) = nI 32 from q))), nI_1, show st + j + 1 + 1 = st + 1 + (j + 1) by omega]
    exact ih (j + 1) m (by omega) (by omega)
theorem wa_m {bb : Nat → Nat} {n p e : Nat} {M : Mem} (hn : n ≤ 400) (hb : ∀ j, j < n → bb j < 256) (hT : TM bb n M) (hpe : p ≤ e) (he : e ≤ n) (hlt : ∀ j, p ≤ j → j < e → bb j ≠ 32) : ∀ (ws : List Nat) (w st fuel : Nat), wok ws st = true → ws.length < fuel → st ≤ 66 → w + ws.length < 1000 → fX12_wordAt_5 fuel (nI p) (nI e) (nI w - 1) (nI st) M = some (oI (fw bb p e ws w st)) := by
  intro ws
  induction ws with
  | nil =>
    intro w st fuel hw hf hst hw2
    obtain ⟨m, rfl⟩ : ∃ m, fuel = m + 1 := ⟨fuel - 1, by omega⟩
    unfold wok at hw
    have : st = 66 := by simpa using hw
    subst this
    rw [fX12_wordAt_5, if_pos (show (66 : Int32) ≤ nI 66 from Int32.le_refl _)]
    rfl
  | cons l t ih =>
    intro w st fuel hw hf hst hw2
    simp only [List.length_cons] at hw2 hf
    obtain ⟨a1, a2, a3, a4⟩ := wok_cons hw
    obtain ⟨m, rfl⟩ : ∃ m, fuel = m + 1 := ⟨fuel - 1, by omega⟩
    have hgo := ih (w + 1) (st + l + 1) m a4 (by omega) (by omega) (by omega)
    rw [nI_pred] at hgo
    obtain ⟨g1, g2⟩ := wa_19 (x3 := nI w - 1 + 1) hn hb hT he hlt a2 a3 (e - p) 5000 0 (by omega) (by omega) (by omega)
    have e93 := wa_93 (x1 := nI p) (x2 := nI e) (x3 := nI w - 1 + 1) hT a1 a2 a3 l 0 5000 (by omega) (by omega)
    rw [Nat.add_zero] at e93
    rw [fX12_wordAt_5, if_neg (show ¬ (66 : Int32) ≤ nI st from nI_ge (b := 66) (by omega) (by omega)), show fX12_wordAt_19 5000 (nI p) (nI e) (nI w - 1 + 1) (nI st) 0 M = _ from g1, bindS, nI_1]
    have hin := rn_in (P := fun i => decide (wch (st + i) = bb (p + i))) (e - p) 0
    have hend := rn_end (P := fun i => decide (wch (st + i) = bb (p + i))) (e - p) 0
    have hle := rn_le (P := fun i => decide (wch (st + i) = bb (p + i))) (e - p) 0
    generalize hi0 : rn (fun i => decide (wch (st + i) = bb (p + i))) (e - p) 0 = i0 at g1 g2 hin hend hle ⊢
    have hw := words_all (st + i0) (by omega)
    have hw74 : M 74 0 (st + 1 + i0) = nI (wch (st + i0)) := by
      rw [hT.2.2 _ (by omega), show st + 1 + i0 = st + i0 + 1 by omega, hw.1]
    rw [nI_add, nI_add, ifEq (by omega) (by omega), ix_nI (by omega) (by omega), bindS, hw74, show nI w - 1 + 1 = nI w from Int32.sub_add_cancel .., show (32 : Int32) = nI 32 from rfl, ifEq (by omega) (by omega)]
    rw [show nI w - 1 + 1 = nI w from Int32.sub_add_cancel ..] at e93
    rw [e93, bindS]
    show _ = some (oI (if dcd (Mp bb p e st l ∧ p + l = e) = true then some w else fw bb p e t (w + 1) (st + l + 1)))
    have key : (Mp bb p e st l ∧ p + l = e) ↔ (p + i0 = e ∧ wch (st + i0) = 32) := by
      constructor
      · rintro ⟨k1, k2⟩
        have hil : i0 = l := by
          rcases Nat.lt_or_ge i0 l with z | z
          · exfalso
            rcases hend with hh | hh
            · omega
            · have := (k1 i0 z).2
              rw [decide_eq_true this.symm] at hh
              cases hh
          · omega
        rw [hil]
        exact ⟨k2, a2⟩
      · rintro ⟨k1, k2⟩
        have hil : i0 = l := by
          rcases Nat.lt_or_ge i0 l with z | z
          · exact absurd k2 (a1 i0 z)
          · omega
        refine ⟨fun i hi => ⟨by omega, ?_⟩, by omega⟩
        exact (of_decide_eq_true (hin i (by omega) (by omega))).symm
    by_cases q : p + i0 = e
    · rw [if_pos q]
      by_cases q2 : wch (st + i0) = 32
      · rw [if_pos q2, if_pos (dcd_iff.mpr (key.mpr ⟨q, q2⟩))]
        rfl
      · rw [if_neg q2, dcd_no (fun z => q2 (key.mp z).2), if_neg (by decide)]
        exact hgo
    · rw [if_neg q, dcd_no (fun z => q (key.mp z).1), if_neg (by decide)]
      exact hgo
