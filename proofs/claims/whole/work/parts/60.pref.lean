/-! ===== PURE: the law reader: lines, its loop; the reference's state ===== -/
theorem CS.full {bb : Nat → Nat} {n a wt sd : Nat} {C0 C : Mem} {sg : List Nat} {cd : List (Nat × Int32)} {ls : List (Nat × Nat × Nat)} {x y : Int32} (h : CS bb n C0 C a sg wt sd cd ls x y) (hl : ls.length ≤ 16) : fX3_isFull C = if ls.length < 16 then 0 else 1 := by
  unfold fX3_isFull
  rw [h.2.2.2.2.2.2.1.1, show (16 : Int32) = nI 16 from rfl, ifLt (by omega) (by omega)]
theorem CS.start {bb : Nat → Nat} {n a wt sd : Nat} {C0 C : Mem} {sg : List Nat} {cd : List (Nat × Int32)} {ls : List (Nat × Nat × Nat)} {x y : Int32} (h : CS bb n C0 C a sg wt sd cd ls x y) (hl : ls.length < 16) : ∃ C', fX3_startLine C = some C' ∧ CS bb n C0 C' a sg wt sd cd ls (nI cd.length) y := by
  have hf := h.full (by omega)
  obtain ⟨h1, h2, h3, h4, h5, h6, h7, h8, h9⟩ := h
  unfold fX3_startLine
  rw [hf, if_pos hl, if_pos rfl, h7.1, ix_nI hl (by omega), bindS, h6.1]
  have fr : ∀ k i, ¬ (i = 2 ∧ k = 22) → up C 22 2 ls.length (nI cd.length) k i = C k i := fun k i hh => by rw [upf (by omega)]
  refine ⟨_, rfl, ⟨by rw [fr 7 0 (by omega)]; exact h1.1, fun j hj => by rw [fr 27 0 (by omega)]; exact h1.2 j hj⟩, by rw [fr 9 0 (by omega)]; exact h2, by rw [fr 4 0 (by omega), fr 26 0 (by omega)]; exact h3, by rw [fr 4 0 (by omega)]; exact h4, by rw [fr 4 0 (by omega)]; exact h5, ?_, ⟨by rw [fr 3 2 (by omega)]; exact h7.1, fun l q hl => ?_⟩, ⟨up_at, by rw [fr 23 2 (by omega)]; exact h8.2⟩, h9.u2 (by omega)⟩
  · unfold CdC
    rw [fr 3 2 (by omega), fr 21 2 (by omega)]; exact h6
  · have hlt : l < ls.length := by
      rcases Nat.lt_or_ge l ls.length with z | z
      · exact z
      · rw [List.getElem?_eq_none z] at hl; cases hl
    rw [fr 23 2 (by omega), fr 24 2 (by omega), upj (by omega)]
    exact h7.2 l q hl
theorem CS.endAge {bb : Nat → Nat} {n a wt sd : Nat} {C0 C : Mem} {sg : List Nat} {cd : List (Nat × Int32)} {ls : List (Nat × Nat × Nat)} {x y : Int32} (h : CS bb n C0 C a sg wt sd cd ls x y) (hl : ls.length < 16) : ∃ C', fX3_endAge C = some C' ∧ CS bb n C0 C' a sg wt sd cd ls x (nI cd.length) := by
  have hf := h.full (by omega)
  obtain ⟨h1, h2, h3, h4, h5, h6, h7, h8, h9⟩ := h
  unfold fX3_endAge
  rw [hf, if_pos hl, if_pos rfl, h7.1, ix_nI hl (by omega), bindS, h6.1]
  have fr : ∀ k i, ¬ (i = 2 ∧ k = 23) → up C 23 2 ls.length (nI cd.length) k i = C k i := fun k i hh => by rw [upf (by omega)]
  refine ⟨_, rfl, ⟨by rw [fr 7 0 (by omega)]; exact h1.1, fun j hj => by rw [fr 27 0 (by omega)]; exact h1.2 j hj⟩, by rw [fr 9 0 (by omega)]; exact h2, by rw [fr 4 0 (by omega), fr 26 0 (by omega)]; exact h3, by rw [fr 4 0 (by omega)]; exact h4, by rw [fr 4 0 (by omega)]; exact h5, ?_, ⟨by rw [fr 3 2 (by omega)]; exact h7.1, fun l q hl => ?_⟩, ⟨by rw [fr 22 2 (by omega)]; exact h8.1, up_at⟩, h9.u2 (by omega)⟩
  · unfold CdC
    rw [fr 3 2 (by omega), fr 21 2 (by omega)]; exact h6
  · have hlt : l < ls.length := by
      rcases Nat.lt_or_ge l ls.length with z | z
      · exact z
      · rw [List.getElem?_eq_none z] at hl; cases hl
    rw [fr 22 2 (by omega), fr 24 2 (by omega), upj (by omega)]
    exact h7.2 l q hl
theorem CS.endLine {bb : Nat → Nat} {n a wt sd st en : Nat} {C0 C : Mem} {sg : List Nat} {cd : List (Nat × Int32)} {ls : List (Nat × Nat × Nat)} (h : CS bb n C0 C a sg wt sd cd ls (nI st) (nI en)) (hl : ls.length < 16) : ∃ C' x' y', fX3_endLine C = some C' ∧ CS bb n C0 C' a sg wt sd cd (ls ++ [(st, en, cd.length)]) x' y' := by
  have hf := h.full (by omega)
  obtain ⟨h1, h2, h3, h4, h5, h6, h7, h8, h9⟩ := h
  unfold fX3_endLine
  rw [hf, if_pos hl, if_pos rfl, h7.1, ix_nI hl (by omega), bindS, h6.1, upk (show (3 : Nat) ≠ 24 by omega), h7.1, nI_1]
  have fr : ∀ k i, ¬ (i = 2 ∧ (k = 24 ∨ k = 3)) → up (up C 24 2 ls.length (nI cd.length)) 3 2 6 (nI (ls.length + 1)) k i = C k i := fun k i hh => by rw [upf (by omega), upf (by omega)]
  refine ⟨_, _, _, rfl, ⟨by rw [fr 7 0 (by omega)]; exact h1.1, fun j hj => by rw [fr 27 0 (by omega)]; exact h1.2 j hj⟩, by rw [fr 9 0 (by omega)]; exact h2, by rw [fr 4 0 (by omega), fr 26 0 (by omega)]; exact h3, by rw [fr 4 0 (by omega)]; exact h4, by rw [fr 4 0 (by omega)]; exact h5, ⟨by rw [upj (by omega), upk (by omega)]; exact h6.1, by rw [fr 21 2 (by omega)]; exact h6.2⟩, ⟨by rw [up_at]; simp, fun l q hl' => ?_⟩, ⟨rfl, rfl⟩, (h9.u2 (by omega)).u2 (by omega)⟩
  rw [fr 22 2 (by omega), fr 23 2 (by omega), upk (by omega)]
  rcases app_get hl' with ⟨e1, e2⟩ | ⟨e1, e2⟩
  · rw [e1, e2, up_at]
    exact ⟨h8.1, h8.2, rfl⟩
  · rw [upj (by omega)]
    exact h7.2 l q e2
/-! the loop -/
noncomputable def KR (C : Mem) (x : Nat) : Option (Int32 × Mem) := fX4_readAll_6 (5000 - x) (nI x) C
noncomputable def dsp (S5 : Mem) : Option Mem :=
  if (S5 4 0 4) = 0 then fX4_takeLine (S5 9 0 2) S5
  else if (S5 4 0 4) = 1 then fX4_takeUnit (S5 9 0 2) S5
  else if (S5 4 0 4) = 2 then fX4_takeDivisor (S5 9 0 2) S5
  else if (S5 4 0 4) = 3 then fX4_takeTest (S5 9 0 2) S5
  else if (S5 4 0 4) = 4 then fX4_takeOperator (S5 9 0 2) S5
  else fX4_takeJoint (S5 9 0 2) S5
theorem KR_step {C S5 S8 : Mem} {x : Nat} (hx : x ≤ 400) (h6 : C 4 0 6 = 0) (ha : fX9_advance C = some S5) (hd : dsp S5 = some S8) : KR C x = KR S8 (x + 1) := by
  unfold KR
  rw [show 5000 - x = (5000 - (x + 1)) + 1 by omega, fX4_readAll_6, show (400 : Int32) = nI 400 from rfl, ifLt (by omega) (by omega), if_neg (by omega), if_pos h6, ha, bindS, nI_1]
  unfold dsp at hd
  by_cases e0 : S5 4 0 4 = 0
  · rw [if_pos e0] at hd ⊢; rw [hd, bindS]
  · rw [if_neg e0] at hd ⊢
    by_cases e1 : S5 4 0 4 = 1
    · rw [if_pos e1] at hd ⊢; rw [hd, bindS]
    · rw [if_neg e1] at hd ⊢
      by_cases e2 : S5 4 0 4 = 2
      · rw [if_pos e2] at hd ⊢; rw [hd, bindS]
      · rw [if_neg e2] at hd ⊢
        by_cases e3 : S5 4 0 4 = 3
        · rw [if_pos e3] at hd ⊢; rw [hd, bindS]
        · rw [if_neg e3] at hd ⊢
          by_cases e4 : S5 4 0 4 = 4
          · rw [if_pos e4] at hd ⊢; rw [hd, bindS]
          · rw [if_neg e4] at hd ⊢; rw [hd, bindS]
theorem KR_over {C : Mem} {x : Nat} (hx : x ≤ 401) (h6 : C 4 0 6 = 1) : KR C x = if C 4 0 7 = 0 then some (1, C) else some (0, C) := by
  unfold KR
  rw [show 5000 - x = (5000 - (x + 1)) + 1 by omega, fX4_readAll_6, h6]
  unfold fX4_readAll_155
  split
  · rfl
  · rw [if_neg (by decide)]
def ErC (C0 : Mem) (why pl : Nat) (C : Mem) : Prop := C 4 0 7 = nI why ∧ C 4 0 8 = nI pl ∧ frP C0 C
theorem KR_bad {bb : Nat → Nat} {n a why : Nat} {C0 C S5 S6 : Mem} {x : Nat} (hx : x ≤ 400) (h6 : C 4 0 6 = 0) (ha : fX9_advance C = some S5) (hd : dsp S5 = some (fX4_refuse (nI why) S6)) (h9 : S6 9 0 0 = nI (TP bb n a)) (hf : frP C0 S6) (hw : why ≠ 0) (hw2 : why < 10) : ∃ C', KR C x = some (0, C') ∧ ErC C0 why (TP bb n a) C' := by
  refine ⟨fX4_refuse (nI why) S6, ?_, ?_⟩
  · rw [KR_step hx h6 ha hd, KR_over (by omega) (by unfold fX4_refuse; rw [up_at]), if_neg]
    unfold fX4_refuse
    rw [upj (by omega), upj (by omega), up_at]
    exact nI_ne0 (by omega) (by omega)
  · unfold fX4_refuse
    refine ⟨?_, ?_, ((hf.u (by omega)).u (by omega)).u (by omega)⟩
    · rw [upj (by omega), upj (by omega), up_at]
    · rw [upj (by omega), up_at, upk (by omega), h9]
/-! the reference -/
def CdM (M : Mem) (cd : List (Nat × Int32)) : Prop := M 12 0 33 = nI cd.length ∧ ∀ (k : Nat) (q : Nat × Int32), cd[k]? = some q → M 78 0 (400 + k) = nI q.1 ∧ M 79 0 (400 + k) = q.2
def frQ (M0 M : Mem) : Prop := ∀ k i j, ¬ (i = 0 ∧ k = 12 ∧ ((22 ≤ j ∧ j ≤ 25) ∨ j = 33 ∨ j = 34 ∨ (36 ≤ j ∧ j ≤ 38))) → ¬ (i = 0 ∧ k = 80) → ¬ (i = 0 ∧ (k = 78 ∨ k = 79) ∧ 400 ≤ j) → ¬ (i = 0 ∧ 75 ≤ k ∧ k ≤ 77 ∧ 16 ≤ j) → M k i j = M0 k i j
def frA (M M' : Mem) : Prop := ∀ k i j, ¬ (i = 0 ∧ k = 12 ∧ ((22 ≤ j ∧ j ≤ 25) ∨ j = 33 ∨ j = 37 ∨ j = 38)) → ¬ (i = 0 ∧ (k = 78 ∨ k = 79) ∧ 400 ≤ j) → M' k i j = M k i j
theorem frQ.a {M0 M M' : Mem} (h : frQ M0 M) (h2 : frA M M') : frQ M0 M' := fun k i j q1 q2 q3 q4 => by rw [h2 k i j (by omega) (by omega), h k i j q1 q2 q3 q4]
theorem frA.rf {M : Mem} : frA M M := fun _ _ _ _ _ => rfl
theorem frA.tr {A B D : Mem} (h : frA A B) (h2 : frA B D) : frA A D := fun k i j q1 q2 => (h2 k i j q1 q2).trans (h k i j q1 q2)
theorem frM22.a {M M' : Mem} (h : frM22 M M') : frA M M' := fun k i j q1 q2 => by
  by_cases e : k = 12
  · subst e; exact h.2 i j (by omega)
  · rw [h.1 k i e]
def MA (bb : Nat → Nat) (n : Nat) (M0 M : Mem) (a : Nat) (cd : List (Nat × Int32)) : Prop := TM bb n M ∧ (M 12 0 23 = nI (TP bb n a) ∧ M 12 0 22 = nI (TE bb n a) ∧ TkM (TK bb n a) (TV bb n a) M) ∧ CdM M cd ∧ frQ M0 M
theorem MA.reads {bb : Nat → Nat} {n a : Nat} {M0 M : Mem} {cd : List (Nat × Int32)} (h : MA bb n M0 M a cd) (hn : n ≤ 400) (hb : ∀ j, j < n → bb j < 256) (ha : a ≤ n) : ∃ M', fX12_reads M = some M' ∧ MA bb n M0 M' (TE bb n a) cd ∧ frA M M' := by
  obtain ⟨h1, ⟨h2, h3, h4⟩, h5, h6⟩ := h
  obtain ⟨M', e1, e2, e3, e4, e5⟩ := tok_m hn hb h1 h3 (T_fact hb ha).1
  refine ⟨M', e1, ⟨h1.fr e5, ⟨e2, e3, e4⟩, ⟨?_, fun k q hk => ?_⟩, h6.a e5.a⟩, e5.a⟩
  · rw [e5.2 0 33 (by omega)]; exact h5.1
  · rw [e5.1 78 0 (by omega), e5.1 79 0 (by omega)]; exact h5.2 k q hk
theorem MA.emits {bb : Nat → Nat} {n a o : Nat} {v : Int32} {M0 M : Mem} {cd : List (Nat × Int32)} (h : MA bb n M0 M a cd) (hc : cd.length < 400) : ∃ M', fX12_emits (nI o) v M = some M' ∧ MA bb n M0 M' a (cd ++ [(o, v)]) ∧ frA M M' ∧ (∀ j, j ≠ 33 → M' 12 0 j = M 12 0 j) := by
  obtain ⟨h1, ⟨h2, h3, h4⟩, h5, h6⟩ := h
  unfold fX12_emits
  rw [h5.1, show (400 : Int32) = nI 400 from rfl, nI_add, ix_nI (by omega) (by omega), bindS, upk (show (12 : Nat) ≠ 78 by omega), h5.1, nI_add, ix_nI (by omega) (by omega), bindS, upk (show (12 : Nat) ≠ 79 by omega), upk (show (12 : Nat) ≠ 78 by omega), h5.1, nI_1]
  have f12 : ∀ j, j ≠ 33 → up (up (up M 78 0 (400 + cd.length) (nI o)) 79 0 (400 + cd.length) v) 12 0 33 (nI (cd.length + 1)) 12 0 j = M 12 0 j := fun j hj => by rw [upj hj, upk (by omega), upk (by omega)]
  have fk : ∀ k i, ¬ (i = 0 ∧ (k = 12 ∨ k = 78 ∨ k = 79)) → up (up (up M 78 0 (400 + cd.length) (nI o)) 79 0 (400 + cd.length) v) 12 0 33 (nI (cd.length + 1)) k i = M k i := fun k i hh => by rw [upf (by omega), upf (by omega), upf (by omega)]
  have fa : frA M (up (up (up M 78 0 (400 + cd.length) (nI o)) 79 0 (400 + cd.length) v) 12 0 33 (nI (cd.length + 1))) := fun k i j q1 q2 => by
    simp only [up]
    rw [if_neg (by omega), if_neg (by omega), if_neg (by omega)]
  refine ⟨_, rfl, ⟨⟨by rw [f12 21 (by omega)]; exact h1.1, fun j hj => by rw [fk 73 0 (by omega)]; exact h1.2.1 j hj, h1.2.2.cg (fk 74 0 (by omega))⟩, ⟨by rw [f12 23 (by omega)]; exact h2, by rw [f12 22 (by omega)]; exact h3, by unfold TkM; rw [f12 24 (by omega), f12 25 (by omega)]; exact h4⟩, ⟨by rw [up_at]; simp, fun k q hk => ?_⟩, h6.a fa⟩, fa, f12⟩
  rw [upk (show (78 : Nat) ≠ 12 by omega), upk (show (78 : Nat) ≠ 79 by omega), upk (show (79 : Nat) ≠ 12 by omega)]
  rcases app_get hk with ⟨e1, e2⟩ | ⟨e1, e2⟩
  · rw [e1, e2, up_at, up_at]
    exact ⟨rfl, rfl⟩
  · rw [upj (by omega), upj (by omega), upk (by omega)]
    exact h5.2 k q e2
def ErM (M0 : Mem) (why pl : Nat) (M : Mem) : Prop := M 12 0 37 = nI why ∧ M 12 0 38 = nI pl ∧ frQ M0 M
theorem MA.errs {bb : Nat → Nat} {n a why : Nat} {M0 M : Mem} {cd : List (Nat × Int32)} (h : MA bb n M0 M a cd) : (fX12_errs (nI why) M).1 = -1 ∧ ErM M0 why (TP bb n a) (fX12_errs (nI why) M).2 := by
  obtain ⟨h1, ⟨h2, h3, h4⟩, h5, h6⟩ := h
  have e : (fX12_errs (nI why) M).2 = up (up M 12 0 37 (nI why)) 12 0 38 (up M 12 0 37 (nI why) 12 0 23) := rfl
  rw [e]
  refine ⟨rfl, ?_, ?_, fun k i j q1 q2 q3 q4 => ?_⟩
  · rw [upj (by omega), up_at]
  · rw [up_at, upj (by omega), h2]
  · simp only [up]
    rw [if_neg (by omega), if_neg (by omega), h6 k i j q1 q2 q3 q4]
