/-! ===== PURE: the class's law reader, its state ===== -/
noncomputable def TP (bb : Nat → Nat) (n a : Nat) : Nat := rn (fun j => blB (bb j)) (n - a) a
noncomputable def TE (bb : Nat → Nat) (n a : Nat) : Nat := tkE bb n (TP bb n a)
noncomputable def TK (bb : Nat → Nat) (n a : Nat) : Nat := tkK bb n (TP bb n a)
noncomputable def TV (bb : Nat → Nat) (n a : Nat) : Nat := tkV bb n (TP bb n a)
theorem T_fact {bb : Nat → Nat} {n a : Nat} (hb : ∀ j, j < n → bb j < 256) (ha : a ≤ n) : TE bb n a ≤ n ∧ (TK bb n a ≠ 0 → a < TE bb n a) ∧ TK bb n a ≤ 26 ∧ (TK bb n a = 2 → TV bb n a ≤ 9999) ∧ a ≤ TE bb n a ∧ TP bb n a ≤ n := by
  have h1 := rn_le (P := fun j => blB (bb j)) (n - a) a
  have h2 : TP bb n a ≤ n := by unfold TP; omega
  have h3 : a ≤ TP bb n a := by unfold TP; omega
  obtain ⟨e1, e2, e3, e4, e5, e6⟩ := tk_fact hb h2
  exact ⟨e2, fun q => by have : TP bb n a < TE bb n a := e3 q; omega, e4, e5, by have : TP bb n a ≤ TE bb n a := e1; omega, h2⟩
def StkN (f : Nat → Int32) : List Nat → Prop
  | [] => True
  | s :: t => f t.length = nI s ∧ StkN f t
theorem StkN.up {S : Mem} {k n : Nat} {v : Int32} : ∀ {t : List Nat}, StkN (S k 0) t → t.length ≤ n → StkN (up S k 0 n v k 0) t
  | [], _, _ => True.intro
  | w :: t, h, hl => ⟨by rw [upj (by simp at hl; omega)]; exact h.1, StkN.up h.2 (by simp at hl; omega)⟩
def CdC (C : Mem) (cd : List (Nat × Int32)) : Prop := C 3 2 5 = nI cd.length ∧ ∀ (k : Nat) (q : Nat × Int32), cd[k]? = some q → C 21 2 k = enc q
def LnC (C : Mem) (ls : List (Nat × Nat × Nat)) : Prop := C 3 2 6 = nI ls.length ∧ ∀ (l : Nat) (q : Nat × Nat × Nat), ls[l]? = some q → C 22 2 l = nI q.1 ∧ C 23 2 l = nI q.2.1 ∧ C 24 2 l = nI q.2.2
def frP (C0 C : Mem) : Prop := ∀ k i, ¬ (i = 0 ∧ (k = 4 ∨ k = 9 ∨ k = 26)) → ¬ (i = 2 ∧ (k = 3 ∨ (21 ≤ k ∧ k ≤ 24))) → C k i = C0 k i
def CS (bb : Nat → Nat) (n : Nat) (C0 C : Mem) (a : Nat) (sg : List Nat) (wt sd : Nat) (cd : List (Nat × Int32)) (ls : List (Nat × Nat × Nat)) (x y : Int32) : Prop := TC bb n C ∧ C 9 0 1 = nI a ∧ (C 4 0 3 = nI sg.length ∧ StkN (C 26 0) sg) ∧ (C 4 0 4 = nI wt ∧ C 4 0 5 = nI sd) ∧ (C 4 0 6 = 0 ∧ C 4 0 7 = 0 ∧ C 4 0 8 = -1) ∧ CdC C cd ∧ LnC C ls ∧ (C 22 2 ls.length = x ∧ C 23 2 ls.length = y) ∧ frP C0 C
/-- the token that the class has read -/
def TkC (bb : Nat → Nat) (n a : Nat) (C : Mem) : Prop := C 9 0 0 = nI (TP bb n a) ∧ C 9 0 2 = nI (TK bb n a) ∧ (TK bb n a = 2 → C 9 0 3 = nI (TV bb n a))
theorem CS.adv {bb : Nat → Nat} {n a wt sd : Nat} {C0 C : Mem} {sg : List Nat} {cd : List (Nat × Int32)} {ls : List (Nat × Nat × Nat)} {x y : Int32} (h : CS bb n C0 C a sg wt sd cd ls x y) (hn : n ≤ 400) (hb : ∀ j, j < n → bb j < 256) (ha : a ≤ n) : ∃ C', fX9_advance C = some C' ∧ CS bb n C0 C' (TE bb n a) sg wt sd cd ls x y ∧ TkC bb n a C' := by
  obtain ⟨h1, h2, h3, h4, h5, h6, h7, h8, h9⟩ := h
  obtain ⟨C', e1, e2, e3, e4, e5, e6⟩ := tok_c hn hb h1 h2 ha
  refine ⟨C', e1, ⟨h1.fr e6, e3, ?_, ?_, ?_, ?_, ?_, ?_, fun k i q1 q2 => ?_⟩, e2, e4, e5⟩
  · rw [e6 4 0 (by omega), e6 26 0 (by omega)]; exact h3
  · rw [e6 4 0 (by omega)]; exact h4
  · rw [e6 4 0 (by omega)]; exact h5
  · unfold CdC
    rw [e6 3 2 (by omega), e6 21 2 (by omega)]; exact h6
  · unfold LnC
    rw [e6 3 2 (by omega), e6 22 2 (by omega), e6 23 2 (by omega), e6 24 2 (by omega)]; exact h7
  · rw [e6 22 2 (by omega), e6 23 2 (by omega)]; exact h8
  · rw [e6 k i (by omega), h9 k i q1 q2]
theorem frP.u {C0 C : Mem} {k j : Nat} {v : Int32} (h : frP C0 C) (hk : k = 4 ∨ k = 9 ∨ k = 26) : frP C0 (up C k 0 j v) := fun k' i q1 q2 => by rw [upf (by omega), h k' i q1 q2]
theorem frP.u2 {C0 C : Mem} {k j : Nat} {v : Int32} (h : frP C0 C) (hk : k = 3 ∨ (21 ≤ k ∧ k ≤ 24)) : frP C0 (up C k 2 j v) := fun k' i q1 q2 => by rw [upf (by omega), h k' i q1 q2]
/-- wanted -/
theorem CS.wt {bb : Nat → Nat} {n a wt sd : Nat} {C0 C : Mem} {sg : List Nat} {cd : List (Nat × Int32)} {ls : List (Nat × Nat × Nat)} {x y : Int32} (h : CS bb n C0 C a sg wt sd cd ls x y) (w : Nat) : CS bb n C0 (up C 4 0 4 (nI w)) a sg w sd cd ls x y := by
  obtain ⟨h1, h2, h3, h4, h5, h6, h7, h8, h9⟩ := h
  refine ⟨⟨by rw [upk (by omega)]; exact h1.1, fun j hj => by rw [upk (by omega)]; exact h1.2 j hj⟩, by rw [upk (by omega)]; exact h2, ⟨by rw [upj (by omega)]; exact h3.1, by rw [upk (by omega)]; exact h3.2⟩, ⟨up_at, by rw [upj (by omega)]; exact h4.2⟩, ⟨by rw [upj (by omega)]; exact h5.1, by rw [upj (by omega)]; exact h5.2.1, by rw [upj (by omega)]; exact h5.2.2⟩, ?_, ?_, ?_, h9.u (by omega)⟩
  · unfold CdC
    rw [upk (by omega), upk (by omega)]; exact h6
  · unfold LnC
    rw [upk (by omega), upk (by omega), upk (by omega), upk (by omega)]; exact h7
  · rw [upk (by omega), upk (by omega)]; exact h8
theorem CS.sd {bb : Nat → Nat} {n a wt sd : Nat} {C0 C : Mem} {sg : List Nat} {cd : List (Nat × Int32)} {ls : List (Nat × Nat × Nat)} {x y : Int32} (h : CS bb n C0 C a sg wt sd cd ls x y) (w : Nat) : CS bb n C0 (up C 4 0 5 (nI w)) a sg wt w cd ls x y := by
  obtain ⟨h1, h2, h3, h4, h5, h6, h7, h8, h9⟩ := h
  refine ⟨⟨by rw [upk (by omega)]; exact h1.1, fun j hj => by rw [upk (by omega)]; exact h1.2 j hj⟩, by rw [upk (by omega)]; exact h2, ⟨by rw [upj (by omega)]; exact h3.1, by rw [upk (by omega)]; exact h3.2⟩, ⟨by rw [upj (by omega)]; exact h4.1, up_at⟩, ⟨by rw [upj (by omega)]; exact h5.1, by rw [upj (by omega)]; exact h5.2.1, by rw [upj (by omega)]; exact h5.2.2⟩, ?_, ?_, ?_, h9.u (by omega)⟩
  · unfold CdC
    rw [upk (by omega), upk (by omega)]; exact h6
  · unfold LnC
    rw [upk (by omega), upk (by omega), upk (by omega), upk (by omega)]; exact h7
  · rw [upk (by omega), upk (by omega)]; exact h8
theorem app_get {α : Type} {l : List α} {v q : α} {k : Nat} (h : (l ++ [v])[k]? = some q) : (k = l.length ∧ q = v) ∨ (k < l.length ∧ l[k]? = some q) := by
  rcases Nat.lt_trichotomy k l.length with e | e | e
  · right
    rw [List.getElem?_append_left e] at h
    exact ⟨e, h⟩
  · left
    subst e
    rw [List.getElem?_append_right (Nat.le_refl _)] at h
    simp at h
    exact ⟨rfl, h.symm⟩
  · rw [List.getElem?_append_right (by omega)] at h
    rw [List.getElem?_eq_none (by simp; omega)] at h
    cases h
/-- an item goes into the draft -/
theorem CS.add {bb : Nat → Nat} {n a wt sd : Nat} {C0 C : Mem} {sg : List Nat} {cd : List (Nat × Int32)} {ls : List (Nat × Nat × Nat)} {x y : Int32} (h : CS bb n C0 C a sg wt sd cd ls x y) (hc : cd.length < 400) (q : Nat × Int32) : ∃ C', fX3_add (enc q) C = some C' ∧ CS bb n C0 C' a sg wt sd (cd ++ [q]) ls x y ∧ ∀ k i, ¬ (i = 2 ∧ (k = 3 ∨ k = 21)) → C' k i = C k i := by
  obtain ⟨h1, h2, h3, h4, h5, h6, h7, h8, h9⟩ := h
  unfold fX3_add
  rw [h6.1, if_neg (show ¬ (400 : Int32) ≤ nI cd.length from nI_ge (b := 400) (by omega) (by omega)), ix_nI (by omega) (by omega), bindS, upk (show (3 : Nat) ≠ 21 by omega), h6.1, nI_1]
  have fr : ∀ k i, ¬ (i = 2 ∧ (k = 3 ∨ k = 21)) → up (up C 21 2 cd.length (enc q)) 3 2 5 (nI (cd.length + 1)) k i = C k i := fun k i hh => by rw [upf (by omega), upf (by omega)]
  refine ⟨_, rfl, ⟨⟨by rw [fr 7 0 (by omega)]; exact h1.1, fun j hj => by rw [fr 27 0 (by omega)]; exact h1.2 j hj⟩, by rw [fr 9 0 (by omega)]; exact h2, by rw [fr 4 0 (by omega), fr 26 0 (by omega)]; exact h3, by rw [fr 4 0 (by omega)]; exact h4, by rw [fr 4 0 (by omega)]; exact h5, ⟨by rw [up_at]; simp, fun k q' hk => ?_⟩, ⟨by rw [upj (by omega), upk (by omega)]; exact h7.1, fun l q' hl => ?_⟩, by rw [fr 22 2 (by omega), fr 23 2 (by omega)]; exact h8, (h9.u2 (by omega)).u2 (by omega)⟩, fr⟩
  · rw [upk (by omega)]
    rcases app_get hk with ⟨e1, e2⟩ | ⟨e1, e2⟩
    · rw [e1, e2, up_at]
    · rw [upj (by omega)]; exact h6.2 k q' e2
  · rw [fr 22 2 (by omega), fr 23 2 (by omega), fr 24 2 (by omega)]
    exact h7.2 l q' hl
/-- a sign waits -/
theorem CS.put {bb : Nat → Nat} {n a wt sd : Nat} {C0 C : Mem} {sg : List Nat} {cd : List (Nat × Int32)} {ls : List (Nat × Nat × Nat)} {x y : Int32} (h : CS bb n C0 C a sg wt sd cd ls x y) (hc : sg.length < 40) (s : Nat) : ∃ C', fX4_putSign (nI s) C = some C' ∧ CS bb n C0 C' a (s :: sg) wt sd cd ls x y := by
  obtain ⟨h1, h2, h3, h4, h5, h6, h7, h8, h9⟩ := h
  unfold fX4_putSign
  rw [h3.1, if_neg (show ¬ (40 : Int32) ≤ nI sg.length from nI_ge (b := 40) (by omega) (by omega)), ix_nI (by omega) (by omega), bindS, upk (show (4 : Nat) ≠ 26 by omega), h3.1, nI_1]
  have fr : ∀ k i, ¬ (i = 0 ∧ (k = 4 ∨ k = 26)) → up (up C 26 0 sg.length (nI s)) 4 0 3 (nI (sg.length + 1)) k i = C k i := fun k i hh => by rw [upf (by omega), upf (by omega)]
  have f4 : ∀ j, j ≠ 3 → up (up C 26 0 sg.length (nI s)) 4 0 3 (nI (sg.length + 1)) 4 0 j = C 4 0 j := fun j hj => by rw [upj hj, upk (by omega)]
  refine ⟨_, rfl, ⟨by rw [fr 7 0 (by omega)]; exact h1.1, fun j hj => by rw [fr 27 0 (by omega)]; exact h1.2 j hj⟩, by rw [fr 9 0 (by omega)]; exact h2, ⟨by rw [up_at]; simp, ?_⟩, by rw [f4 4 (by omega), f4 5 (by omega)]; exact h4, by rw [f4 6 (by omega), f4 7 (by omega), f4 8 (by omega)]; exact h5, ?_, ?_, by rw [fr 22 2 (by omega), fr 23 2 (by omega)]; exact h8, (h9.u (by omega)).u (by omega)⟩
  · rw [upk (by omega)]
    exact ⟨up_at, h3.2.up (Nat.le_refl _)⟩
  · unfold CdC
    rw [fr 3 2 (by omega), fr 21 2 (by omega)]; exact h6
  · unfold LnC
    rw [fr 3 2 (by omega), fr 22 2 (by omega), fr 23 2 (by omega), fr 24 2 (by omega)]; exact h7
/-- the latest sign goes -/
theorem CS.pop {bb : Nat → Nat} {n a wt sd s : Nat} {C0 C : Mem} {sg : List Nat} {cd : List (Nat × Int32)} {ls : List (Nat × Nat × Nat)} {x y : Int32} (h : CS bb n C0 C a (s :: sg) wt sd cd ls x y) : CS bb n C0 (up C 4 0 3 (nI sg.length)) a sg wt sd cd ls x y := by
  obtain ⟨h1, h2, h3, h4, h5, h6, h7, h8, h9⟩ := h
  refine ⟨⟨by rw [upk (by omega)]; exact h1.1, fun j hj => by rw [upk (by omega)]; exact h1.2 j hj⟩, by rw [upk (by omega)]; exact h2, ⟨up_at, by rw [upk (by omega)]; exact h3.2.2⟩, ⟨by rw [upj (by omega)]; exact h4.1, by rw [upj (by omega)]; exact h4.2⟩, ⟨by rw [upj (by omega)]; exact h5.1, by rw [upj (by omega)]; exact h5.2.1, by rw [upj (by omega)]; exact h5.2.2⟩, ?_, ?_, ?_, h9.u (by omega)⟩
  · unfold CdC
    rw [upk (by omega), upk (by omega)]; exact h6
  · unfold LnC
    rw [upk (by omega), upk (by omega), upk (by omega), upk (by omega)]; exact h7
  · rw [upk (by omega), upk (by omega)]; exact h8
def bnd (s : Nat) : Nat := if s = 5 then 1 else if s = 6 then 2 else if s = 7 then 3 else if s = 18 then 5 else if s = 19 then 5 else if s = 20 then 6 else if s = 21 then 6 else if s = 22 then 0 else 4
theorem bnd_all : ∀ s, s < 27 → fX9_bindingOf (nI s) = nI (bnd s) ∧ bnd s ≤ 6 := by decide +kernel
def opk (s : Nat) : Nat := if s = 18 then 2 else if s = 19 then 3 else if s = 20 then 4 else if s = 21 then 5 else if s = 24 then 6 else if s = 25 then 7 else if s = 26 then 8 else if s = 7 then 9 else if s = 6 then 10 else 11
def VSg (s : Nat) : Prop := s = 5 ∨ s = 6 ∨ s = 7 ∨ s = 18 ∨ s = 19 ∨ s = 20 ∨ s = 21 ∨ s = 22 ∨ s = 24 ∨ s = 25 ∨ s = 26
theorem VSg.enc {s : Nat} (h : VSg s) (h2 : s ≠ 22) : -(nI s) = enc (opk s, 0) := by
  rcases h with rfl | rfl | rfl | rfl | rfl | rfl | rfl | rfl | rfl | rfl | rfl
  all_goals first | rfl | decide | exact absurd rfl h2
theorem VSg.lt {s : Nat} (h : VSg s) : s < 27 := by unfold VSg at h; omega
/-- the signs that bind so tightly at least come out -/
def rls (β : Nat) : List (Nat × Int32) → List Nat → List (Nat × Int32) × List Nat
  | cd, [] => (cd, [])
  | cd, s :: t => if bnd s < β then (cd, s :: t) else rls β (cd ++ [(opk s, 0)]) t
theorem rls_len {β : Nat} : ∀ {cd : List (Nat × Int32)} {sg : List Nat}, (rls β cd sg).1.length + (rls β cd sg).2.length = cd.length + sg.length
  | cd, [] => rfl
  | cd, s :: t => by
    unfold rls
    split
    · rfl
    · rw [rls_len]
      simp
      omega
theorem rls_sub {β : Nat} : ∀ {cd : List (Nat × Int32)} {sg : List Nat} {s : Nat}, s ∈ (rls β cd sg).2 → s ∈ sg
  | cd, [], s, h => by cases h
  | cd, u :: t, s, h => by
    unfold rls at h
    split at h
    · exact h
    · exact List.mem_cons_of_mem _ (rls_sub h)
theorem rls_rls {β γ : Nat} (hb : β ≤ γ) : ∀ {cd : List (Nat × Int32)} {sg : List Nat}, rls β (rls γ cd sg).1 (rls γ cd sg).2 = rls β cd sg
  | cd, [] => rfl
  | cd, s :: t => by
    by_cases e : bnd s < γ
    · rw [show rls γ cd (s :: t) = (cd, s :: t) by unfold rls; rw [if_pos e]]
    · rw [show rls γ cd (s :: t) = rls γ (cd ++ [(opk s, 0)]) t by rw [rls, if_neg e], rls_rls hb, show rls β cd (s :: t) = rls β (cd ++ [(opk s, 0)]) t by rw [rls, if_neg (by omega)]]
theorem rls_id {β s : Nat} {cd : List (Nat × Int32)} {t : List Nat} (h : bnd s < β) : rls β cd (s :: t) = (cd, s :: t) := by rw [rls, if_pos h]
theorem rls_no {β s : Nat} {cd : List (Nat × Int32)} {t : List Nat} (h : ¬ bnd s < β) : rls β cd (s :: t) = rls β (cd ++ [(opk s, 0)]) t := by rw [rls, if_neg h]
theorem CS.rel {bb : Nat → Nat} {n a wt sd β : Nat} {C0 : Mem} {ls : List (Nat × Nat × Nat)} {x y : Int32} (hβ : β ≤ 6) : ∀ (sg : List Nat) (fuel : Nat) (cd : List (Nat × Int32)) (C : Mem), CS bb n C0 C a sg wt sd cd ls x y → (∀ s, s ∈ sg → VSg s) → (β = 0 → ∀ s, s ∈ sg → s ≠ 22) → cd.length + sg.length ≤ 400 → sg.length ≤ 40 → sg.length < fuel → ∃ C', fX4_releaseFrom_0 fuel (nI β) C = some C' ∧ CS bb n C0 C' a (rls β cd sg).2 wt sd (rls β cd sg).1 ls x y ∧ C' 9 0 = C 9 0 := by
  intro sg
  induction sg with
  | nil =>
    intro fuel cd C h hv h0 hl h40 hf
    obtain ⟨m, rfl⟩ : ∃ m, fuel = m + 1 := ⟨fuel - 1, by omega⟩
    rw [fX4_releaseFrom_0, h.2.2.1.1, if_pos (show nI [].length ≤ 0 from Int32.le_refl _)]
    exact ⟨C, rfl, h, rfl⟩
  | cons s t ih =>
    intro fuel cd C h hv h0 hl h40 hf
    simp only [List.length_cons] at hl h40 hf
    obtain ⟨m, rfl⟩ : ∃ m, fuel = m + 1 := ⟨fuel - 1, by omega⟩
    have hs := hv s (List.mem_cons_self ..)
    obtain ⟨b1, b2⟩ := bnd_all s hs.lt
    have h31 : C 4 0 3 = nI (t.length + 1) := h.2.2.1.1
    have h26 : C 26 0 t.length = nI s := h.2.2.1.2.1
    rw [fX4_releaseFrom_0, h31, if_neg (show ¬ nI (t.length + 1) ≤ 0 from nI_ge (a := 0) (by omega) (by omega)), nI_pred, ix_nI (by omega) (by omega), bindS, h26, b1, ifLt (by omega) (by omega)]
    by_cases e : bnd s < β
    · rw [if_pos e, rls_id e]
      exact ⟨C, rfl, h, rfl⟩
    · rw [if_neg e, up_at, ix_nI (by omega) (by omega), bindS, upk (show (26 : Nat) ≠ 4 by omega), h26, rls_no e]
      have h22 : s ≠ 22 := by
        intro z
        by_cases b0 : β = 0
        · exact h0 b0 s (List.mem_cons_self ..) z
        · rw [z] at e
          exact e (by show 0 < β; omega)
      rw [hs.enc h22]
      obtain ⟨C1, g1, g2, g3⟩ := h.pop.add (by omega) (opk s, 0)
      rw [g1, bindS]
      obtain ⟨C', f1, f2, f3⟩ := ih m (cd ++ [(opk s, 0)]) C1 g2 (fun s' hs' => hv s' (List.mem_cons_of_mem _ hs')) (fun b0 s' hs' => h0 b0 s' (List.mem_cons_of_mem _ hs')) (by simp; omega) (by omega) (by omega)
      exact ⟨C', f1, f2, by rw [f3, g3 9 0 (by omega), upk (by omega)]⟩
/-- how often a sign waits -/
def cntL (k : Nat) : List Nat → Nat
  | [] => 0
  | s :: t => (if s = k then 1 else 0) + cntL k t
theorem cntL_le {k : Nat} : ∀ (l : List Nat), cntL k l ≤ l.length
  | [] => Nat.le_refl _
  | s :: t => by
    have := cntL_le (k := k) t
    simp [cntL]
    split <;> omega
theorem StkN.get {f : Nat → Int32} : ∀ {t : List Nat} {i : Nat}, StkN f t → i < t.length → ∃ s, f i = nI s ∧ t[t.length - 1 - i]? = some s
  | s :: t, i, h, hi => by
    simp only [List.length_cons] at hi
    by_cases e : i = t.length
    · subst e
      exact ⟨s, h.1, by simp⟩
    · obtain ⟨s', e1, e2⟩ := StkN.get h.2 (show i < t.length by omega)
      refine ⟨s', e1, ?_⟩
      rw [List.length_cons, show t.length + 1 - 1 - i = (t.length - 1 - i) + 1 by omega, List.getElem?_cons_succ]
      exact e2
theorem cntL_drop {k : Nat} : ∀ {t : List Nat} {i : Nat}, i < t.length → cntL k (t.drop (t.length - 1 - i)) = (match t[t.length - 1 - i]? with | some s => if s = k then 1 else 0 | none => 0) + cntL k (t.drop (t.length - i)) := by
  intro t i hi
  have h : t.length - 1 - i < t.length := by omega
  rw [List.drop_eq_getElem_cons h, List.getElem?_eq_getElem h, show t.length - 1 - i + 1 = t.length - i by omega]
  rfl
theorem CS.cnt {bb : Nat → Nat} {n a wt sd : Nat} {C0 C : Mem} {sg : List Nat} {cd : List (Nat × Int32)} {ls : List (Nat × Nat × Nat)} {x y : Int32} (h : CS bb n C0 C a sg wt sd cd ls x y) (hv : ∀ s, s ∈ sg → VSg s) (h40 : sg.length ≤ 40) (k : Nat) (hk : k < 27) : fX4_countWaiting (nI k) C = some (nI (cntL k sg)) := by
  have run : ∀ (fuel i : Nat), i ≤ sg.length → sg.length - i < fuel → fX4_countWaiting_4 fuel (nI k) (nI (cntL k (sg.drop (sg.length - i)))) (nI i) C = some (nI (cntL k sg)) := by
    intro fuel
    induction fuel with
    | zero => intro i _ h; omega
    | succ fuel ih =>
      intro i h1 h2
      rw [fX4_countWaiting_4, h.2.2.1.1]
      by_cases e : i = sg.length
      · subst e
        rw [if_pos (Int32.le_refl _), Nat.sub_self, List.drop_zero]
      · rw [if_neg (nI_ge (by omega) (by omega)), ix_nI (by omega) (by omega), bindS]
        obtain ⟨s, s1, s2⟩ := h.2.2.1.2.get (show i < sg.length by omega)
        have hs : s < 27 := (hv s (List.mem_of_getElem? s2)).lt
        have hd := cntL_drop (k := k) (t := sg) (i := i) (by omega)
        rw [s2] at hd
        have := ih (i + 1) (by omega) (by omega)
        rw [show sg.length - (i + 1) = sg.length - 1 - i by omega, hd] at this
        rw [s1, ifEq (by omega) (by omega), nI_1, nI_1]
        by_cases es : s = k
        · rw [if_pos es]
          simp only [if_pos es] at this
          rw [Nat.add_comm 1] at this
          exact this
        · rw [if_neg es]
          simp only [if_neg es, Nat.zero_add] at this
          exact this
  have := run 5000 0 (by omega) (by omega)
  rw [Nat.sub_zero, List.drop_length] at this
  exact this
