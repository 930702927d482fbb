/-! ===== PURE: the age of a paper ===== -/
theorem bindS {α β : Type} {a : α} {f : α → Option β} : (some a).bind f = f a := by
  have h : ∀ o : Option α, o = some a → o.bind f = f a := fun o h => by rw [h]; rfl
  exact h _ rfl
theorem mtS {α : Type} {i : Nat} {a : α} {f : Nat → α} : mt (some i) a f = f i := rfl
theorem mtN {α : Type} {a : α} {f : Nat → α} : mt none a f = a := rfl
theorem bdS {α β γ : Type} {r : β} {S : γ} {f : β → γ → Option α} : bd (some (r, S)) f = f r S := rfl
theorem ev1_cg {g g' : Nat → Int32} {st : List Int32} {ty ty' : List Nat} {q : Nat × Int32} (h : ∀ j, j < 9 → g j = g' j) (hw : wfs ty q = some ty') : ev1 g st q = ev1 g' st q := by
  by_cases h1 : q.1 = 1
  · obtain ⟨m, m1, rfl, m3⟩ := wfs1 hw h1
    unfold ev1
    rw [nI_clamp (by omega), h m m1]
  · unfold ev1
    by_cases h0 : q.1 = 0
    · rw [if_pos h0, if_pos h0]
    · rw [if_neg h0, if_neg h0, if_neg h1, if_neg h1]
theorem ev_cg {g g' : Nat → Int32} (h : ∀ j, j < 9 → g j = g' j) : ∀ (l : List (Nat × Int32)) (st : List Int32) (ty ty' : List Nat), wf ty l = some ty' → ev g st l = ev g' st l := by
  intro l
  induction l with
  | nil => intro st ty ty' _; rfl
  | cons q l ih =>
    intro st ty ty' hw
    unfold wf at hw
    cases hws : wfs ty q with
    | none => rw [hws] at hw; cases hw
    | some ty1 =>
      rw [hws] at hw
      show ev g (ev1 g st q) l = ev g' (ev1 g' st q) l
      rw [ev1_cg h hws]
      exact ih _ _ _ hw
theorem EV_cg {g g' : Nat → Int32} (h : ∀ j, j < 9 → g j = g' j) {cd : List (Nat × Int32)} {a b : Nat} (hw : wseg cd a b) : EV g cd a b = EV g' cd a b := by
  obtain ⟨f, hw⟩ := hw
  unfold EV
  rw [ev_cg h _ _ _ _ hw]
theorem agL_cg {g g' : Nat → Int32} (h : ∀ j, j < 9 → g j = g' j) {cd : List (Nat × Int32)} : ∀ (ls : List (Nat × Nat × Nat)), (∀ q, q ∈ ls → wseg cd q.1 q.2.1 ∧ (q.2.1 = q.2.2 ∨ wseg cd q.2.1 q.2.2)) → agL g cd ls = agL g' cd ls := by
  intro ls
  induction ls with
  | nil => intro _; exact h 0 (by omega)
  | cons q t ih =>
    intro hq
    have h1 := hq q (List.mem_cons_self ..)
    have h2 := ih (fun q' hq' => hq q' (List.mem_cons_of_mem _ hq'))
    unfold agL
    rw [h2, EV_cg h h1.1]
    by_cases e : q.2.1 = q.2.2
    · rw [if_pos (Or.inl e), if_pos (Or.inl e)]
    · rw [EV_cg h (h1.2.resolve_left e)]
theorem LwR'.seg {C M : Mem} {cd : List (Nat × Int32)} {ls : List (Nat × Nat × Nat)} (h : LwR' C M cd ls) : ∀ q, q ∈ ls → wseg cd q.1 q.2.1 ∧ (q.2.1 = q.2.2 ∨ wseg cd q.2.1 q.2.2) := by
  intro q hq
  obtain ⟨l, hl, e⟩ := List.getElem_of_mem hq
  have := h.2.2.2.2.2 l q (by rw [List.getElem?_eq_getElem hl, e])
  exact ⟨this.2.2.2.2.2.2.2.2.2.1, this.2.2.2.2.2.2.2.2.2.2⟩
theorem held_le (x : Int32) : ∃ a, a ≤ 999 ∧ fX3_held x = nI a := by
  unfold fX3_held
  rcases Decidable.em (x < 999) with c | c
  · rw [if_pos c]
    rcases Decidable.em (0 < x) with d | d
    · rw [if_pos d]
      obtain ⟨n, hn, e⟩ := nI_of (fun q => Int32.lt_irrefl (Int32.lt_trans d q))
      rw [e, show (999 : Int32) = nI 999 from rfl, nI_ltI (by omega) (by omega)] at c
      exact ⟨n, by omega, e⟩
    · rw [if_neg d]
      exact ⟨0, by omega, rfl⟩
  · rw [if_neg c]
    exact ⟨999, by omega, by decide⟩
def fct (v : Nat → Int32) (y kd al d : Int32) : Nat → Int32
  | 0 => v 4 | 1 => y | 2 => d - v 6 | 3 => (d - v 2) / 365 | 4 => v 5 | 5 => v 1 | 6 => kd | 7 => al | 8 => v 0 | _ => 0
noncomputable def yk (C : Mem) (x d : Int32) : Int32 × Int32 × Int32 := if x < 0 then (0, 9, 0) else (fX6_yearsOn x.toNatClampNeg d C, C 6 x.toNatClampNeg 3, if fX6_livesOn x.toNatClampNeg d C = 0 then 0 else 1)
noncomputable def agv (cd : List (Nat × Int32)) (ls : List (Nat × Nat × Nat)) (C : Mem) (v : Nat → Int32) (d : Int32) : Int32 := fX3_held (agL (fct v (yk C (v 3) d).1 (yk C (v 3) d).2.1 (yk C (v 3) d).2.2 d) cd ls)
theorem yk_none {C : Mem} {d : Int32} : yk C (-1) d = (0, 9, 0) := by
  unfold yk
  rw [if_pos (by decide)]
theorem yk_some {C : Mem} {d : Int32} {i : Nat} (h : i < 12) : yk C (nI i) d = (fX6_yearsOn i d C, C 6 i 3, if fX6_livesOn i d C = 0 then 0 else 1) := by
  unfold yk
  rw [if_neg (nI_pos (by omega)), nI_clamp (by omega)]
theorem nine {P : Nat → Prop} (h0 : P 0) (h1 : P 1) (h2 : P 2) (h3 : P 3) (h4 : P 4) (h5 : P 5) (h6 : P 6) (h7 : P 7) (h8 : P 8) : ∀ j, j < 9 → P j
  | 0, _ => h0 | 1, _ => h1 | 2, _ => h2 | 3, _ => h3 | 4, _ => h4 | 5, _ => h5 | 6, _ => h6 | 7, _ => h7 | 8, _ => h8
  | n + 9, h => absurd h (by omega)
/-- the nine facts, put into a row -/
def f9 (S : Mem) (k : Nat) (a0 a1 a2 a3 a4 a5 a6 a7 a8 : Int32) : Mem := up (up (up (up (up (up (up (up (up S k 0 0 a0) k 0 1 a1) k 0 2 a2) k 0 3 a3) k 0 4 a4) k 0 5 a5) k 0 6 a6) k 0 7 a7) k 0 8 a8
theorem f9_k {S : Mem} {k k' : Nat} {a0 a1 a2 a3 a4 a5 a6 a7 a8 : Int32} (h : k' ≠ k) : f9 S k a0 a1 a2 a3 a4 a5 a6 a7 a8 k' = S k' := by
  unfold f9
  rw [upk h, upk h, upk h, upk h, upk h, upk h, upk h, upk h, upk h]
theorem f9_at {S : Mem} {k : Nat} {v : Nat → Int32} {y kd al d : Int32} : ∀ j, j < 9 → f9 S k (v 4) y (d - v 6) ((d - v 2) / 365) (v 5) (v 1) kd al (v 0) k 0 j = fct v y kd al d j := by
  apply nine <;> simp [f9, up, fct]
theorem ageC0 {S : Mem} {b : Nat} {d : Int32} : fX0_ageOf_37 b d 0 1 (up S 15 0 0 (S 5 b 4)) = bd (fX3_ageBy (f9 S 15 (S 5 b 4) 0 (d - S 5 b 6) ((d - S 5 b 2) / 365) (S 5 b 5) (S 5 b 1) 9 0 (S 5 b 0))) fun r S' => some (r, S') := by
  unfold fX0_ageOf_37 fX0_ageOf_105 fX0_ageOf_128 fX0_ageOf_129 f9
  rw [show ix 1 9 = some 1 by decide, show ix 6 9 = some 6 by decide, show ix 7 9 = some 7 by decide]
  simp only [bindS, upk (show (5 : Nat) ≠ 15 by decide)]
theorem ageC1 {S : Mem} {b i : Nat} {d y : Int32} : fX0_ageOf_37v1 b d i y 1 (up S 15 0 0 (S 5 b 4)) = bd (fX3_ageBy (f9 S 15 (S 5 b 4) y (d - S 5 b 6) ((d - S 5 b 2) / 365) (S 5 b 5) (S 5 b 1) (S 6 i 3) (if fX6_livesOn i d S = 0 then 0 else 1) (S 5 b 0))) fun r S' => some (r, S') := by
  have hl : ∀ (T : Mem), T 6 i = S 6 i → fX6_livesOn i d T = fX6_livesOn i d S := by
    intro T hT
    unfold fX6_livesOn
    rw [hT]
  unfold fX0_ageOf_37v1 fX0_ageOf_105v1 fX0_ageOf_128 fX0_ageOf_129 f9
  rw [show ix 1 9 = some 1 by decide, show ix 6 9 = some 6 by decide, show ix 7 9 = some 7 by decide]
  simp only [bindS, upk (show (5 : Nat) ≠ 15 by decide), upk (show (6 : Nat) ≠ 15 by decide)]
  rw [hl _ (by simp only [upk (show (6 : Nat) ≠ 15 by decide)])]
  by_cases h : fX6_livesOn i d S = 0
  · rw [if_pos h, if_pos h]
  · rw [if_neg h, if_neg h]
theorem age_c {C M : Mem} {cd : List (Nat × Int32)} {ls : List (Nat × Nat × Nat)} {nr b : Nat} {d : Int32} (hL : LwR' C M cd ls) (c6 : C 0 0 6 = nI nr) (hnr : nr ≤ 12) (hq : ∃ q, q ≤ nr ∧ C 5 b 3 = nI q - 1) : ∃ C', fX0_ageOf b d C = some (agv cd ls C (C 5 b) d, C') ∧ ∀ k i, k ≠ 15 → k ≠ 25 → C' k i = C k i := by
  have run : ∀ y kd al, yk C (C 5 b 3) d = (y, kd, al) → ∃ C', bd (fX3_ageBy (f9 C 15 (C 5 b 4) y (d - C 5 b 6) ((d - C 5 b 2) / 365) (C 5 b 5) (C 5 b 1) kd al (C 5 b 0))) (fun r S' => some (r, S')) = some (agv cd ls C (C 5 b) d, C') ∧ ∀ k i, k ≠ 15 → k ≠ 25 → C' k i = C k i := by
    intro y kd al hy
    have e9 := f9_at (S := C) (k := 15) (v := C 5 b) (y := y) (kd := kd) (al := al) (d := d)
    have ek := fun k' (h : k' ≠ 15) => f9_k (S := C) (k := 15) (k' := k') (a0 := C 5 b 4) (a1 := y) (a2 := d - C 5 b 6) (a3 := (d - C 5 b 2) / 365) (a4 := C 5 b 5) (a5 := C 5 b 1) (a6 := kd) (a7 := al) (a8 := C 5 b 0) h
    generalize f9 C 15 (C 5 b 4) y (d - C 5 b 6) ((d - C 5 b 2) / 365) (C 5 b 5) (C 5 b 1) kd al (C 5 b 0) = C1 at e9 ek
    have hL1 : LwR' C1 M cd ls := hL.cg (by rw [ek 3 (by omega)]) (by rw [ek 21 (by omega)]) (by rw [ek 22 (by omega)]) (by rw [ek 23 (by omega)]) (by rw [ek 24 (by omega)]) rfl rfl rfl rfl rfl rfl
    obtain ⟨C', f1, f2⟩ := ageBy_eq 5000 0 C1 hL1 (by omega) (by have := hL.2.1; omega)
    unfold fX3_ageBy
    rw [show fX3_ageBy_2 5000 0 C1 = _ from f1, List.drop_zero, agL_cg e9 ls hL.seg]
    refine ⟨C', ?_, fun k i h1 h2 => by rw [f2 k i h2, ek k h1]⟩
    unfold agv
    rw [hy, bdS]
  unfold fX0_ageOf
  obtain ⟨q, q1, q2⟩ := hq
  cases q with
  | zero =>
    have e : C 5 b 3 = -1 := by rw [q2]; decide
    rcases readerAt_spec (x := C 5 b 3) c6 hnr with ⟨e1, _⟩ | ⟨j, hj, hj2, e1⟩
    · rw [e1, bindS, mtN]
      have h := run 0 9 0 (by rw [e, yk_none])
      rw [← ageC0] at h
      exact h
    · rw [e] at hj2
      exact absurd hj2.symm (nI_ne_m1 (by omega))
  | succ q =>
    rw [nI_pred] at q2
    rcases readerAt_spec (x := C 5 b 3) c6 hnr with ⟨e1, ho⟩ | ⟨j, hj, hj2, e1⟩
    · rw [q2] at ho
      rcases ho with ho | ho
      · exact absurd ho (nI_pos (by omega))
      · exact absurd ho (nI_ge (by omega) (by omega))
    · have ej : q = j := (nI_eq (by omega) (by omega)).mp (q2.symm.trans hj2)
      subst ej
      rw [e1, bindS, mtS]
      have h := run (fX6_yearsOn q d C) (C 6 q 3) (if fX6_livesOn q d C = 0 then 0 else 1) (by rw [q2, yk_some (by omega)])
      rw [← ageC1] at h
      have hy : fX6_yearsOn q d (up C 15 0 0 (C 5 b 4)) = fX6_yearsOn q d C := by
        unfold fX6_yearsOn
        rw [upk (by omega)]
      rw [← hy] at h
      exact h
theorem ageM_end {S : Mem} {r : Nat} {no y0 : Int32} (hr : r < 13) : fX12_ageOf_153 (nI r) no y0 7 S = fX12_ageOf_178 5000 (S 68 0 r) (S 12 0 27 - 1) (up (up S 81 0 7 y0) 81 0 8 no) := by
  unfold fX12_ageOf_153
  rw [show ix 7 9 = some 7 by decide, ix_nI hr (by omega)]
  simp only [bindS, upk (show (68 : Nat) ≠ 81 by decide), upk (show (12 : Nat) ≠ 81 by decide)]
theorem age_m {C M : Mem} {cd : List (Nat × Int32)} {ls : List (Nat × Nat × Nat)} {nr r d : Nat} {v : Nat → Int32} (hL : LwR' C M cd ls) (hnr : nr ≤ 12) (hRd : RdR C M nr) (hr : r < 13) (hd : d ≤ 20000) (hq : ∃ q, q ≤ nr ∧ M 67 0 r = nI q) (h1 : v 1 = M 65 0 r) (h2 : v 2 = M 66 0 r) (h3 : v 3 = M 67 0 r - 1) (h4 : v 4 = M 68 0 r) (h5 : v 5 = M 69 0 r) (h6 : v 6 = M 70 0 r) : ∃ M', fX12_ageOf (nI r) (v 0) (nI d) M = some (agv cd ls C v (nI d), M') ∧ ∀ k i, k ≠ 81 → k ≠ 82 → M' k i = M k i := by
  have run : ∀ y kd al, yk C (v 3) (nI d) = (y, kd, al) → ∃ M', fX12_ageOf_178 5000 (M 68 0 r) (M 12 0 27 - 1) (f9 M 81 (v 4) y (nI d - v 6) ((nI d - v 2) / 365) (v 5) (v 1) kd al (v 0)) = some (agv cd ls C v (nI d), M') ∧ ∀ k i, k ≠ 81 → k ≠ 82 → M' k i = M k i := by
    intro y kd al hy
    have e9 := f9_at (S := M) (k := 81) (v := v) (y := y) (kd := kd) (al := al) (d := nI d)
    have ek := fun k' (h : k' ≠ 81) => f9_k (S := M) (k := 81) (k' := k') (a0 := v 4) (a1 := y) (a2 := nI d - v 6) (a3 := (nI d - v 2) / 365) (a4 := v 5) (a5 := v 1) (a6 := kd) (a7 := al) (a8 := v 0) h
    generalize f9 M 81 (v 4) y (nI d - v 6) ((nI d - v 2) / 365) (v 5) (v 1) kd al (v 0) = M1 at e9 ek
    have hL1 : LwR' C M1 cd ls := hL.cg rfl rfl rfl rfl rfl (by rw [ek 12 (by omega)]) (by rw [ek 78 (by omega)]) (by rw [ek 79 (by omega)]) (by rw [ek 75 (by omega)]) (by rw [ek 76 (by omega)]) (by rw [ek 77 (by omega)])
    obtain ⟨M', f1, f2⟩ := agM_eq (C := C) ls.length 5000 M1 (M 68 0 r) hL1 (Nat.le_refl _) (by have := hL.2.1; omega) (by
      rw [List.drop_length]
      show _ = M1 81 0 0
      rw [e9 0 (by omega), ← h4]
      rfl)
    rw [agL_cg e9 ls hL.seg] at f1
    rw [hL.2.2.2.1, f1]
    refine ⟨M', ?_, fun k i g1 g2 => by rw [f2 k i g2, ek k g1]⟩
    unfold agv
    rw [hy]
  have lv : ∀ (T : Mem) i, T 60 = M 60 → T 61 = M 61 → fX12_doesLive (nI i) (nI d) T = fX12_doesLive (nI i) (nI d) M := by
    intro T i t1 t2
    unfold fX12_doesLive
    rw [t1, t2]
  unfold fX12_ageOf
  rw [ix_nI hr (by omega)]
  simp only [bindS]
  obtain ⟨q, q1, q2⟩ := hq
  cases q with
  | zero =>
    have e : M 67 0 r - 1 = -1 := by rw [q2]; decide
    rw [e, if_pos rfl]
    unfold fX12_ageOf_44 fX12_ageOf_125
    rw [show ix 1 9 = some 1 by decide, ix_nI hr (by omega), show ix 6 9 = some 6 by decide]
    simp only [bindS, if_pos]
    unfold fX12_ageOf_152
    rw [ageM_end hr]
    have h := run 0 9 0 (by rw [h3, e, yk_none])
    unfold f9 at h
    rw [h1, h2, h4, h5, h6] at h
    simp only [upk (show (12 : Nat) ≠ 81 by decide), upk (show (65 : Nat) ≠ 81 by decide), upk (show (66 : Nat) ≠ 81 by decide), upk (show (67 : Nat) ≠ 81 by decide), upk (show (68 : Nat) ≠ 81 by decide), upk (show (69 : Nat) ≠ 81 by decide), upk (show (70 : Nat) ≠ 81 by decide)]
    exact h
  | succ q =>
    have e : M 67 0 r - 1 = nI q := by rw [q2, nI_pred]
    have ey : ∀ T : Mem, T 60 = M 60 → T 62 = M 62 → fX12_yearsOf (nI q) (nI d) T = some (fX6_yearsOn q (nI d) C) := by
      intro T t1 t2
      rw [← (yrs_eq hRd hnr (show q < nr by omega) hd).1]
      unfold fX12_yearsOf fX12_yearsOf_26
      rw [t1, t2]
    have nm : ¬ nI q = -1 := nI_ne_m1 (by omega)
    rw [e, if_neg nm, ey _ (upk (by omega)) (upk (by omega))]
    simp only [bindS]
    unfold fX12_ageOf_44 fX12_ageOf_125
    rw [show ix 1 9 = some 1 by decide, ix_nI hr (by omega), show ix 6 9 = some 6 by decide, ix_nI (show q < 12 by omega) (by omega)]
    simp only [bindS, if_neg nm]
    rw [lv _ q (by simp only [upk (show (60 : Nat) ≠ 81 by decide)]) (by simp only [upk (show (61 : Nat) ≠ 81 by decide)]), lives_eq hRd hnr (show q < nr by omega)]
    simp only [bindS]
    have h := run (fX6_yearsOn q (nI d) C) (C 6 q 3) (if fX6_livesOn q (nI d) C = 0 then 0 else 1) (by rw [h3, e, yk_some (by omega)])
    unfold f9 at h
    rw [h1, h2, h4, h5, h6, show C 6 q 3 = M 63 0 q from (hRd q (by omega)).1.2.2.2.1] at h
    by_cases hl : fX6_livesOn q (nI d) C = 0
    · rw [if_pos hl] at h ⊢
      unfold fX12_ageOf_152
      rw [ageM_end hr]
      simp only [upk (show (12 : Nat) ≠ 81 by decide), upk (show (63 : Nat) ≠ 81 by decide), upk (show (65 : Nat) ≠ 81 by decide), upk (show (66 : Nat) ≠ 81 by decide), upk (show (67 : Nat) ≠ 81 by decide), upk (show (68 : Nat) ≠ 81 by decide), upk (show (69 : Nat) ≠ 81 by decide), upk (show (70 : Nat) ≠ 81 by decide)]
      exact h
    · rw [if_neg hl] at h ⊢
      rw [ageM_end hr]
      simp only [upk (show (12 : Nat) ≠ 81 by decide), upk (show (63 : Nat) ≠ 81 by decide), upk (show (65 : Nat) ≠ 81 by decide), upk (show (66 : Nat) ≠ 81 by decide), upk (show (67 : Nat) ≠ 81 by decide), upk (show (68 : Nat) ≠ 81 by decide), upk (show (69 : Nat) ≠ 81 by decide), upk (show (70 : Nat) ≠ 81 by decide)]
      exact h
