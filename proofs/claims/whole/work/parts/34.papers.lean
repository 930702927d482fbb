/-! ===== PURE: calls that change papers and forget what can be undone ===== -/
theorem Rel.pp {C M C' M' : Mem} (h : Rel C M) (hC : ∀ k i, k ≠ 5 → k ≠ 10 → k ≠ 0 → C' k i = C k i) (h0 : ∀ j, j ≠ 7 → C' 0 0 j = C 0 0 j) (h01 : C' 0 1 = C 0 1) (h5 : ∀ i, 12 ≤ i → C' 5 i = C 5 i) (h103 : C' 10 0 3 = 0) (h102 : C' 10 0 2 = C 10 0 2)
    (hM : ∀ k i, k ≠ 12 → ¬ (65 ≤ k ∧ k ≤ 71) → M' k i = M k i) (hm : ∀ j, j ≠ 0 → j ≠ 10 → j ≠ 44 → M' 12 0 j = M 12 0 j) (hm44 : M' 12 0 44 = 0)
    (H : ∀ nr np dy, (C 0 0 6 = nI nr ∧ M 12 0 3 = nI nr ∧ nr ≤ 12) → (C 0 0 7 = nI np ∧ M 12 0 10 = nI np ∧ np ≤ 12) → (C 0 0 8 = nI dy ∧ M 12 0 2 = nI dy ∧ dy ≤ 9999) → PpR C M nr np dy → RdR C M nr → ∃ np', np ≤ np' ∧ np' ≤ 12 ∧ C' 0 0 7 = nI np' ∧ M' 12 0 10 = nI np' ∧ PpR C' M' nr np' dy) : Rel C' M' := by
  obtain ⟨nr, np, dy, nl, nc, ⟨hCt, hRd, hPp, hBk, hCm, hLw⟩, hU, hT, hW, hF, hK⟩ := h
  obtain ⟨⟨c6, m3, hnr⟩, ⟨c7, m10, hnp⟩, ⟨c8, m2, hdy⟩, ⟨c9, c10⟩, ⟨c11, m18, hnl⟩, c24, m45, hnc⟩ := hCt
  obtain ⟨lt0, hlt0, hlt1⟩ : ∃ lt, lt < 10 ∧ C 10 0 2 = nI lt := by obtain ⟨_, lt, _, _, q1, _, _, q2, _⟩ := hU; exact ⟨lt, q1, q2⟩
  obtain ⟨np', g1, g2, g3, g4, g5⟩ := H nr np dy ⟨c6, m3, hnr⟩ ⟨c7, m10, hnp⟩ ⟨c8, m2, hdy⟩ hPp hRd
  refine ⟨nr, np', dy, nl, nc, ⟨?_, ?_, g5, ?_, ?_, ?_⟩, ?_, ?_, ?_, ?_, ?_⟩
  · refine ⟨⟨?_, ?_, hnr⟩, ⟨g3, g4, g2⟩, ⟨?_, ?_, hdy⟩, ⟨?_, ?_⟩, ⟨?_, ?_, hnl⟩, ?_, ?_, hnc⟩
    · rw [h0 6 (by omega), c6]
    · rw [hm 3 (by omega) (by omega) (by omega), m3]
    · rw [h0 8 (by omega), c8]
    · rw [hm 2 (by omega) (by omega) (by omega), m2]
    · rw [h0 9 (by omega), hm 1 (by omega) (by omega) (by omega), c9]
    · rw [h0 10 (by omega), hm 9 (by omega) (by omega) (by omega), c10]
    · rw [hC 1 0 (by omega) (by omega) (by omega), c11]
    · rw [hm 18 (by omega) (by omega) (by omega), m18]
    · rw [hC 2 0 (by omega) (by omega) (by omega), c24]
    · rw [hm 45 (by omega) (by omega) (by omega), m45]
  · exact hRd.cg (fun i _ => hC 6 i (by omega) (by omega) (by omega)) hnr (funext fun i => hM 60 i (by omega) (by omega)) (funext fun i => hM 61 i (by omega) (by omega)) (funext fun i => hM 62 i (by omega) (by omega)) (funext fun i => hM 63 i (by omega) (by omega)) (funext fun i => hM 64 i (by omega) (by omega))
  · exact hBk.cg (hC 16 0 (by omega) (by omega) (by omega)) (hM 72 0 (by omega) (by omega))
  · exact (hCm.cg (hC 17 0 (by omega) (by omega) (by omega)) (hC 18 0 (by omega) (by omega) (by omega)) (hC 19 0 (by omega) (by omega) (by omega)) (hC 20 0 (by omega) (by omega) (by omega)) (hM 84 0 (by omega) (by omega)) (hM 85 0 (by omega) (by omega)) (hM 86 0 (by omega) (by omega)) (hM 87 0 (by omega) (by omega))).mono g1
  · exact hLw.cg (by rw [hC 3 0 (by omega) (by omega) (by omega)]) (hC 21 0 (by omega) (by omega) (by omega)) (hC 22 0 (by omega) (by omega) (by omega)) (hC 23 0 (by omega) (by omega) (by omega)) (hC 24 0 (by omega) (by omega) (by omega)) (hm 27 (by omega) (by omega) (by omega)) (hM 78 0 (by omega) (by omega)) (hM 79 0 (by omega) (by omega)) (hM 75 0 (by omega) (by omega)) (hM 76 0 (by omega) (by omega)) (hM 77 0 (by omega) (by omega))
  · exact Und.zero h103 hm44 lt0 hlt0 (by rw [h102]; exact hlt1)
  · exact hT.cg (by rw [hC 7 0 (by omega) (by omega) (by omega)]) (hC 27 0 (by omega) (by omega) (by omega)) (hm 21 (by omega) (by omega) (by omega)) (hM 73 0 (by omega) (by omega))
  · exact hW.cg (hM 74 0 (by omega) (by omega))
  · unfold Flt
    rw [hC 4 0 (by omega) (by omega) (by omega), hm 39 (by omega) (by omega) (by omega), hm 40 (by omega) (by omega) (by omega)]
    exact hF
  · refine hK.cg (by rw [hC 11 0 (by omega) (by omega) (by omega)]) (hm 52 (by omega) (by omega) (by omega)) (hM 89 0 (by omega) (by omega)) (fun k i q1 q2 q3 => ?_)
    by_cases k0 : k = 0
    · subst k0; rw [q3 (by omega) (by omega)]; exact h01
    · by_cases k5 : k = 5
      · subst k5; exact h5 i (by omega)
      · exact hC k i k5 (by omega) k0
theorem upf {S : Mem} {k i j k' i' : Nat} {x : Int32} (h : ¬ (k' = k ∧ i' = i)) : up S k i j x k' i' = S k' i' := by
  funext j'
  unfold up
  rw [if_neg (fun q => h ⟨q.1, q.2.1⟩)]
theorem sim_paper {C M : Mem} (h : Rel C M) (p0 : Int32) : ∃ r C' M', fX11_paper p0 C = some (r, C') ∧ fX12_paper p0 M = some (r, M') ∧ Rel C' M' := by
  have h0 := h.told
  unfold fX11_paper fX12_paper
  generalize up M 12 0 0 0 = M0 at h0 ⊢
  rw [isShelf_eq]
  by_cases a1 : fX11_isShelf p0 = 0
  · rw [if_pos a1, if_pos a1]; exact ⟨_, _, _, rfl, rfl, h0⟩
  rw [if_neg a1, if_neg a1]
  obtain ⟨np, c7, m10, hnp⟩ : ∃ np, C 0 0 7 = nI np ∧ M0 12 0 10 = nI np ∧ np ≤ 12 := by
    obtain ⟨_, np, _, _, _, ⟨⟨_, q, _⟩, _⟩, _⟩ := h0
    exact ⟨np, q⟩
  by_cases hn : np = 12
  · subst hn
    refine ⟨-1, C, M0, ?_, ?_, h0⟩
    · rw [c7]; rfl
    · rw [m10]; rfl
  · have hx : ix (nI np) 12 = some np := ix_nI (by omega) (by omega)
    have hx3 : ix (nI np) 13 = some np := ix_nI (by omega) (by omega)
    have n12 : ¬ nI np = 12 := fun e => hn ((nI_eq (by omega) (by omega)).mp e)
    have q : C 0 0 7 < 12 := by rw [c7]; exact nI_lt (b := 12) (by omega) (by omega)
    refine ⟨nI np, up (fX5_become np (nI np) p0 (C 0 0 8) (fX10_forget C)) 0 0 7 (nI np + 1), up (up (up (up (up (up (up (up (up M0 65 0 np p0) 66 0 np (M0 12 0 2)) 67 0 np 0) 68 0 np 0) 69 0 np 0) 70 0 np (M0 12 0 2)) 71 0 np (-1)) 12 0 10 (nI np + 1)) 12 0 44 0, ?_, ?_, h0.pp (fun k i a b c => ?_) (fun j a => ?_) ?_ (fun i a => ?_) ?_ ?_ (fun k i a b => ?_) (fun j a b c => ?_) ?_ ?_⟩
    · rw [if_pos q]
      simp [fX10_forget, up, c7, hx]
    · unfold fX12_isUnread
      simp [up, m10, n12, hx, hx3, nI_ps]
    · simp only [fX5_become, fX5_becomeUnread, fX10_forget]
      repeat (rw [upf (by omega)])
    · simp [fX5_become, fX5_becomeUnread, fX10_forget, up, a]
    · simp only [fX5_become, fX5_becomeUnread, fX10_forget]
      repeat (rw [upf (by omega)])
    · simp only [fX5_become, fX5_becomeUnread, fX10_forget]
      repeat (rw [upf (by omega)])
    · simp [fX5_become, fX5_becomeUnread, fX10_forget, up]
    · simp [fX5_become, fX5_becomeUnread, fX10_forget, up]
    · repeat (rw [upf (by omega)])
    · simp [up, b, c]
    · simp [up]
    · intro nr np1 dy ⟨g1, g1', g2⟩ ⟨g3, g4, g5⟩ ⟨g6, g7, g8⟩ hPp hRd
      have en : np1 = np := (nI_eq (by omega) (by omega)).mp (g3.symm.trans c7)
      subst en
      refine ⟨np1 + 1, by omega, by omega, by simp [up, nI_1], by simp [up, nI_1], ?_⟩
      intro i hi
      by_cases e : i = np1
      · subst e
        refine ⟨?_, ⟨by simpa [up] using a1, dy, by omega, by simp [up, g7]⟩, ⟨0, by omega, by simp [up, nI_0]⟩, Or.inl (by simp [up])⟩
        simp [fX5_become, fX5_becomeUnread, fX10_forget, up, g6, g7]
      · have := hPp i (by omega)
        simpa [fX5_become, fX5_becomeUnread, fX10_forget, up, e] using this
theorem Rel.np {C M : Mem} (h : Rel C M) : ∃ np, C 0 0 7 = nI np ∧ M 12 0 10 = nI np ∧ np ≤ 12 := by
  obtain ⟨_, np, _, _, _, ⟨⟨_, q, _⟩, _⟩, _⟩ := h
  exact ⟨np, q⟩
theorem Rel.dy {C M : Mem} (h : Rel C M) : ∃ dy, C 0 0 8 = nI dy ∧ M 12 0 2 = nI dy ∧ dy ≤ 9999 := by
  obtain ⟨_, _, dy, _, _, ⟨⟨_, _, q, _⟩, _⟩, _⟩ := h
  exact ⟨dy, q⟩
/-- one paper's shelf or lease is told -/
theorem sim_ppF {C M : Mem} (h : Rel C M) {p f k np : Nat} {v : Int32} (hc : C 0 0 7 = nI np) (hnp : np ≤ 12) (hp : p < np) (hfk : (f = 1 ∧ k = 65 ∧ ¬ fX11_isShelf v = 0) ∨ (f = 7 ∧ k = 71 ∧ ∀ nr, C 0 0 6 = nI nr → nr ≤ 12 → v = -1 ∨ ∃ q, q < nr ∧ v = nI q)) : Rel (up (up C 10 0 3 0) 5 p f v) (up (up M k 0 p v) 12 0 44 0) := by
  have hk : ¬ 12 = k := by omega
  refine h.pp (fun k' i a b c => ?_) (fun j a => ?_) ?_ (fun i a => ?_) ?_ ?_ (fun k' i a b => ?_) (fun j a b c => ?_) ?_ ?_
  · repeat (rw [upf (by omega)])
  · repeat (rw [upf (by omega)])
  · repeat (rw [upf (by omega)])
  · repeat (rw [upf (by omega)])
  · simp [up]
  · simp [up]
  · repeat (rw [upf (by omega)])
  · simp [up, c, hk]
  · simp [up]
  · intro nr np1 dy ⟨g1, g1', g2⟩ ⟨g3, g4, g5⟩ ⟨g6, g7, g8⟩ hPp hRd
    refine ⟨np1, by omega, g5, by simp [up, g3], by simp [up, g4, hk], ?_⟩
    intro i hi
    have hi' := hPp i hi
    rcases hfk with ⟨rfl, rfl, hs⟩ | ⟨rfl, rfl, hv⟩ <;> by_cases e : i = p
    · subst e; simp_all [up]
    · simpa [up, e] using hi'
    · subst e
      have := hv nr g1 g2
      simp_all [up]
    · simpa [up, e] using hi'
theorem sim_move {C M : Mem} (h : Rel C M) (p0 p1 : Int32) : ∃ r C' M', fX11_move p0 p1 C = some (r, C') ∧ fX12_move p0 p1 M = some (r, M') ∧ Rel C' M' := by
  have h0 := h.told
  unfold fX11_move fX12_move
  generalize up M 12 0 0 0 = M0 at h0 ⊢
  rw [isShelf_eq]
  obtain ⟨np, c7, m10, hnp⟩ := h0.np
  rcases paperAt_spec (x := p0) c7 hnp with ⟨e, ho⟩ | ⟨j, hj, rfl, e⟩
  · rw [e, isPaper_out m10 ho, if_pos rfl]
    exact ⟨_, _, _, rfl, rfl, h0⟩
  · rw [e, isPaper_in m10 hnp hj, if_neg (by decide)]
    show ∃ r C' M', (if fX11_isShelf p1 = 0 then some ((0 : Int32), C) else some (1, up (fX10_forget C) 5 j 1 p1)) = some (r, C') ∧ _
    by_cases a1 : fX11_isShelf p1 = 0
    · rw [if_pos a1, if_pos a1]; exact ⟨_, _, _, rfl, rfl, h0⟩
    · rw [if_neg a1, if_neg a1, ix_nI (by omega) (by omega)]
      exact ⟨_, _, _, rfl, rfl, sim_ppF h0 c7 hnp hj (Or.inl ⟨rfl, rfl, a1⟩)⟩
theorem sim_lease {C M : Mem} (h : Rel C M) (p0 p1 : Int32) : ∃ r C' M', fX11_lease p0 p1 C = some (r, C') ∧ fX12_lease p0 p1 M = some (r, M') ∧ Rel C' M' := by
  have h0 := h.told
  unfold fX11_lease fX12_lease
  generalize up M 12 0 0 0 = M0 at h0 ⊢
  obtain ⟨np, c7, m10, hnp⟩ := h0.np
  obtain ⟨nr, c6, m3, hnr, hRd⟩ := h0.nr
  obtain ⟨dy, c8, m2, hdy⟩ := h0.dy
  rcases paperAt_spec (x := p0) c7 hnp with ⟨e, ho⟩ | ⟨j, hj, rfl, e⟩
  · rw [e, isPaper_out m10 ho, if_pos rfl]
    rcases readerAt_spec (x := p1) c6 hnr with ⟨e2, ho2⟩ | ⟨i, hi, rfl, e2⟩
    · show ∃ r C' M', ((fX0_readerAt p1 C).bind fun r5 => mt r5 (if p1 = -1 then fX11_lease_44 p1 C else fX11_lease_48 p1 C) fun i6 => if p1 = -1 then fX11_lease_44 p1 C else if fX6_livesOn i6 (C 0 0 8) C = 0 then fX11_lease_48 p1 C else fX11_lease_44 p1 C) = some (r, C') ∧ _
      rw [e2]
      refine ⟨0, C, M0, ?_, rfl, h0⟩
      show (if p1 = -1 then fX11_lease_44 p1 C else fX11_lease_48 p1 C) = _
      split <;> rfl
    · show ∃ r C' M', ((fX0_readerAt (nI i) C).bind fun r5 => mt r5 (if nI i = -1 then fX11_lease_44 (nI i) C else fX11_lease_48 (nI i) C) fun i6 => if nI i = -1 then fX11_lease_44 (nI i) C else if fX6_livesOn i6 (C 0 0 8) C = 0 then fX11_lease_48 (nI i) C else fX11_lease_44 (nI i) C) = some (r, C') ∧ _
      rw [e2]
      refine ⟨0, C, M0, ?_, rfl, h0⟩
      show (if nI i = -1 then fX11_lease_44 (nI i) C else if fX6_livesOn i (C 0 0 8) C = 0 then fX11_lease_48 (nI i) C else fX11_lease_44 (nI i) C) = _
      split
      · rfl
      · split <;> rfl
  · rw [e, isPaper_in m10 hnp hj, if_neg (show ¬ (1 : Int32) = 0 by decide)]
    have hx : ix (nI j) 12 = some j := ix_nI (by omega) (by omega)
    have el : fX12_lease_40 (nI j) p1 M0 = some (1, up (up M0 71 0 j p1) 12 0 44 0) := by
      unfold fX12_lease_40
      rw [hx]
      rfl
    rcases readerAt_spec (x := p1) c6 hnr with ⟨e2, ho2⟩ | ⟨i, hi, rfl, e2⟩
    · show ∃ r C' M', ((fX0_readerAt p1 C).bind fun r5 => mt r5 (if p1 = -1 then fX11_lease_44v1 p1 j C else fX11_lease_48v1 p1 j C) fun i6 => if p1 = -1 then fX11_lease_44v1 p1 j C else if fX6_livesOn i6 (C 0 0 8) C = 0 then fX11_lease_48v1 p1 j C else fX11_lease_44v1 p1 j C) = some (r, C') ∧ _
      rw [e2, isReader_out m3 ho2, el]
      show ∃ r C' M', (if p1 = -1 then fX11_lease_44v1 p1 j C else fX11_lease_48v1 p1 j C) = some (r, C') ∧ _
      by_cases a : p1 = -1
      · rw [if_pos a, if_pos a]
        exact ⟨_, _, _, rfl, rfl, sim_ppF h0 c7 hnp hj (Or.inr ⟨rfl, rfl, fun _ _ _ => Or.inl a⟩)⟩
      · rw [if_neg a, if_neg a]
        exact ⟨_, _, _, rfl, rfl, h0⟩
    · show ∃ r C' M', ((fX0_readerAt (nI i) C).bind fun r5 => mt r5 (if nI i = -1 then fX11_lease_44v1 (nI i) j C else fX11_lease_48v1 (nI i) j C) fun i6 => if nI i = -1 then fX11_lease_44v1 (nI i) j C else if fX6_livesOn i6 (C 0 0 8) C = 0 then fX11_lease_48v1 (nI i) j C else fX11_lease_44v1 (nI i) j C) = some (r, C') ∧ _
      rw [e2, isReader_in m3 hnr hi, el, m2, lives_eq hRd hnr hi]
      have ne : ¬ nI i = -1 := fun e => by
        have := nI_toInt (n := i) (by omega)
        rw [e] at this
        have h1 : (-1 : Int32).toInt = -1 := by decide
        omega
      show ∃ r C' M', (if nI i = -1 then fX11_lease_44v1 (nI i) j C else if fX6_livesOn i (C 0 0 8) C = 0 then fX11_lease_48v1 (nI i) j C else fX11_lease_44v1 (nI i) j C) = some (r, C') ∧ (if nI i = -1 then some ((1 : Int32), up (up M0 71 0 j (nI i)) 12 0 44 0) else if (1 : Int32) = 0 then some (0, M0) else if fX6_livesOn i (nI dy) C = 0 then some (0, M0) else some (1, up (up M0 71 0 j (nI i)) 12 0 44 0)) = some (r, M') ∧ _
      rw [if_neg ne, if_neg ne, if_neg (show ¬ (1 : Int32) = 0 by decide), c8]
      by_cases a : fX6_livesOn i (nI dy) C = 0
      · rw [if_pos a, if_pos a]
        exact ⟨_, _, _, rfl, rfl, h0⟩
      · rw [if_neg a, if_neg a]
        exact ⟨_, _, _, rfl, rfl, sim_ppF h0 c7 hnp hj (Or.inr ⟨rfl, rfl, fun nr' q1 q2 => Or.inr ⟨i, by have : nr' = nr := (nI_eq (by omega) (by omega)).mp (q1.symm.trans c6); omega, rfl⟩⟩)⟩
