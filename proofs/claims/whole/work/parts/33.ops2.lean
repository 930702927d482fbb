theorem Rel.told {C M : Mem} (h : Rel C M) : Rel C (up M 12 0 0 0) := h.sc sc.rf sm.told
theorem Rel.nr {C M : Mem} (h : Rel C M) : ∃ nr, C 0 0 6 = nI nr ∧ M 12 0 3 = nI nr ∧ nr ≤ 12 ∧ RdR C M nr := by
  obtain ⟨nr, np, dy, nl, nc, ⟨hCt, hRd, hPp, hBk, hCm, hLw⟩, hU, hT, hW, hF, hK⟩ := h
  obtain ⟨⟨c6, m3, hnr⟩, ⟨c7, m10, hnp⟩, ⟨c8, m2, hdy⟩, ⟨c9, c10⟩, ⟨c11, m18, hnl⟩, c24, m45, hnc⟩ := hCt
  exact ⟨nr, c6, m3, hnr, hRd⟩
theorem lives_eq {C M : Mem} {nr i : Nat} (hRd : RdR C M nr) (hnr : nr ≤ 12) (hi : i < nr) (d : Int32) : fX12_doesLive (nI i) d M = some (fX6_livesOn i d C) := by
  obtain ⟨⟨a, b, -⟩, -⟩ := hRd i hi
  unfold fX12_doesLive fX6_livesOn
  rw [ix_nI (by omega) (by omega), a, b]
  show (if d < M 60 0 i then some (0 : Int32) else _) = _
  split
  · rfl
  · split
    · rfl
    · split <;> rfl
/-- one reader's field is told: the blocks behind it -/
theorem sim_setF {C M : Mem} (h : Rel C M) {j f k : Nat} {v : Int32} (hj : ∃ nr, C 0 0 6 = nI nr ∧ nr ≤ 12 ∧ j < nr) (hfk : (f = 1 ∧ k = 61) ∨ (f = 2 ∧ k = 62 ∧ (v = 0 ∨ v = 1)) ∨ (f = 4 ∧ k = 64 ∧ (0 ≤ v ∧ v ≤ 9999))) : Rel (up (up C 6 j f v) 10 0 3 0) (up (up M k 0 j v) 12 0 44 0) := by
  obtain ⟨nr', e1, e2, e3⟩ := hj
  obtain ⟨nr, np, dy, nl, nc, ⟨hCt, hRd, hPp, hBk, hCm, hLw⟩, hU, hT, hW, hF, hK⟩ := h
  obtain ⟨⟨c6, m3, hnr⟩, ⟨c7, m10, hnp⟩, ⟨c8, m2, hdy⟩, ⟨c9, c10⟩, ⟨c11, m18, hnl⟩, c24, m45, hnc⟩ := hCt
  have en : nr = nr' := (nI_eq (by omega) (by omega)).mp (c6.symm.trans e1)
  subst en
  obtain ⟨lt0, hlt0, hlt1⟩ : ∃ lt, lt < 10 ∧ C 10 0 2 = nI lt := by obtain ⟨_, lt, _, _, q1, _, _, q2, _⟩ := hU; exact ⟨lt, q1, q2⟩
  have hk : ¬ 12 = k := by omega
  have kk : ∀ q, (q < 60 ∨ 64 < q) → up (up M k 0 j v) 12 0 44 0 q = up M 12 0 44 0 q := by
    intro q hq
    funext a b
    simp only [up]
    rw [if_neg (c := q = k ∧ a = 0 ∧ b = j) (by omega)]
  refine ⟨nr, np, dy, nl, nc, ⟨?_, ?_, ?_, ?_, ?_, ?_⟩, ?_, ?_, ?_, ?_, ?_⟩
  · simp [CtR, hk, up, c9, c6, m3, hnr, c7, m10, hnp, c8, m2, hdy, c10, c11, m18, hnl, c24, m45, hnc]
  · intro i hi
    have hi' := hRd i hi
    rcases hfk with ⟨rfl, rfl⟩ | ⟨rfl, rfl, hv⟩ | ⟨rfl, rfl, hv⟩ <;> by_cases e : i = j
    · subst e; simp_all [up]
    · simpa [up, e] using hi'
    · subst e; simp_all [up]
    · simpa [up, e] using hi'
    · subst e; simp_all [up]
    · simpa [up, e] using hi'
  · exact hPp.cg hnp (fun i hi => by simp [upk]) (fun i hi => by simp [kk, upk])
  · exact hBk.cg (by simp [upk]) (by simp [kk, upk])
  · exact hCm.cg (by simp [upk]) (by simp [upk]) (by simp [upk]) (by simp [upk]) (by simp [kk, upk]) (by simp [kk, upk]) (by simp [kk, upk]) (by simp [kk, upk])
  · exact hLw.cg (by simp [up]) (by simp [upk]) (by simp [upk]) (by simp [upk]) (by simp [upk]) (by simp [hk, up]) (by simp [kk, upk]) (by simp [kk, upk]) (by simp [kk, upk]) (by simp [kk, upk]) (by simp [kk, upk])
  · exact Und.zero (by simp [up]) (by simp [up]) lt0 hlt0 (by simp [up]; exact hlt1)
  · exact hT.cg (by simp [up]) (by simp [upk]) (by simp [hk, up]) (by simp [kk, upk])
  · exact hW.cg (by simp [kk, upk])
  · unfold Flt; simp [hk, up]; exact hF
  · refine hK.cg (by simp [up]) (by simp [hk, up]) (by simp [kk, upk]) (fun k i q1 q2 q3 => ?_)
    funext b
    simp only [up]
    repeat (rw [if_neg (by omega)])
theorem sim_set {C M : Mem} (h : Rel C M) (p0 p1 p2 : Int32) : ∃ r C' M', fX11_set p0 p1 p2 C = some (r, C') ∧ fX12_set p0 p1 p2 M = some (r, M') ∧ Rel C' M' := by
  have h0 := h.told
  unfold fX11_set fX12_set
  generalize up M 12 0 0 0 = M0 at h0 ⊢
  obtain ⟨nr, c6, m3, hnr, hRd⟩ := h0.nr
  obtain ⟨dy, c8, m2⟩ : ∃ dy, C 0 0 8 = nI dy ∧ M0 12 0 2 = nI dy := by
    obtain ⟨_, _, dy, _, _, ⟨⟨_, _, ⟨q1, q2, _⟩, _⟩, _⟩, _⟩ := h0
    exact ⟨dy, q1, q2⟩
  rcases readerAt_spec (x := p0) c6 hnr with ⟨e, ho⟩ | ⟨j, hj, rfl, e⟩
  · rw [e, isReader_out m3 ho, if_pos rfl]
    exact ⟨_, _, _, rfl, rfl, h0⟩
  · rw [e, isReader_in m3 hnr hj, if_neg (by decide), isIn_eq, m2, c8]
    have hx : ix (nI j) 12 = some j := ix_nI (by omega) (by omega)
    have ex : ∃ nr, C 0 0 6 = nI nr ∧ nr ≤ 12 ∧ j < nr := ⟨nr, c6, hnr, hj⟩
    show ∃ r C' M', (if (fX6_tell j p1 p2 (nI dy) C).1 = 0 then some ((fX6_tell j p1 p2 (nI dy) C).1, (fX6_tell j p1 p2 (nI dy) C).2) else some ((fX6_tell j p1 p2 (nI dy) C).1, fX10_forget (fX6_tell j p1 p2 (nI dy) C).2)) = some (r, C') ∧ _
    have t0 : ∀ (z : Int32 × Mem), fX6_tell j p1 p2 (nI dy) C = z → (if (fX6_tell j p1 p2 (nI dy) C).1 = 0 then some ((fX6_tell j p1 p2 (nI dy) C).1, (fX6_tell j p1 p2 (nI dy) C).2) else some ((fX6_tell j p1 p2 (nI dy) C).1, fX10_forget (fX6_tell j p1 p2 (nI dy) C).2)) = if z.1 = 0 then some (z.1, z.2) else some (z.1, fX10_forget z.2) := by
      intro z hz; rw [hz]
    by_cases a0 : p1 = 0
    · subst a0
      have w0 : ¬ fX11_within 0 0 2 = 0 := by decide
      rw [if_neg w0, if_pos rfl]
      have e51 : fX12_set_51 (nI j) 0 p2 M0 = some (1, up (up M0 61 0 j p2) 12 0 44 0) := by
        unfold fX12_set_51 fX12_set_78 fX12_set_89 fX12_set_101
        rw [if_pos (by decide), if_pos rfl, hx]
        rfl
      by_cases a1 : p2 = -1
      · rw [t0 (1, up C 6 j 1 p2) (by unfold fX6_tell; rw [if_pos rfl, if_pos a1]), if_pos a1, e51]
        exact ⟨_, _, _, rfl, rfl, sim_setF h0 ex (Or.inl ⟨rfl, rfl⟩)⟩
      · rw [if_neg a1]
        by_cases a2 : fX11_within p2 (nI dy) 9999 = 0
        · rw [t0 (0, C) (by unfold fX6_tell fX6_tell_27 fX6_tell_48; rw [if_pos rfl, if_neg a1, if_pos a2]; rfl), if_pos a2]
          exact ⟨_, _, _, rfl, rfl, h0⟩
        · rw [t0 (1, up C 6 j 1 p2) (by unfold fX6_tell; rw [if_pos rfl, if_neg a1, if_neg a2]), if_neg a2, e51]
          exact ⟨_, _, _, rfl, rfl, sim_setF h0 ex (Or.inl ⟨rfl, rfl⟩)⟩
    · rw [if_neg a0]
      by_cases a1 : p1 = 1
      · subst a1
        have w0 : ¬ fX11_within 1 0 2 = 0 := by decide
        rw [if_neg w0]
        have e51 : fX12_set_51 (nI j) 1 p2 M0 = if fX11_within p2 0 1 = 0 then some (0, M0) else some (1, up (up M0 62 0 j p2) 12 0 44 0) := by
          unfold fX12_set_51 fX12_set_70 fX12_set_78 fX12_set_89 fX12_set_101
          rw [if_neg (by decide), if_pos rfl, isIn_eq]
          by_cases q : fX11_within p2 0 1 = 0
          · rw [if_pos q, if_pos q]
          · rw [if_neg q, if_neg q, if_neg (by decide), if_pos rfl, hx]
            rfl
        rw [e51]
        by_cases a2 : fX11_within p2 0 1 = 0
        · rw [t0 (0, C) (by unfold fX6_tell fX6_tell_27 fX6_tell_48; rw [if_neg (by decide), if_pos rfl, if_pos a2]; rfl), if_pos a2]
          exact ⟨_, _, _, rfl, rfl, h0⟩
        · rw [t0 (1, up C 6 j 2 p2) (by unfold fX6_tell fX6_tell_27; rw [if_neg (by decide), if_pos rfl, if_neg a2]), if_neg a2]
          exact ⟨_, _, _, rfl, rfl, sim_setF h0 ex (Or.inr (Or.inl ⟨rfl, rfl, zero_one (within_ne a2)⟩))⟩
      · by_cases a2 : p1 = 2
        · subst a2
          have w0 : ¬ fX11_within 2 0 2 = 0 := by decide
          rw [if_neg w0]
          have e51 : fX12_set_51 (nI j) 2 p2 M0 = if fX11_within p2 0 9999 = 0 then some (0, M0) else some (1, up (up M0 64 0 j p2) 12 0 44 0) := by
            unfold fX12_set_51 fX12_set_70 fX12_set_78 fX12_set_89 fX12_set_101
            rw [if_neg (by decide), if_neg (by decide), isIn_eq]
            by_cases q : fX11_within p2 0 9999 = 0
            · rw [if_pos q, if_pos q]
            · rw [if_neg q, if_neg q, if_neg (by decide), if_neg (by decide), if_pos rfl, hx]
              rfl
          rw [e51]
          by_cases a3 : fX11_within p2 0 9999 = 0
          · rw [t0 (0, C) (by unfold fX6_tell fX6_tell_27 fX6_tell_48; rw [if_neg (by decide), if_neg (by decide), if_pos rfl, if_pos a3]), if_pos a3]
            exact ⟨_, _, _, rfl, rfl, h0⟩
          · rw [t0 (1, up C 6 j 4 p2) (by unfold fX6_tell fX6_tell_27 fX6_tell_48; rw [if_neg (by decide), if_neg (by decide), if_pos rfl, if_neg a3]), if_neg a3]
            exact ⟨_, _, _, rfl, rfl, sim_setF h0 ex (Or.inr (Or.inr ⟨rfl, rfl, within_ne a3⟩))⟩
        · have w0 : fX11_within p1 0 2 = 0 := by
            rcases Decidable.em (fX11_within p1 0 2 = 0) with q | q
            · exact q
            · exfalso
              obtain ⟨b1, b2⟩ := within_ne q
              obtain ⟨n, hn, rfl⟩ := nI_of2 (M := 2) (n := 2) (by decide) (Int32.not_lt.mpr b1) b2
              rcases (show n = 0 ∨ n = 1 ∨ n = 2 by omega) with rfl | rfl | rfl
              · exact a0 rfl
              · exact a1 rfl
              · exact a2 rfl
          rw [if_pos w0, t0 (0, C) (by unfold fX6_tell fX6_tell_27 fX6_tell_48; rw [if_neg a0, if_neg a1, if_neg a2])]
          exact ⟨_, _, _, rfl, rfl, h0⟩
