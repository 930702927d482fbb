/-! ===== PURE: the simple calls ===== -/
theorem sim_state {C M : Mem} (h : Rel C M) (v : Int32) : (fX11_state v C).1 = (fX12_state v M).1 ∧ Rel (fX11_state v C).2 (fX12_state v M).2 := by
  obtain ⟨nr, np, dy, nl, nc, ⟨hCt, hRd, hPp, hBk, hCm, hLw⟩, hU, hT, hW, hF, hK⟩ := h
  obtain ⟨⟨c6, m3, hnr⟩, ⟨c7, m10, hnp⟩, ⟨c8, m2, hdy⟩, ⟨c9, c10⟩, ⟨c11, m18, hnl⟩, c24, m45, hnc⟩ := hCt
  refine ⟨?_, nr, np, dy, nl, nc, ⟨?_, ?_, ?_, ?_, ?_, ?_⟩, ?_, ?_, ?_, ?_, ?_⟩ <;> simp only [fX11_state, fX12_state]
  · simp [up, c9]
  · simp [CtR, up, c6, m3, hnr, c7, m10, hnp, c8, m2, hdy, c10, c11, m18, hnl, c24, m45, hnc]
  · exact (hRd.cg (fun i hi => by simp [upk]) hnr (by simp [upk]) (by simp [upk]) (by simp [upk]) (by simp [upk]) (by simp [upk]))
  · exact (hPp.cg hnp (fun i hi => by simp [upk]) (fun i hi => by simp [upk]))
  · exact (hBk.cg (by simp [upk]) (by simp [upk]))
  · exact (hCm.cg (by simp [upk]) (by simp [upk]) (by simp [upk]) (by simp [upk]) (by simp [upk]) (by simp [upk]) (by simp [upk]) (by simp [upk]))
  · exact (hLw.cg (by simp [up]) (by simp [upk]) (by simp [upk]) (by simp [upk]) (by simp [upk]) (by simp [up]) (by simp [upk]) (by simp [upk]) (by simp [upk]) (by simp [upk]) (by simp [upk]))
  · exact hU.cg (by omega) (by omega) hnp (by simp [upk]) (fun i hi => by simp [upk]) (by simp [upk]) (by simp [up]) (by simp [upk])
  · exact (hT.cg (by simp [up]) (by simp [upk]) (by simp [up]) (by simp [upk]))
  · exact (hW.cg (by simp [upk]))
  · exact (by unfold Flt; simp [up]; exact hF)
  · exact (hK.cg (by simp [up]) (by simp [up]) (by simp [upk]) (fun k i q1 q2 q3 => by funext j; simp only [up]; repeat (rw [if_neg (by omega)])))
theorem within_ne {x a b : Int32} (h : ¬ fX11_within x a b = 0) : a ≤ x ∧ x ≤ b := by
  unfold fX11_within at h
  by_cases h1 : x < a
  · rw [if_pos h1] at h; exact absurd rfl h
  · rw [if_neg h1] at h
    by_cases h2 : b < x
    · rw [if_pos h2] at h; exact absurd rfl h
    · exact ⟨Int32.not_lt.mp h1, Int32.not_lt.mp h2⟩
theorem zero_one {x : Int32} (h : 0 ≤ x ∧ x ≤ 1) : x = 0 ∨ x = 1 := by
  obtain ⟨j, hj, rfl⟩ := nI_of2 (M := 1) (n := 1) (by decide) (Int32.not_lt.mpr h.1) h.2
  rcases (show j = 0 ∨ j = 1 by omega) with rfl | rfl
  · exact Or.inl rfl
  · exact Or.inr rfl
theorem PpR.mono {C M : Mem} {nr nr' np dy dy' : Nat} (h : PpR C M nr np dy) (hr : nr ≤ nr') (hd : dy ≤ dy') : PpR C M nr' np dy' := by
  intro i hi
  obtain ⟨a, ⟨b, w, w1, w2⟩, ⟨q, c1, c2⟩, d⟩ := h i hi
  exact ⟨a, ⟨b, w, by omega, w2⟩, ⟨q, by omega, c2⟩, d.imp id (fun ⟨q, e1, e2⟩ => ⟨q, by omega, e2⟩)⟩
theorem BkR.mono {C M : Mem} {nr nr' nl : Nat} (h : BkR C M nr nl) (hr : nr ≤ nr') : BkR C M nr' nl := by
  intro i hi
  obtain ⟨a, ⟨q, b1, b2⟩, c, d⟩ := h i hi
  exact ⟨a, ⟨q, by omega, b2⟩, c, d⟩
theorem CmR.mono {C M : Mem} {np np' nc : Nat} (h : CmR C M np nc) (hr : np ≤ np') : CmR C M np' nc := by
  intro i hi
  obtain ⟨a, ⟨q, b1, b2⟩, c⟩ := h i hi
  exact ⟨a, ⟨q, by omega, b2⟩, c⟩
theorem nI_ps (n : Nat) : nI n + 1 - 1 = nI n := by rw [nI_1, nI_pred]
theorem sim_reader {C M : Mem} (h : Rel C M) (p0 p1 p2 p3 : Int32) : ∃ r C' M', fX11_reader p0 p1 p2 p3 C = some (r, C') ∧ fX12_reader p0 p1 p2 p3 M = some (r, M') ∧ Rel C' M' := by
  unfold fX11_reader fX12_reader
  rw [isIn_eq]
  by_cases a1 : fX11_within p0 (-36500) 9999 = 0
  · rw [if_pos a1, if_pos a1]; exact ⟨_, _, _, rfl, rfl, h.sc sc.rf sm.told⟩
  rw [if_neg a1, if_neg a1]
  by_cases a2 : fX11_within p1 (-1) 9999 = 0
  · rw [if_pos a2, if_pos a2]; exact ⟨_, _, _, rfl, rfl, h.sc sc.rf sm.told⟩
  rw [if_neg a2, if_neg a2]
  by_cases a3 : fX11_within p2 0 1 = 0
  · rw [if_pos a3, if_pos a3]; exact ⟨_, _, _, rfl, rfl, h.sc sc.rf sm.told⟩
  rw [if_neg a3, if_neg a3]
  by_cases a4 : fX11_within p3 0 3 = 0
  · rw [if_pos a4, if_pos a4]; exact ⟨_, _, _, rfl, rfl, h.sc sc.rf sm.told⟩
  rw [if_neg a4, if_neg a4]
  have h' := h
  obtain ⟨nr, np, dy, nl, nc, ⟨hCt, hRd, hPp, hBk, hCm, hLw⟩, hU, hT, hW, hF, hK⟩ := h
  obtain ⟨⟨c6, m3, hnr⟩, ⟨c7, m10, hnp⟩, ⟨c8, m2, hdy⟩, ⟨c9, c10⟩, ⟨c11, m18, hnl⟩, c24, m45, hnc⟩ := hCt
  obtain ⟨lt0, hlt0, hlt1⟩ : ∃ lt, lt < 10 ∧ C 10 0 2 = nI lt := by obtain ⟨_, lt, _, _, q1, _, _, q2, _⟩ := hU; exact ⟨lt, q1, q2⟩
  by_cases hn : nr = 12
  · subst hn
    refine ⟨-1, C, up M 12 0 0 0, ?_, ?_, h'.sc sc.rf sm.told⟩
    · unfold fX11_reader_47
      rw [if_neg (by decide), c6]
      rfl
    · simp [up, m3, nI]
  · have hx : ix (nI nr) 12 = some nr := ix_nI (by omega) (by omega)
    have n12 : ¬ nI nr = 12 := fun e => hn ((nI_eq (by omega) (by omega)).mp e)
    refine ⟨nI nr, up (fX6_become nr p0 p1 p2 p3 (fX10_forget C)) 0 0 6 (nI nr + 1), up (up (up (up (up (up (up (up M 12 0 0 0) 60 0 nr p0) 61 0 nr p1) 62 0 nr p2) 63 0 nr p3) 64 0 nr 0) 12 0 3 (nI nr + 1)) 12 0 44 0, ?_, ?_, nr + 1, np, dy, nl, nc, ⟨?_, ?_, ?_, ?_, ?_, ?_⟩, ?_, ?_, ?_, ?_, ?_⟩
    · unfold fX11_reader_47
      have q : C 0 0 6 < 12 := by rw [c6]; exact nI_lt (b := 12) (by omega) (by omega)
      rw [if_neg (by decide), if_pos q]
      simp [fX10_forget, up, c6, hx]
    · simp [up, m3, n12, hx, nI_ps]
    all_goals (try simp only [fX6_become, fX10_forget])
    · have : nr + 1 ≤ 12 := by omega
      simp [CtR, up, c9, this, nI_1, c7, m10, hnp, c8, m2, hdy, c10, c11, m18, hnl, c24, m45, hnc]
    · intro i hi
      by_cases e : i = nr
      · subst e
        have := within_ne a1
        have := zero_one (within_ne a3)
        simp_all [up]
      · have := hRd i (by omega)
        simpa [up, e] using this
    · exact (hPp.cg hnp (fun i hi => by simp [upk]) (fun i hi => by simp [upk])).mono (by omega) (by omega)
    · exact (hBk.cg (by simp [upk]) (by simp [upk])).mono (by omega)
    · exact (hCm.cg (by simp [upk]) (by simp [upk]) (by simp [upk]) (by simp [upk]) (by simp [upk]) (by simp [upk]) (by simp [upk]) (by simp [upk]))
    · exact (hLw.cg (by simp [up]) (by simp [upk]) (by simp [upk]) (by simp [upk]) (by simp [upk]) (by simp [up]) (by simp [upk]) (by simp [upk]) (by simp [upk]) (by simp [upk]) (by simp [upk]))
    · exact (Und.zero (by simp [up]) (by simp [up]) lt0 hlt0 (by simp [up]; exact hlt1))
    · exact (hT.cg (by simp [up]) (by simp [upk]) (by simp [up]) (by simp [upk]))
    · exact (hW.cg (by simp [upk]))
    · exact (by unfold Flt; simp [up]; exact hF)
    · refine hK.cg (by simp [up]) (by simp [up]) (by simp [upk]) (fun k i q1 q2 q3 => ?_)
      funext j
      simp only [up]
      repeat (rw [if_neg (by omega)])
