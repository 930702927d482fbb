/-! ===== PURE: undo ===== -/
theorem sim_undo {C M : Mem} (h : Rel C M) : ∃ r C' M', fX11_undo C = some (r, C') ∧ fX12_undo M = some (r, M') ∧ Rel C' M' := by
  have h0 := h.told
  unfold fX11_undo fX12_undo
  generalize up M 12 0 0 0 = M0 at h0 ⊢
  have h' := h0
  obtain ⟨nr, np, dy, nl, nc, ⟨hCt, hRd, hPp, hBk, hCm, hLw⟩, hU, hT, hW, hF, hK⟩ := h'
  obtain ⟨⟨c6, m3, hnr⟩, ⟨c7, m10, hnp⟩, ⟨c8, m2, hdy⟩, ⟨c9, c10⟩, ⟨c11, m18, hnl⟩, c24, m45, hnc⟩ := hCt
  obtain ⟨u, lt, ls, u1, u2, u3, u4, u5, u6, u7⟩ := hU
  rw [u3, u4]
  by_cases e : u = 0
  · subst e
    rw [if_neg (by decide), if_pos (show nI 0 = 0 from rfl)]
    exact ⟨_, _, _, rfl, rfl, h0⟩
  · rw [if_pos (show (0 : Int32) < nI u from nI_lt (a := 0) (by omega) (by omega)), if_neg (nI_ne0 (by omega) (by omega))]
    obtain ⟨t, rfl⟩ : ∃ t, u = t + 1 := ⟨u - 1, by omega⟩
    have hslot : slot lt (t + 1) t = lt := by unfold slot; omega
    obtain ⟨p, p1, ⟨b1, b2, b3, b4, b5, b6⟩, ⟨b7, b8, b9⟩, b10, ⟨q, b11, b12⟩, b13⟩ := u7 t (by omega)
    rw [hslot] at b2 b3 b4 b5 b6 b7 b8 b9 b13
    -- class
    have hw : ∃ w : Nat, w ≤ 1 ∧ fX10_latestWrote C = some (nI w) ∧ nl = ls t + w := by
      unfold fX10_latestWrote
      rw [u5, ix_nI u2 (by omega), bindS]
      rcases b13 with ⟨z1, z2⟩ | ⟨z1, z2⟩
      · rw [if_pos (Or.inr z1), z1]
        exact ⟨1, by omega, rfl, by omega⟩
      · rw [if_pos (Or.inl z1), z1]
        exact ⟨0, by omega, rfl, by omega⟩
    obtain ⟨w, w1, w2, w3⟩ := hw
    obtain ⟨C5, t1, t2, t3, t4⟩ : ∃ C5, fX10_takeLatest C = some (25 + lt, C5) ∧ C5 10 0 2 = nI ((lt + 9) % 10) ∧ C5 10 0 3 = nI t ∧ ∀ k i, ¬ (k = 10 ∧ i = 0) → C5 k i = C k i := by
      unfold fX10_takeLatest
      rw [u5, ix_nI u2 (by omega), bindS, mod10b lt u2, upj (by omega), u3, nI_pred]
      refine ⟨_, rfl, ?_, up_at, fun k i hk => ?_⟩
      · rw [upj (by omega), up_at]
      · rw [upf hk, upf hk]
    obtain ⟨k1, k2⟩ := copy5 (S := C5) (show p ≠ 25 + lt by omega)
    generalize hC6 : fX5_copyFrom p (25 + lt) C5 = C6 at k1 k2
    have hpa : fX0_paperAt (C5 5 (25 + lt) 0) C5 = some (some p) := by
      rw [t4 5 _ (by omega), b2]
      rcases paperAt_spec (C := C5) (x := nI p) (n := np) (by rw [t4 0 0 (by omega)]; exact c7) hnp with ⟨z, ho⟩ | ⟨j, hj, hj2, z⟩
      · rcases ho with ho | ho
        · exact absurd ho (nI_pos (by omega))
        · exact absurd ho (nI_ge (by omega) (by omega))
      · rw [z, (nI_eq (by omega) (by omega)).mp hj2]
    obtain ⟨C', r1, r2, r3⟩ : ∃ C', fX11_undo_49 (nI w) C6 = some (1, C') ∧ C' 1 0 1 = nI (ls t) ∧ ∀ k i, ¬ (k = 1 ∧ i = 0) → C' k i = C6 k i := by
      unfold fX11_undo_49 fX1_dropLast
      have e1 : C6 1 0 1 = nI nl := by rw [k2 1 0 (by omega), t4 1 0 (by omega), c11]
      rcases (show w = 0 ∨ w = 1 by omega) with rfl | rfl
      · rw [if_pos (show nI 0 = 0 from rfl)]
        exact ⟨C6, rfl, by rw [e1, w3, Nat.add_zero], fun _ _ _ => rfl⟩
      · rw [if_neg (show ¬ nI 1 = 0 by decide), e1, if_neg (show ¬ nI nl ≤ 0 from nI_ge (a := 0) (by omega) (by omega)), w3, nI_pred]
        exact ⟨_, rfl, up_at, fun k i hk => by rw [upf hk]⟩
    -- reference
    have e0 : ix (6 * nI t) 60 = some (6 * t) := by
      have := ix_lin (n := 60) (u := t) (j := 0) (by omega) rfl
      rw [show nI 0 = 0 from rfl, Int32.add_zero] at this
      exact this
    have e1 : ix (6 * nI t + 1) 60 = some (6 * t + 1) := ix_lin (j := 1) (by omega) rfl
    have e2 : ix (6 * nI t + 2) 60 = some (6 * t + 2) := ix_lin (j := 2) (by omega) rfl
    have e3 : ix (6 * nI t + 3) 60 = some (6 * t + 3) := ix_lin (j := 3) (by omega) rfl
    have e4 : ix (6 * nI t + 4) 60 = some (6 * t + 4) := ix_lin (j := 4) (by omega) rfl
    have e5 : ix (6 * nI t + 5) 60 = some (6 * t + 5) := ix_lin (j := 5) (by omega) rfl
    rw [w2, bindS, t1, bdS, hpa, bindS, mtS, hC6, r1, nI_pred, up_at, e0, e1, e2, e3, e4, e5, bindS, bindS]
    simp only [upk (show (83 : Nat) ≠ 12 by omega), upk (show (83 : Nat) ≠ 67 by omega), upk (show (83 : Nat) ≠ 68 by omega), upk (show (83 : Nat) ≠ 69 by omega), upk (show (83 : Nat) ≠ 70 by omega)]
    rw [b1, ix_nI (show p < 13 by omega) (by omega), bindS, bindS, bindS, bindS, bindS, b10]
    refine ⟨_, _, _, rfl, rfl, ?_⟩
    have n1 : ∃ M', up (up (up (up (up (up M0 12 0 44 (nI t)) 67 0 p (M0 83 0 (6 * t + 1))) 68 0 p (M0 83 0 (6 * t + 2))) 69 0 p (M0 83 0 (6 * t + 3))) 70 0 p (M0 83 0 (6 * t + 4))) 12 0 18 (nI (ls t)) = M' ∧ M' 12 0 44 = nI t ∧ M' 12 0 18 = nI (ls t) ∧ M' 67 0 p = M0 83 0 (6 * t + 1) ∧ M' 68 0 p = M0 83 0 (6 * t + 2) ∧ M' 69 0 p = M0 83 0 (6 * t + 3) ∧ M' 70 0 p = M0 83 0 (6 * t + 4) ∧ (∀ k i, k ≠ 12 → ¬ (67 ≤ k ∧ k ≤ 70) → M' k i = M0 k i) ∧ (∀ j, j ≠ 44 → j ≠ 18 → M' 12 0 j = M0 12 0 j) ∧ ∀ k j, k ≠ 12 → j ≠ p → M' k 0 j = M0 k 0 j := by
      refine ⟨_, rfl, ?_, up_at, ?_, ?_, ?_, ?_, fun k i q1 q2 => ?_, fun j q1 q2 => ?_, fun k j q1 q2 => ?_⟩
      · rw [upj (by omega), upk (by omega), upk (by omega), upk (by omega), upk (by omega), up_at]
      · rw [upk (by omega), upk (by omega), upk (by omega), upk (by omega), up_at]
      · rw [upk (by omega), upk (by omega), upk (by omega), up_at]
      · rw [upk (by omega), upk (by omega), up_at]
      · rw [upk (by omega), up_at]
      · rw [upk q1, upk (by omega), upk (by omega), upk (by omega), upk (by omega), upk q1]
      · rw [upj q2, upk (by omega), upk (by omega), upk (by omega), upk (by omega), upj q1]
      · simp only [up]
        rw [if_neg (by omega), if_neg (by omega), if_neg (by omega), if_neg (by omega), if_neg (by omega), if_neg (by omega)]
    obtain ⟨M', n1, n44, n18, n67, n68, n69, n70, nk, n12, np'⟩ := n1
    rw [n1]
    have FC : ∀ k i, ¬ (k = 10 ∧ i = 0) → ¬ (k = 1 ∧ i = 0) → ¬ (k = 5 ∧ i = p) → C' k i = C k i := fun k i q1 q2 q3 => by rw [r3 k i q2, k2 k i q3, t4 k i q1]
    have F5p : ∀ j, j < 8 → C' 5 p j = C 5 (25 + lt) j := fun j hj => by rw [r3 5 p (by omega), k1 j hj, t4 5 _ (by omega)]
    have F10 : C' 10 0 = C5 10 0 := by rw [r3 10 0 (by omega), k2 10 0 (by omega)]
    have FMk : ∀ k, k ≠ 12 → ¬ (67 ≤ k ∧ k ≤ 70) → M' k = M0 k := fun k q1 q2 => funext fun i => nk k i q1 q2
    refine ⟨nr, np, dy, ls t, nc, ⟨?_, hRd.cg (fun i _ => FC 6 i (by omega) (by omega) (by omega)) hnr (FMk 60 (by omega) (by omega)) (FMk 61 (by omega) (by omega)) (FMk 62 (by omega) (by omega)) (FMk 63 (by omega) (by omega)) (FMk 64 (by omega) (by omega)), ?_, ?_, hCm.cg (FC 17 0 (by omega) (by omega) (by omega)) (FC 18 0 (by omega) (by omega) (by omega)) (FC 19 0 (by omega) (by omega) (by omega)) (FC 20 0 (by omega) (by omega) (by omega)) (nk 84 0 (by omega) (by omega)) (nk 85 0 (by omega) (by omega)) (nk 86 0 (by omega) (by omega)) (nk 87 0 (by omega) (by omega)), hLw.cg (by rw [FC 3 0 (by omega) (by omega) (by omega)]) (FC 21 0 (by omega) (by omega) (by omega)) (FC 22 0 (by omega) (by omega) (by omega)) (FC 23 0 (by omega) (by omega) (by omega)) (FC 24 0 (by omega) (by omega) (by omega)) (n12 27 (by omega) (by omega)) (nk 78 0 (by omega) (by omega)) (nk 79 0 (by omega) (by omega)) (nk 75 0 (by omega) (by omega)) (nk 76 0 (by omega) (by omega)) (nk 77 0 (by omega) (by omega))⟩, ?_, hT.cg (by rw [FC 7 0 (by omega) (by omega) (by omega)]) (FC 27 0 (by omega) (by omega) (by omega)) (n12 21 (by omega) (by omega)) (nk 73 0 (by omega) (by omega)), hW.cg (nk 74 0 (by omega) (by omega)), ?_, hK.cg (by rw [FC 11 0 (by omega) (by omega) (by omega)]) (n12 52 (by omega) (by omega)) (nk 89 0 (by omega) (by omega)) (fun k i q1 q2 q3 => FC k i (by omega) (by omega) (by omega))⟩
    · refine ⟨⟨?_, ?_, hnr⟩, ⟨?_, ?_, hnp⟩, ⟨?_, ?_, hdy⟩, ⟨?_, ?_⟩, ⟨r2, n18, by omega⟩, ?_, ?_, hnc⟩
      · rw [FC 0 0 (by omega) (by omega) (by omega)]; exact c6
      · rw [n12 3 (by omega) (by omega)]; exact m3
      · rw [FC 0 0 (by omega) (by omega) (by omega)]; exact c7
      · rw [n12 10 (by omega) (by omega)]; exact m10
      · rw [FC 0 0 (by omega) (by omega) (by omega)]; exact c8
      · rw [n12 2 (by omega) (by omega)]; exact m2
      · rw [FC 0 0 (by omega) (by omega) (by omega), n12 1 (by omega) (by omega)]; exact c9
      · rw [FC 0 0 (by omega) (by omega) (by omega), n12 9 (by omega) (by omega)]; exact c10
      · rw [FC 2 0 (by omega) (by omega) (by omega)]; exact c24
      · rw [n12 45 (by omega) (by omega)]; exact m45
    · intro i hi
      have old := hPp i hi
      by_cases e : i = p
      · subst e
        obtain ⟨⟨z0, z1, z2, z3, z4, z5, z6, z7⟩, z8, z9, z10⟩ := old
        refine ⟨⟨?_, ?_, ?_, ?_, ?_, ?_, ?_, ?_⟩, ?_, ⟨q, b11, ?_⟩, ?_⟩
        · rw [F5p 0 (by omega), b2]
        · rw [F5p 1 (by omega), b7, nk 65 0 (by omega) (by omega), z1]
        · rw [F5p 2 (by omega), b8, nk 66 0 (by omega) (by omega), z2]
        · rw [F5p 3 (by omega), b3, n67]
        · rw [F5p 4 (by omega), b4, n68]
        · rw [F5p 5 (by omega), b5, n69]
        · rw [F5p 6 (by omega), b6, n70]
        · rw [F5p 7 (by omega), b9, nk 71 0 (by omega) (by omega), z7]
        · rw [nk 65 0 (by omega) (by omega), nk 66 0 (by omega) (by omega)]; exact z8
        · rw [n67, b12]
        · rw [nk 71 0 (by omega) (by omega)]; exact z10
      · rw [FC 5 i (by omega) (by omega) (by omega), np' 65 i (by omega) e, np' 66 i (by omega) e, np' 67 i (by omega) e, np' 68 i (by omega) e, np' 69 i (by omega) e, np' 70 i (by omega) e, np' 71 i (by omega) e]
        exact old
    · intro i hi
      rw [FC 16 0 (by omega) (by omega) (by omega), nk 72 0 (by omega) (by omega)]
      exact hBk i (by omega)
    · refine ⟨t, (lt + 9) % 10, ls, by omega, by omega, by rw [F10, t3], n44, by rw [F10, t2], rfl, fun x hx => ?_⟩
      have hsl : slot ((lt + 9) % 10) t x = slot lt (t + 1) x := by unfold slot; omega
      have hsl10 : slot lt (t + 1) x < 10 := by unfold slot; omega
      obtain ⟨p', p1', ⟨y1, y2, y3, y4, y5, y6⟩, ⟨y7, y8, y9⟩, y10, y11, y13⟩ := u7 x (by omega)
      have h5s : C' 5 (25 + slot lt (t + 1) x) = C 5 (25 + slot lt (t + 1) x) := FC 5 _ (by omega) (by omega) (by omega)
      have h5p : ∀ j, (j = 1 ∨ j = 2 ∨ j = 7) → C' 5 p' j = C 5 p' j := fun j hj => by
        by_cases e : p' = p
        · subst e
          rw [F5p j (by omega)]
          rcases hj with rfl | rfl | rfl
          · exact b7
          · exact b8
          · exact b9
        · rw [FC 5 p' (by omega) (by omega) (by omega)]
      refine ⟨p', p1', ⟨?_, ?_, ?_, ?_, ?_, ?_⟩, ⟨?_, ?_, ?_⟩, ?_, ?_, ?_⟩
      · rw [nk 83 0 (by omega) (by omega), y1]
      · rw [hsl, h5s, y2]
      · rw [hsl, h5s, nk 83 0 (by omega) (by omega), y3]
      · rw [hsl, h5s, nk 83 0 (by omega) (by omega), y4]
      · rw [hsl, h5s, nk 83 0 (by omega) (by omega), y5]
      · rw [hsl, h5s, nk 83 0 (by omega) (by omega), y6]
      · rw [hsl, h5s, h5p 1 (by omega), y7]
      · rw [hsl, h5s, h5p 2 (by omega), y8]
      · rw [hsl, h5s, h5p 7 (by omega), y9]
      · rw [nk 83 0 (by omega) (by omega), y10]
      · rw [nk 83 0 (by omega) (by omega)]; exact y11
      · rw [hsl, FC 30 0 (by omega) (by omega) (by omega)]; exact y13
    · unfold Flt
      rw [FC 4 0 (by omega) (by omega) (by omega), n12 39 (by omega) (by omega), n12 40 (by omega) (by omega)]
      exact hF
