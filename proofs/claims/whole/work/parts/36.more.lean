/-! ===== PURE: claim, end, feed, fault, look, book ===== -/
theorem sim_fault {C M : Mem} (h : Rel C M) (p0 : Int32) : fX11_fault p0 C = (fX12_fault p0 M).1 ∧ Rel C (fX12_fault p0 M).2 := by
  have h0 := h.told
  have hF : C 4 0 7 = M 12 0 39 ∧ C 4 0 8 = M 12 0 40 := by
    obtain ⟨_, _, _, _, _, _, _, _, _, q, _⟩ := h
    exact q
  unfold fX11_fault fX12_fault
  by_cases a : p0 = 0
  · rw [if_pos a, if_pos a]; exact ⟨by simp [up, hF.1], h0⟩
  · rw [if_neg a, if_neg a]
    by_cases b : p0 = 1
    · rw [if_pos b, if_pos b]; exact ⟨by simp [up, hF.2], h0⟩
    · rw [if_neg b, if_neg b]; exact ⟨rfl, h0⟩
theorem sim_look {C M : Mem} (h : Rel C M) (p0 : Int32) : fX11_look p0 C = (fX12_look p0 M).1 ∧ Rel C (fX12_look p0 M).2 := by
  have h0 := h.told
  have hs : (fX12_look p0 M).2 = up M 12 0 0 0 := by
    unfold fX12_look
    (repeat' split) <;> rfl
  rw [hs]
  refine ⟨?_, h0⟩
  obtain ⟨nr, np, dy, nl, nc, ⟨hCt, hRd, hPp, hBk, hCm, hLw⟩, hU, hT, hW, hF, hK⟩ := h
  obtain ⟨⟨c6, m3, hnr⟩, ⟨c7, m10, hnp⟩, ⟨c8, m2, hdy⟩, ⟨c9, c10⟩, ⟨c11, m18, hnl⟩, c24, m45, hnc⟩ := hCt
  obtain ⟨u, lt, ls, _, _, u1, u2, _⟩ := hU
  obtain ⟨cd, lw, _, _, l1, l2, _⟩ := hLw
  unfold fX11_look fX12_look
  rw [c6, c7, c8, c9, c10, c11, c24, u1, l1]
  have e : ∀ j, j ≠ 0 → up M 12 0 0 0 12 0 j = M 12 0 j := fun j hj => upj hj
  rw [e 2 (by omega), e 3 (by omega), e 10 (by omega), e 18 (by omega), e 45 (by omega), e 1 (by omega), e 27 (by omega), e 44 (by omega), e 9 (by omega), m2, m3, m10, m18, m45, u2, l2]
  (repeat' split) <;> rfl
theorem sim_book {C M : Mem} (h : Rel C M) (p0 p1 : Int32) : ∃ r M', fX11_book p0 p1 C = some r ∧ fX12_book p0 p1 M = some (r, M') ∧ Rel C M' := by
  have h0 := h.told
  unfold fX11_book fX12_book
  generalize up M 12 0 0 0 = M0 at h0 ⊢
  have h' := h0
  obtain ⟨nr, np, dy, nl, nc, ⟨hCt, hRd, hPp, hBk, hCm, hLw⟩, hU, hT, hW, hF, hK⟩ := h'
  obtain ⟨⟨c6, m3, hnr⟩, ⟨c7, m10, hnp⟩, ⟨c8, m2, hdy⟩, ⟨c9, c10⟩, ⟨c11, m18, hnl⟩, c24, m45, hnc⟩ := hCt
  unfold fX1_entry
  rw [c11, m18, isIn_eq]
  rcases within_sub (x := p0) (n := nl) (by omega) with e | ⟨i, hi, rfl, e⟩
  · rw [if_pos e, if_pos e]; exact ⟨_, _, rfl, rfl, h0⟩
  · have e' : ¬ fX11_within (nI i) 0 (nI nl - 1) = 0 := by rw [e]; decide
    rw [if_neg e', if_neg e']
    by_cases a : fX11_within p1 0 4 = 0
    · rw [if_pos a, if_pos a]; exact ⟨_, _, rfl, rfl, h0⟩
    · rw [if_neg a, if_neg a]
      obtain ⟨b1, b2⟩ := within_ne a
      obtain ⟨j, hj, rfl⟩ := nI_of2 (M := 4) (n := 4) (by decide) (Int32.not_lt.mpr b1) b2
      have e1 : nI i * 5 + nI j = nI (5 * i + j) := by rw [show (5 : Int32) = nI 5 from rfl, pk_mul, nI_add, Nat.mul_comm]
      have e2 : 5 * nI i + nI j = nI (5 * i + j) := by rw [show (5 : Int32) = nI 5 from rfl, pk_mul, nI_add]
      unfold fX1_entry_28
      rw [if_neg (show ¬ (1 : Int32) = 0 by decide), e1, e2, ix_nI (by omega) (by omega)]
      refine ⟨C 16 0 (5 * i + j), M0, rfl, ?_, h0⟩
      rw [(hBk i hi).1 j (by omega)]
      rfl
theorem sim_end {C M : Mem} (h : Rel C M) (p0 : Int32) : (fX11_end p0 C).1 = (fX12_end p0 M).1 ∧ Rel (fX11_end p0 C).2 (fX12_end p0 M).2 := by
  have h0 := h.told
  unfold fX11_end fX12_end
  generalize up M 12 0 0 0 = M0 at h0 ⊢
  have h' := h0
  obtain ⟨nr, np, dy, nl, nc, ⟨hCt, hRd, hPp, hBk, hCm, hLw⟩, hU, hT, hW, hF, hK⟩ := h'
  have hT' := hT
  obtain ⟨n, t1, t2, t3, t4⟩ := hT'
  rw [isIn_eq, t2, t3]
  by_cases a : fX11_within p0 0 (nI n) = 0
  · rw [if_pos a, if_pos a]; exact ⟨rfl, h0⟩
  · rw [if_neg a, if_neg a]
    obtain ⟨b1, b2⟩ := within_ne a
    obtain ⟨j, hj, rfl⟩ := nI_of2 (M := nI n) (n := n) (nI_toInt (by omega)) (Int32.not_lt.mpr b1) b2
    refine ⟨rfl, nr, np, dy, nl, nc, ⟨?_, ?_, ?_, ?_, ?_, ?_⟩, ?_, ?_, ?_, ?_, ?_⟩
    · obtain ⟨⟨c6, m3, hnr⟩, ⟨c7, m10, hnp⟩, ⟨c8, m2, hdy⟩, ⟨c9, c10⟩, ⟨c11, m18, hnl⟩, c24, m45, hnc⟩ := hCt
      simp [CtR, up, c9, c6, m3, hnr, c7, m10, hnp, c8, m2, hdy, c10, c11, m18, hnl, c24, m45, hnc]
    · have hnr := hCt.1.2.2
      exact (hRd.cg (fun i hi => by simp [upk]) hnr (by simp [upk]) (by simp [upk]) (by simp [upk]) (by simp [upk]) (by simp [upk]))
    · have hnp := hCt.2.1.2.2
      exact (hPp.cg hnp (fun i hi => by simp [upk]) (fun i hi => by simp [upk]))
    · exact (hBk.cg (by simp [upk]) (by simp [upk]))
    · exact (hCm.cg (by simp [upk]) (by simp [upk]) (by simp [upk]) (by simp [upk]) (by simp [upk]) (by simp [upk]) (by simp [upk]) (by simp [upk]))
    · exact (hLw.cg (by simp [up]) (by simp [upk]) (by simp [upk]) (by simp [upk]) (by simp [upk]) (by simp [up]) (by simp [upk]) (by simp [upk]) (by simp [upk]) (by simp [upk]) (by simp [upk]))
    · exact hU.cg (by omega) (by omega) hCt.2.1.2.2 (by simp [upk]) (fun i hi => by simp [upk]) (by simp [upk]) (by simp [up]) (by simp [upk])
    · exact ⟨j, by omega, by simp [up], by simp [up], fun q hq => by
        obtain ⟨b, d1, d2, d3⟩ := t4 q (by omega)
        exact ⟨b, d1, by simp [up, d2], by simp [up, d3]⟩⟩
    · exact (hW.cg (by simp [upk]))
    · exact (by unfold Flt; simp [up]; exact hF)
    · exact (hK.cg (by simp [up]) (by simp [up]) (by simp [upk]) (fun k i q1 q2 q3 => by funext j; simp only [up]; repeat (rw [if_neg (by omega)])))
theorem sim_claim {C M : Mem} (h : Rel C M) (p0 p1 p2 p3 : Int32) : ∃ r C' M', fX11_claim p0 p1 p2 p3 C = some (r, C') ∧ fX12_claim p0 p1 p2 p3 M = some (r, M') ∧ Rel C' M' := by
  have h0 := h.told
  unfold fX11_claim fX12_claim
  generalize up M 12 0 0 0 = M0 at h0 ⊢
  have h' := h0
  obtain ⟨nr, np, dy, nl, nc, ⟨hCt, hRd, hPp, hBk, hCm, hLw⟩, hU, hT, hW, hF, hK⟩ := h'
  obtain ⟨⟨c6, m3, hnr⟩, ⟨c7, m10, hnp⟩, ⟨c8, m2, hdy⟩, ⟨c9, c10⟩, ⟨c11, m18, hnl⟩, c24, m45, hnc⟩ := hCt
  rcases paperAt_spec (x := p0) c7 hnp with ⟨e, ho⟩ | ⟨j, hj, rfl, e⟩
  · rw [e, isPaper_out m10 ho, if_pos rfl]
    exact ⟨_, _, _, rfl, rfl, h0⟩
  · rw [e, isPaper_in m10 hnp hj, if_neg (show ¬ (1 : Int32) = 0 by decide), isIn_eq, m2]
    show ∃ r C' M', (if fX11_within p1 (C 0 0 8) 9999 = 0 then fX11_claim_50 (nI j) p1 p2 p3 C else if p2 < 0 then fX11_claim_50 (nI j) p1 p2 p3 C else if p3 < p2 then fX11_claim_50 (nI j) p1 p2 p3 C else if 999 < p3 then fX11_claim_50 (nI j) p1 p2 p3 C else fX11_claim_51 (nI j) p1 p2 p3 1 C) = some (r, C') ∧ _
    rw [c8]
    by_cases a1 : fX11_within p1 (nI dy) 9999 = 0
    · rw [if_pos a1, if_pos a1]; exact ⟨_, _, _, rfl, rfl, h0⟩
    rw [if_neg a1, if_neg a1]
    by_cases a2 : p2 < 0
    · rw [if_pos a2, if_pos a2]; exact ⟨_, _, _, rfl, rfl, h0⟩
    rw [if_neg a2, if_neg a2]
    by_cases a3 : p3 < p2
    · rw [if_pos a3]
      by_cases a4 : 999 < p3
      · rw [if_pos a4]; exact ⟨_, _, _, rfl, rfl, h0⟩
      · rw [if_neg a4, if_pos a3]; exact ⟨_, _, _, rfl, rfl, h0⟩
    rw [if_neg a3]
    by_cases a4 : 999 < p3
    · rw [if_pos a4, if_pos a4]; exact ⟨_, _, _, rfl, rfl, h0⟩
    rw [if_neg a4, if_neg a4, if_neg a3]
    by_cases hn : nc = 6
    · subst hn
      refine ⟨-1, C, M0, ?_, ?_, h0⟩
      · unfold fX11_claim_51 fX2_hasRoom
        rw [if_neg (show ¬ (1 : Int32) = 0 by decide), c24]
        rfl
      · rw [m45]; rfl
    · have hx : ix (nI nc) 6 = some nc := ix_nI (by omega) (by omega)
      have n6 : ¬ nI nc = 6 := fun e => hn ((nI_eq (by omega) (by omega)).mp e)
      have l6 : ¬ 6 ≤ nI nc := nI_ge (b := 6) (by omega) (by omega)
      obtain ⟨w1, w2⟩ := within_ne a1
      obtain ⟨d, hd, rfl⟩ := nI_of2 (x := p1) (M := 9999) (n := 9999) (by decide) (fun q => by
        have := Int32.lt_of_le_of_lt w1 q
        exact nI_pos (by omega) this) w2
      refine ⟨nI nc, up (up (up (up (up C 17 0 nc (nI j)) 18 0 nc (nI d)) 19 0 nc p2) 20 0 nc p3) 2 0 4 (nI nc + 1), up (up (up (up (up M0 84 0 nc (nI j)) 85 0 nc (nI d)) 86 0 nc p2) 87 0 nc p3) 12 0 45 (nI nc + 1), ?_, ?_, nr, np, dy, nl, nc + 1, ⟨?_, ?_, ?_, ?_, ?_, ?_⟩, ?_, ?_, ?_, ?_, ?_⟩
      · unfold fX11_claim_51 fX2_add fX2_hasRoom
        simp [c24, l6, hx, up, nI_ps, bd]
      · simp [up, m45, n6, hx, nI_ps]
      · have : nc + 1 ≤ 6 := by omega
        simp [CtR, up, this, nI_1, c9, c6, m3, hnr, c7, m10, hnp, c8, m2, hdy, c10, c11, m18, hnl]
      · exact (hRd.cg (fun i hi => by simp [upk]) hnr (by simp [upk]) (by simp [upk]) (by simp [upk]) (by simp [upk]) (by simp [upk]))
      · exact (hPp.cg hnp (fun i hi => by simp [upk]) (fun i hi => by simp [upk]))
      · exact (hBk.cg (by simp [upk]) (by simp [upk]))
      · intro i hi
        by_cases e : i = nc
        · subst e
          refine ⟨by simp [up], ⟨j, hj, by simp [up]⟩, ⟨d, hd, by simp [up]⟩⟩
        · have := hCm i (by omega)
          simpa [up, e] using this
      · exact (hLw.cg (by simp [up]) (by simp [upk]) (by simp [upk]) (by simp [upk]) (by simp [upk]) (by simp [up]) (by simp [upk]) (by simp [upk]) (by simp [upk]) (by simp [upk]) (by simp [upk]))
      · exact hU.cg (by omega) (by omega) hnp (by simp [upk]) (fun i hi => by simp [upk]) (by simp [upk]) (by simp [up]) (by simp [upk])
      · exact (hT.cg (by simp [up]) (by simp [upk]) (by simp [up]) (by simp [upk]))
      · exact (hW.cg (by simp [upk]))
      · exact (by unfold Flt; simp [up]; exact hF)
      · exact (hK.cg (by simp [up]) (by simp [up]) (by simp [upk]) (fun k i q1 q2 q3 => by funext j; simp only [up]; repeat (rw [if_neg (by omega)])))
/-! feed -/
theorem byte_and (x : Int32) : x.toInt8.toInt32 &&& 255 = x &&& 255 := by
  apply Int32.toBitVec_inj.mp
  simp only [Int32.toBitVec_and, Int32.toBitVec_toInt8, Int8.toBitVec_toInt32]
  ext i hi
  simp only [BitVec.getElem_and]
  by_cases h8 : i < 8
  · have e1 : (BitVec.signExtend 32 (x.toBitVec.signExtend 8))[i] = x.toBitVec[i] := by
      rw [BitVec.getElem_signExtend, dif_pos h8, BitVec.getElem_signExtend, dif_pos (by omega)]
    rw [e1]
  · have e2 : (255 : Int32).toBitVec[i] = false := by
      show (BitVec.ofNat 32 255)[i] = false
      rw [BitVec.getElem_eq_testBit_toNat]
      exact Nat.testBit_lt_two_pow (Nat.lt_of_lt_of_le (show 255 < 2 ^ 8 by decide) (Nat.pow_le_pow_right (by decide) (by omega)))
    rw [e2, Bool.and_false, Bool.and_false]
theorem and255 (x : Int32) : ∃ b, b < 256 ∧ x &&& 255 = nI b := by
  obtain ⟨j, h1, h2⟩ := pk_andE x (m := 255) 8 (by decide)
  exact ⟨j, h1, h2⟩
def bt (x : Int32) (t : Nat) : Int32 := if t = 0 then x >>> (24 &&& 31) else if t = 1 then x >>> (16 &&& 31) else if t = 2 then x >>> (8 &&& 31) else x
theorem put_c {C : Mem} {x : Int32} {n : Nat} (hc : C 7 0 1 = nI n) (hn : n + 4 ≤ 400) : ∃ C', fX7_put x C = some C' ∧ C' 7 0 1 = nI (n + 4) ∧ (∀ k i, k ≠ 7 → k ≠ 27 → C' k i = C k i) ∧ (∀ j, j < n → C' 27 0 j = C 27 0 j) ∧ ∀ t, t < 4 → C' 27 0 (n + t) &&& 255 = bt x t &&& 255 := by
  have e : fX7_put x C = some (up (up (up (up (up C 27 0 n (vp_nar .byte (x >>> (24 &&& 31)).toInt8.toInt32)) 27 0 (n + 1) (vp_nar .byte (x >>> (16 &&& 31)).toInt8.toInt32)) 27 0 (n + 2) (vp_nar .byte (x >>> (8 &&& 31)).toInt8.toInt32)) 27 0 (n + 3) (vp_nar .byte x.toInt8.toInt32)) 7 0 1 (nI (n + 4))) := by
    have r : ¬ fX7_hasRoom 4 C = 0 := by
      unfold fX7_hasRoom
      rw [hc, show (4 : Int32) = nI 4 from rfl, show (400 : Int32) = nI 400 from rfl, nI_add, if_neg (nI_nlt (a := 400) (b := n + 4) (by omega) (by omega))]
      decide
    have a1 : nI n + 1 = nI (n + 1) := nI_1 n
    have a2 : nI n + 2 = nI (n + 2) := nI_add n 2
    have a3 : nI n + 3 = nI (n + 3) := nI_add n 3
    have a4 : nI n + 4 = nI (n + 4) := nI_add n 4
    unfold fX7_put
    rw [if_neg r]
    simp only [up, hc, Nat.reduceEqDiff, false_and, if_false, a1, a2, a3, a4]
    rw [ix_nI (by omega) (by omega), ix_nI (by omega) (by omega), ix_nI (by omega) (by omega), ix_nI (by omega) (by omega)]
    rfl
  refine ⟨_, e, by simp [up], fun k i h1 h2 => ?_, fun j hj => ?_, fun t ht => ?_⟩
  · repeat (rw [upf (by omega)])
  · simp only [up]
    repeat (rw [if_neg (by omega)])
  · rcases (show t = 0 ∨ t = 1 ∨ t = 2 ∨ t = 3 by omega) with rfl | rfl | rfl | rfl <;> simp [up, bt, vp_nar_byte, byte_and]
theorem types_m {M : Mem} {x : Int32} {n : Nat} (hm : M 12 0 21 = nI n) (hn : n + 4 ≤ 400) : ∃ M', fX12_types x M = some M' ∧ M' 12 0 21 = nI (n + 4) ∧ (∀ k i, k ≠ 12 → k ≠ 73 → M' k i = M k i) ∧ (∀ j, j ≠ 21 → M' 12 0 j = M 12 0 j) ∧ (∀ j, j < n → M' 73 0 j = M 73 0 j) ∧ ∀ t, t < 4 → M' 73 0 (n + t) = bt x t &&& 255 := by
  have a1 : nI n + 1 = nI (n + 1) := nI_1 n
  have a2 : nI (n + 1) + 1 = nI (n + 2) := nI_1 _
  have a3 : nI (n + 2) + 1 = nI (n + 3) := nI_1 _
  have a4 : nI (n + 3) + 1 = nI (n + 4) := nI_1 _
  have b1 : (24 : Int32) + -8 = 16 := by decide
  have b2 : (16 : Int32) + -8 = 8 := by decide
  have b3 : (8 : Int32) + -8 = 0 := by decide
  have b4 : (0 : Int32) + -8 = -8 := by decide
  have c1 : ¬ (24 : Int32) < 0 := by decide
  have c2 : ¬ (16 : Int32) < 0 := by decide
  have c3 : ¬ (8 : Int32) < 0 := by decide
  have c4 : ¬ (0 : Int32) < 0 := by decide
  have c5 : (-8 : Int32) < 0 := by decide
  have s0 : x >>> ((0 : Int32) &&& 31) = x := by
    apply Int32.toInt_inj.mp
    rw [pk_shr x (0 &&& 31) 0 (by decide)]
    simp
  have e : fX12_types x M = some (up (up (up (up (up (up (up (up M 73 0 n ((x >>> (24 &&& 31)) &&& 255)) 12 0 21 (nI (n + 1))) 73 0 (n + 1) ((x >>> (16 &&& 31)) &&& 255)) 12 0 21 (nI (n + 2))) 73 0 (n + 2) ((x >>> (8 &&& 31)) &&& 255)) 12 0 21 (nI (n + 3))) 73 0 (n + 3) ((x >>> (0 &&& 31)) &&& 255)) 12 0 21 (nI (n + 4))) := by
    suffices hh : ∀ f : Nat, fX12_types_3 (f + 1 + 1 + 1 + 1 + 1) x 24 M = some (up (up (up (up (up (up (up (up M 73 0 n ((x >>> (24 &&& 31)) &&& 255)) 12 0 21 (nI (n + 1))) 73 0 (n + 1) ((x >>> (16 &&& 31)) &&& 255)) 12 0 21 (nI (n + 2))) 73 0 (n + 2) ((x >>> (8 &&& 31)) &&& 255)) 12 0 21 (nI (n + 3))) 73 0 (n + 3) ((x >>> (0 &&& 31)) &&& 255)) 12 0 21 (nI (n + 4))) from hh 4995
    intro f
    rw [fX12_types_3, if_neg c1, hm, ix_nI (by omega) (by omega)]
    show fX12_types_3 (f + 1 + 1 + 1 + 1) x (24 + -8) (up (up M 73 0 n ((x >>> (24 &&& 31)) &&& 255)) 12 0 21 (up M 73 0 n ((x >>> (24 &&& 31)) &&& 255) 12 0 21 + 1)) = _
    rw [upk (show (12 : Nat) ≠ 73 by omega), hm, a1, b1, fX12_types_3, if_neg c2, up_at, ix_nI (by omega) (by omega)]
    show fX12_types_3 (f + 1 + 1 + 1) x (16 + -8) (up (up _ 73 0 (n + 1) ((x >>> (16 &&& 31)) &&& 255)) 12 0 21 (up _ 73 0 (n + 1) ((x >>> (16 &&& 31)) &&& 255) 12 0 21 + 1)) = _
    rw [upk (show (12 : Nat) ≠ 73 by omega), up_at, a2, b2, fX12_types_3, if_neg c3, up_at, ix_nI (by omega) (by omega)]
    show fX12_types_3 (f + 1 + 1) x (8 + -8) (up (up _ 73 0 (n + 2) ((x >>> (8 &&& 31)) &&& 255)) 12 0 21 (up _ 73 0 (n + 2) ((x >>> (8 &&& 31)) &&& 255) 12 0 21 + 1)) = _
    rw [upk (show (12 : Nat) ≠ 73 by omega), up_at, a3, b3, fX12_types_3, if_neg c4, up_at, ix_nI (by omega) (by omega)]
    show fX12_types_3 (f + 1) x (0 + -8) (up (up _ 73 0 (n + 3) ((x >>> (0 &&& 31)) &&& 255)) 12 0 21 (up _ 73 0 (n + 3) ((x >>> (0 &&& 31)) &&& 255) 12 0 21 + 1)) = _
    rw [upk (show (12 : Nat) ≠ 73 by omega), up_at, a4, b4, fX12_types_3, if_pos c5]
  refine ⟨_, e, by simp [up], fun k i h1 h2 => ?_, fun j hj => ?_, fun j hj => ?_, fun t ht => ?_⟩
  · repeat (rw [upf (by omega)])
  · simp [up, hj]
  · simp only [up]
    repeat (rw [if_neg (by omega)])
  · rcases (show t = 0 ∨ t = 1 ∨ t = 2 ∨ t = 3 by omega) with rfl | rfl | rfl | rfl <;> simp [up, bt]
theorem sim_put {C M : Mem} {x : Int32} {n : Nat} (h : Rel C M) (hc : C 7 0 1 = nI n) (hn : n + 4 ≤ 400) : ∃ C' M', fX7_put x C = some C' ∧ fX12_types x M = some M' ∧ C' 7 0 1 = nI (n + 4) ∧ M' 12 0 21 = nI (n + 4) ∧ Rel C' M' := by
  have h' := h
  obtain ⟨nr, np, dy, nl, nc, hCor, hU, hT, hW, hF, hK⟩ := h'
  obtain ⟨n', t1, t2, t3, t4⟩ := hT
  have en : n' = n := (nI_eq (by omega) (by omega)).mp (t2.symm.trans hc)
  subst en
  obtain ⟨C', g1, g2, g3, g4, g5⟩ := put_c (x := x) hc hn
  obtain ⟨M', k1, k2, k3, k3', k4, k5⟩ := types_m (x := x) t3 hn
  refine ⟨C', M', g1, k1, g2, k2, nr, np, dy, nl, nc, ?_, ?_, ?_, ?_, ?_, ?_⟩
  · exact hCor.cg (fun j _ => by rw [g3 0 0 (by omega) (by omega)]) (by rw [g3 1 0 (by omega) (by omega)]) (by rw [g3 2 0 (by omega) (by omega)]) (by rw [g3 3 0 (by omega) (by omega)]) (fun i _ => g3 5 i (by omega) (by omega)) (fun i _ => g3 6 i (by omega) (by omega)) (g3 16 0 (by omega) (by omega)) (g3 17 0 (by omega) (by omega)) (g3 18 0 (by omega) (by omega)) (g3 19 0 (by omega) (by omega)) (g3 20 0 (by omega) (by omega)) (g3 21 0 (by omega) (by omega)) (g3 22 0 (by omega) (by omega)) (g3 23 0 (by omega) (by omega)) (g3 24 0 (by omega) (by omega)) (fun j hj => k3' j (by omega)) (fun k a b => funext fun i => k3 k i (by omega) (by omega)) (fun k i a b c => by rw [k3 k 0 (by omega) (by omega)]) (k3 72 0 (by omega) (by omega)) (fun k a b => k3 k 0 (by omega) (by omega)) (fun k a b => k3 k 0 (by omega) (by omega))
  · exact hU.cg (by omega) (by omega) hCor.1.2.1.2.2 (g3 10 0 (by omega) (by omega)) (fun i _ => g3 5 i (by omega) (by omega)) (g3 30 0 (by omega) (by omega)) (k3' 44 (by omega)) (k3 83 0 (by omega) (by omega))
  · refine ⟨n' + 4, by omega, g2, k2, fun j hj => ?_⟩
    by_cases hj2 : j < n'
    · rw [g4 j hj2, k4 j hj2]
      exact t4 j hj2
    · have e : j = n' + (j - n') := by omega
      rw [e, g5 (j - n') (by omega), k5 (j - n') (by omega)]
      obtain ⟨b, b1, b2⟩ := and255 (bt x (j - n'))
      exact ⟨b, b1, b2, b2⟩
  · exact hW.cg (k3 74 0 (by omega) (by omega))
  · unfold Flt
    rw [g3 4 0 (by omega) (by omega), k3' 39 (by omega), k3' 40 (by omega)]
    exact hF
  · exact hK.cg (by rw [g3 11 0 (by omega) (by omega)]) (k3' 52 (by omega)) (k3 89 0 (by omega) (by omega)) (fun k i q1 q2 q3 => g3 k i (by omega) (by omega))
theorem sim_feed {C M : Mem} (h : Rel C M) (p0 p1 p2 p3 p4 : Int32) : ∃ r C' M', fX11_feed p0 p1 p2 p3 p4 C = some (r, C') ∧ fX12_feed p0 p1 p2 p3 p4 M = some (r, M') ∧ Rel C' M' := by
  have h0 := h.told
  unfold fX11_feed fX12_feed
  generalize up M 12 0 0 0 = M0 at h0 ⊢
  obtain ⟨n, t1, t2, t3⟩ : ∃ n, n ≤ 400 ∧ C 7 0 1 = nI n ∧ M0 12 0 21 = nI n := by
    obtain ⟨_, _, _, _, _, _, _, ⟨n, t1, t2, t3, _⟩, _⟩ := h0
    exact ⟨n, t1, t2, t3⟩
  by_cases hn : n ≤ 380
  · have r : ¬ fX7_hasRoom 20 C = 0 := by
      unfold fX7_hasRoom
      rw [t2, show (20 : Int32) = nI 20 from rfl, show (400 : Int32) = nI 400 from rfl, nI_add, if_neg (nI_nlt (a := 400) (b := n + 20) (by omega) (by omega))]
      decide
    obtain ⟨C1, M1, a1, b1, c1, d1, h1⟩ := sim_put (x := p0) h0 t2 (by omega)
    obtain ⟨C2, M2, a2, b2, c2, d2, h2⟩ := sim_put (x := p1) h1 c1 (by omega)
    obtain ⟨C3, M3, a3, b3, c3, d3, h3⟩ := sim_put (x := p2) h2 c2 (by omega)
    obtain ⟨C4, M4, a4, b4, c4, d4, h4⟩ := sim_put (x := p3) h3 c3 (by omega)
    obtain ⟨C5, M5, a5, b5, c5, d5, h5⟩ := sim_put (x := p4) h4 c4 (by omega)
    rw [if_neg r, t3, show (380 : Int32) = nI 380 from rfl, if_pos (nI_le (b := 380) hn (by omega)), a1, b1]
    refine ⟨nI (n + 4 + 4 + 4 + 4 + 4), C5, M5, ?_, ?_, h5⟩
    · simp only [Option.bind_some, a2, a3, a4, a5, c5]
    · simp only [Option.bind_some, b2, b3, b4, b5, d5]
  · have r : fX7_hasRoom 20 C = 0 := by
      unfold fX7_hasRoom
      rw [t2, show (20 : Int32) = nI 20 from rfl, show (400 : Int32) = nI 400 from rfl, nI_add, if_pos (nI_lt (a := 400) (b := n + 20) (by omega) (by omega))]
    rw [if_pos r, t3, show (380 : Int32) = nI 380 from rfl, if_neg (nI_ge (a := 380) (b := n) (by omega) (by omega))]
    exact ⟨_, _, _, rfl, rfl, h0⟩
