/-! ===== PURE: calls that ask for ages ===== -/
def AgE (C M : Mem) (nr np dy : Nat) (cd : List (Nat × Int32)) (ls : List (Nat × Nat × Nat)) : Prop := (C 0 0 6 = nI nr ∧ nr ≤ 12) ∧ (C 0 0 7 = nI np ∧ M 12 0 10 = nI np ∧ np ≤ 12) ∧ (C 0 0 8 = nI dy ∧ M 12 0 2 = nI dy ∧ dy ≤ 9999) ∧ RdR C M nr ∧ PpR C M nr np dy ∧ LwR' C M cd ls
theorem AgE.sc {C M C' M' : Mem} {nr np dy : Nat} {cd : List (Nat × Int32)} {ls : List (Nat × Nat × Nat)} (h : AgE C M nr np dy cd ls) (hc : sc C C') (hm : sm M M') : AgE C' M' nr np dy cd ls := by
  obtain ⟨⟨a1, a2⟩, ⟨b1, b2, b3⟩, ⟨d1, d2, d3⟩, e, f, g⟩ := h
  refine ⟨⟨?_, a2⟩, ⟨?_, ?_, b3⟩, ⟨?_, ?_, d3⟩, e.cg (fun i _ => hc 6 i (by omega)) a2 (hm.k 60 (by omega)) (hm.k 61 (by omega)) (hm.k 62 (by omega)) (hm.k 63 (by omega)) (hm.k 64 (by omega)), f.cg b3 (fun i hi => hc 5 i (by omega)) (fun i hi => ⟨hm.2.2 65 0 i (by omega) (by omega) (by omega), hm.2.2 66 0 i (by omega) (by omega) (by omega), hm.2.2 67 0 i (by omega) (by omega) (by omega), hm.2.2 68 0 i (by omega) (by omega) (by omega), hm.2.2 69 0 i (by omega) (by omega) (by omega), hm.2.2 70 0 i (by omega) (by omega) (by omega), by rw [hm.1 71 0 (by omega) (by omega)]⟩), g.cg (by rw [hc 3 0 (by omega)]) (hc 21 0 (by omega)) (hc 22 0 (by omega)) (hc 23 0 (by omega)) (hc 24 0 (by omega)) (hm.2.1 0 27 (by omega)) (hm.1 78 0 (by omega) (by omega)) (hm.1 79 0 (by omega) (by omega)) (hm.1 75 0 (by omega) (by omega)) (hm.1 76 0 (by omega) (by omega)) (hm.1 77 0 (by omega) (by omega))⟩
  · rw [hc 0 0 (by omega)]; exact a1
  · rw [hc 0 0 (by omega)]; exact b1
  · rw [hm.2.1 0 10 (by omega)]; exact b2
  · rw [hc 0 0 (by omega)]; exact d1
  · rw [hm.2.1 0 2 (by omega)]; exact d2
theorem Rel.agE {C M : Mem} (h : Rel C M) : ∃ nr np dy cd ls, AgE C M nr np dy cd ls := by
  obtain ⟨nr, np, dy, nl, nc, ⟨hCt, hRd, hPp, hBk, hCm, hLw⟩, hU, hT, hW, hF, hK⟩ := h
  obtain ⟨⟨c6, m3, hnr⟩, ⟨c7, m10, hnp⟩, ⟨c8, m2, hdy⟩, ⟨c9, c10⟩, ⟨c11, m18, hnl⟩, c24, m45, hnc⟩ := hCt
  obtain ⟨cd, ls, hL⟩ := hLw
  exact ⟨nr, np, dy, cd, ls, ⟨c6, hnr⟩, ⟨c7, m10, hnp⟩, ⟨c8, m2, hdy⟩, hRd, hPp, hL⟩
theorem sc.of {C C' : Mem} (h : ∀ k i, k ≠ 15 → k ≠ 25 → C' k i = C k i) : sc C C' := fun k i q => h k i (by omega) (by omega)
theorem sm.of {M M' : Mem} (h : ∀ k i, k ≠ 81 → k ≠ 82 → M' k i = M k i) : sm M M' := ⟨fun k i a b => h k i (by omega) (by omega), fun i j a => by rw [h 12 i (by omega) (by omega)], fun k i j a b c => by rw [h k i (by omega) (by omega)]⟩
theorem agv_cg {cd : List (Nat × Int32)} {ls : List (Nat × Nat × Nat)} {C C' : Mem} {v : Nat → Int32} {d : Int32} (h : C' 6 = C 6) : agv cd ls C' v d = agv cd ls C v d := by
  unfold agv yk fX6_yearsOn fX6_livesOn
  rw [h]
/-- the class finds the age, and changes scratch memory alone -/
theorem ag_C {C0 M0 C : Mem} {nr np dy b : Nat} {cd : List (Nat × Int32)} {ls : List (Nat × Nat × Nat)} {d : Int32} (h : AgE C0 M0 nr np dy cd ls) (hc : sc C0 C) (hq : ∃ q, q ≤ nr ∧ C 5 b 3 = nI q - 1) : ∃ C', fX0_ageOf b d C = some (agv cd ls C0 (C 5 b) d, C') ∧ sc C0 C' ∧ ∀ k i, k ≠ 15 → k ≠ 25 → C' k i = C k i := by
  obtain ⟨⟨a1, a2⟩, _, _, _, _, g⟩ := h.sc hc sm.rf
  obtain ⟨C', e1, e2⟩ := age_c (d := d) g a1 a2 hq
  rw [agv_cg (hc.k 6 (by omega))] at e1
  exact ⟨C', e1, hc.tr (sc.of e2), e2⟩
theorem ag_M {C0 M0 M : Mem} {nr np dy r d : Nat} {v : Nat → Int32} {cd : List (Nat × Int32)} {ls : List (Nat × Nat × Nat)} (h : AgE C0 M0 nr np dy cd ls) (hm : sm M0 M) (hr : r < 13) (hd : d ≤ 20000) (hq : ∃ q, q ≤ nr ∧ M 67 0 r = nI q) (h1 : v 1 = M 65 0 r) (h2 : v 2 = M 66 0 r) (h3 : v 3 = M 67 0 r - 1) (h4 : v 4 = M 68 0 r) (h5 : v 5 = M 69 0 r) (h6 : v 6 = M 70 0 r) : ∃ M', fX12_ageOf (nI r) (v 0) (nI d) M = some (agv cd ls C0 v (nI d), M') ∧ sm M0 M' ∧ ∀ k i, k ≠ 81 → k ≠ 82 → M' k i = M k i := by
  obtain ⟨⟨a1, a2⟩, _, _, e, _, g⟩ := h.sc sc.rf hm
  obtain ⟨M', e1, e2⟩ := age_m g a2 e hr hd hq h1 h2 h3 h4 h5 h6
  exact ⟨M', e1, hm.tr (sm.of e2), e2⟩
/-- the age of a paper that is there -/
theorem agP {C0 M0 : Mem} {nr np dy p d : Nat} {cd : List (Nat × Int32)} {ls : List (Nat × Nat × Nat)} (h : AgE C0 M0 nr np dy cd ls) (hp : p < np) (hd : d ≤ 20000) : ∃ a, a ≤ 999 ∧ (∀ C, sc C0 C → ∃ C', fX0_ageOf p (nI d) C = some (nI a, C') ∧ sc C0 C') ∧ ∀ M, sm M0 M → ∃ M', fX12_ageOf (nI p) (nI p) (nI d) M = some (nI a, M') ∧ sm M0 M' := by
  have h' := h
  obtain ⟨⟨a1, a2⟩, ⟨b1, b2, b3⟩, ⟨d1, d2, d3⟩, e, f, g⟩ := h'
  obtain ⟨⟨f0, f1, f2, f3, f4, f5, f6, f7⟩, f8, ⟨q, q1, q2⟩, f9⟩ := f p hp
  obtain ⟨a, ha, hv⟩ : ∃ a, a ≤ 999 ∧ agv cd ls C0 (C0 5 p) (nI d) = nI a := held_le _
  refine ⟨a, ha, fun C hc => ?_, fun M hm => ?_⟩
  · have e5 : C 5 p = C0 5 p := hc 5 p (by omega)
    obtain ⟨C', g1, g2, g3⟩ := ag_C (b := p) (d := nI d) h hc ⟨q, q1, by rw [e5, f3, q2]⟩
    rw [e5, hv] at g1
    exact ⟨C', g1, g2⟩
  · have em : ∀ k, 65 ≤ k → k ≤ 70 → M k 0 p = M0 k 0 p := fun k x y => hm.2.2 k 0 p x y (by omega)
    obtain ⟨M', g1, g2, g3⟩ := ag_M (v := C0 5 p) h hm (show p < 13 by omega) hd ⟨q, q1, by rw [em 67 (by omega) (by omega), q2]⟩ (by rw [em 65 (by omega) (by omega), f1]) (by rw [em 66 (by omega) (by omega), f2]) (by rw [em 67 (by omega) (by omega), f3]) (by rw [em 68 (by omega) (by omega), f4]) (by rw [em 69 (by omega) (by omega), f5]) (by rw [em 70 (by omega) (by omega), f6])
    rw [f0, hv] at g1
    exact ⟨M', g1, g2⟩
theorem sim_age {C M : Mem} (h : Rel C M) (p0 p1 : Int32) : ∃ r C' M', fX11_age p0 p1 C = some (r, C') ∧ fX12_age p0 p1 M = some (r, M') ∧ Rel C' M' := by
  have h0 := h.told
  unfold fX11_age fX12_age
  generalize up M 12 0 0 0 = M0 at h0 ⊢
  obtain ⟨nr, np, dy, cd, ls, hA⟩ := h0.agE
  have hA' := hA
  obtain ⟨_, ⟨c7, m10, hnp⟩, ⟨c8, m2, hdy⟩, _⟩ := hA'
  rcases paperAt_spec (x := p0) c7 hnp with ⟨e, ho⟩ | ⟨j, hj, rfl, e⟩
  · rw [e, isPaper_out m10 ho, if_pos rfl]
    exact ⟨_, _, _, rfl, rfl, h0⟩
  · rw [e, isPaper_in m10 hnp hj, if_neg (by decide), isIn_eq, bindS, mtS, c8, m2]
    by_cases a1 : fX11_within p1 (nI dy) 9999 = 0
    · rw [if_pos a1, if_pos a1]
      exact ⟨_, _, _, rfl, rfl, h0⟩
    · rw [if_neg a1, if_neg a1]
      obtain ⟨w1, w2⟩ := within_ne a1
      rw [i_le, nI_toInt (by omega)] at w1
      rw [i_le, show (9999 : Int32).toInt = 9999 by decide] at w2
      have e1 : p1 = nI p1.toInt.toNat := i_nI (by omega) (by omega)
      rw [e1]
      obtain ⟨a, ha, hc, hm⟩ := agP (d := p1.toInt.toNat) hA hj (by omega)
      obtain ⟨C', f1, f2⟩ := hc C sc.rf
      obtain ⟨M', f3, f4⟩ := hm M0 sm.rf
      rw [f1, f3, bdS, bdS]
      exact ⟨_, _, _, rfl, rfl, h0.sc f2 f4⟩
theorem stay_eq {C0 M0 : Mem} {nr np dy p : Nat} {cd : List (Nat × Int32)} {ls : List (Nat × Nat × Nat)} (h : AgE C0 M0 nr np dy cd ls) (hp : p < np) (x : Int32) : ∀ (fuel s : Nat) (C M : Mem), sc C0 C → sm M0 M → s ≤ 400 → 400 - s < fuel → ∃ r C' M', fX0_stayOf_12 fuel p x (nI s) C = some (r, C') ∧ fX12_staysFor_13 fuel (nI p) x (nI s) M = some (r, M') ∧ sc C0 C' ∧ sm M0 M' := by
  intro fuel
  induction fuel with
  | zero => intro s C M _ _ _ h; omega
  | succ fuel ih =>
    intro s C M hc hm h1 h2
    obtain ⟨_, _, ⟨c8, m2, hdy⟩, _⟩ := h.sc hc hm
    rw [fX0_stayOf_12, fX12_staysFor_13]
    by_cases e : s = 400
    · subst e
      rw [if_pos (by decide), if_pos (by decide)]
      exact ⟨_, _, _, rfl, rfl, hc, hm⟩
    · rw [if_neg (show ¬ (400 : Int32) ≤ nI s from nI_ge (b := 400) (by omega) (by omega)), if_neg (show ¬ (400 : Int32) ≤ nI s from nI_ge (b := 400) (by omega) (by omega)), c8, m2, nI_add, nI_1]
      obtain ⟨a, ha, fc, fm⟩ := agP (d := dy + s) h hp (by omega)
      obtain ⟨C', f1, f2⟩ := fc C hc
      obtain ⟨M', f3, f4⟩ := fm M hm
      rw [f1, f3, bdS, bdS]
      by_cases q : nI a = x
      · rw [if_pos q, if_pos q]
        exact ih (s + 1) C' M' f2 f4 (by omega) (by omega)
      · rw [if_neg q, if_neg q]
        exact ⟨_, _, _, rfl, rfl, f2, f4⟩
theorem sim_of {C M : Mem} (h : Rel C M) (p0 p1 : Int32) : ∃ r C' M', fX11_of p0 p1 C = some (r, C') ∧ fX12_of p0 p1 M = some (r, M') ∧ Rel C' M' := by
  have h0 := h.told
  unfold fX11_of fX12_of
  generalize up M 12 0 0 0 = M0 at h0 ⊢
  obtain ⟨nr, np, dy, cd, ls, hA⟩ := h0.agE
  have hA' := hA
  obtain ⟨_, ⟨c7, m10, hnp⟩, ⟨c8, m2, hdy⟩, _, hPp, _⟩ := hA'
  rcases paperAt_spec (x := p0) c7 hnp with ⟨e, ho⟩ | ⟨j, hj, rfl, e⟩
  · rw [e, isPaper_out m10 ho, if_pos rfl]
    exact ⟨_, _, _, rfl, rfl, h0⟩
  · obtain ⟨⟨f0, f1, f2, f3, f4, f5, f6, f7⟩, _⟩ := hPp j hj
    rw [e, isPaper_in m10 hnp hj, if_neg (by decide), bindS, mtS, ix_nI (show j < 13 by omega) (by omega), ix_nI (show j < 12 by omega) (by omega), f1, f2, f3, f4, f5, f6, f7]
    by_cases b0 : p1 = 0
    · rw [if_pos b0, if_pos b0]; exact ⟨_, _, _, rfl, rfl, h0⟩
    · rw [if_neg b0, if_neg b0]
      by_cases b1 : p1 = 1
      · rw [if_pos b1, if_pos b1]; exact ⟨_, _, _, rfl, rfl, h0⟩
      · rw [if_neg b1, if_neg b1]
        by_cases b2 : p1 = 2
        · rw [if_pos b2, if_pos b2]; exact ⟨_, _, _, rfl, rfl, h0⟩
        · rw [if_neg b2, if_neg b2]
          by_cases b3 : p1 = 3
          · rw [if_pos b3, if_pos b3]; exact ⟨_, _, _, rfl, rfl, h0⟩
          · rw [if_neg b3, if_neg b3]
            by_cases b4 : p1 = 4
            · rw [if_pos b4, if_pos b4]; exact ⟨_, _, _, rfl, rfl, h0⟩
            · rw [if_neg b4, if_neg b4]
              by_cases b5 : p1 = 5
              · rw [if_pos b5, if_pos b5]; exact ⟨_, _, _, rfl, rfl, h0⟩
              · rw [if_neg b5, if_neg b5]
                by_cases b6 : p1 = 6
                · rw [if_pos b6, if_pos b6]; exact ⟨_, _, _, rfl, rfl, h0⟩
                · rw [if_neg b6, if_neg b6]
                  by_cases b7 : p1 = 7
                  · rw [if_pos b7, if_pos b7]
                    unfold fX0_stayOf fX12_staysFor
                    rw [c8, m2]
                    obtain ⟨a, ha, fc, fm⟩ := agP (d := dy) hA hj (by omega)
                    obtain ⟨C', g1, g2⟩ := fc C sc.rf
                    obtain ⟨M', g3, g4⟩ := fm M0 sm.rf
                    rw [g1, g3, bdS, bdS]
                    obtain ⟨r, C'', M'', k1, k2, k3, k4⟩ := stay_eq hA hj (nI a) 5000 1 C' M' g2 g4 (by omega) (by omega)
                    rw [show fX0_stayOf_12 5000 j (nI a) 1 C' = _ from k1, show fX12_staysFor_13 5000 (nI j) (nI a) 1 M' = _ from k2, bdS, bdS]
                    exact ⟨_, _, _, rfl, rfl, h0.sc k3 k4⟩
                  · rw [if_neg b7, if_neg b7]
                    exact ⟨_, _, _, rfl, rfl, h0⟩
