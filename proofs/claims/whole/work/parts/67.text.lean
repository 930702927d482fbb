/-! ===== PURE: text ===== -/
theorem cpy_L {B : Mem} {m : Nat} (hm : m ≤ 16) : ∀ (fuel i : Nat) (S : Mem), i ≤ m → m - i < fuel → (∀ k x j, S k x j = if 75 ≤ k ∧ k ≤ 77 ∧ x = 0 ∧ j < i then B k 0 (16 + j) else B k x j) → ∃ S', fX12_text_69 fuel (nI m) (nI i) S = fX12_text_127 5000 (nI m) 0 S' ∧ ∀ k x j, S' k x j = if 75 ≤ k ∧ k ≤ 77 ∧ x = 0 ∧ j < m then B k 0 (16 + j) else B k x j := by
  intro fuel
  induction fuel with
  | zero => intro i S _ h; omega
  | succ fuel ih =>
    intro i S hi hf hS
    rw [fX12_text_69]
    by_cases e : i = m
    · subst e
      rw [if_pos (Int32.le_refl _)]
      exact ⟨S, rfl, hS⟩
    · rw [if_neg (nI_ge (by omega) (by omega)), show (16 : Int32) = nI 16 from rfl, nI_add, ix_nI (by omega) (by omega), bindS, ix_nI (by omega) (by omega), bindS, nI_1]
      refine ih (i + 1) _ (by omega) (by omega) (fun k x j => ?_)
      rw [upk (show (76 : Nat) ≠ 75 by omega), upk (show (77 : Nat) ≠ 76 by omega), upk (show (77 : Nat) ≠ 75 by omega), hS 75 0 (16 + i), hS 76 0 (16 + i), hS 77 0 (16 + i), if_neg (by omega), if_neg (by omega), if_neg (by omega)]
      simp only [up]
      by_cases h77 : k = 77 ∧ x = 0 ∧ j = i
      · obtain ⟨rfl, rfl, rfl⟩ := h77
        rw [if_pos (by omega), if_pos (by omega)]
      · rw [if_neg h77]
        by_cases h76 : k = 76 ∧ x = 0 ∧ j = i
        · obtain ⟨rfl, rfl, rfl⟩ := h76
          rw [if_pos (by omega), if_pos (by omega)]
        · rw [if_neg h76]
          by_cases h75 : k = 75 ∧ x = 0 ∧ j = i
          · obtain ⟨rfl, rfl, rfl⟩ := h75
            rw [if_pos (by omega), if_pos (by omega)]
          · rw [if_neg h75, hS k x j]
            by_cases q : 75 ≤ k ∧ k ≤ 77 ∧ x = 0 ∧ j < i
            · rw [if_pos q, if_pos (by omega)]
            · rw [if_neg q, if_neg (by omega)]
theorem cpy_K {B : Mem} {m c : Nat} (hc : c ≤ 400) (hB : B 12 0 33 = nI c) : ∀ (fuel i : Nat) (S : Mem), i ≤ c → c - i < fuel → (∀ k x j, S k x j = if 78 ≤ k ∧ k ≤ 79 ∧ x = 0 ∧ j < i then B k 0 (400 + j) else B k x j) → ∃ S', fX12_text_127 fuel (nI m) (nI i) S = some (nI m, up S' 12 0 27 (nI m)) ∧ ∀ k x j, S' k x j = if 78 ≤ k ∧ k ≤ 79 ∧ x = 0 ∧ j < c then B k 0 (400 + j) else B k x j := by
  intro fuel
  induction fuel with
  | zero => intro i S _ h; omega
  | succ fuel ih =>
    intro i S hi hf hS
    have h33 : S 12 0 33 = nI c := by rw [hS 12 0 33, if_neg (by omega)]; exact hB
    rw [fX12_text_127, h33]
    by_cases e : i = c
    · subst e
      rw [if_pos (Int32.le_refl _)]
      exact ⟨S, rfl, hS⟩
    · rw [if_neg (nI_ge (by omega) (by omega)), show (400 : Int32) = nI 400 from rfl, nI_add, ix_nI (by omega) (by omega), bindS, ix_nI (by omega) (by omega), bindS, nI_1]
      refine ih (i + 1) _ (by omega) (by omega) (fun k x j => ?_)
      rw [upk (show (79 : Nat) ≠ 78 by omega), hS 78 0 (400 + i), hS 79 0 (400 + i), if_neg (by omega), if_neg (by omega)]
      simp only [up]
      by_cases h79 : k = 79 ∧ x = 0 ∧ j = i
      · obtain ⟨rfl, rfl, rfl⟩ := h79
        rw [if_pos (by omega), if_pos (by omega)]
      · rw [if_neg h79]
        by_cases h78 : k = 78 ∧ x = 0 ∧ j = i
        · obtain ⟨rfl, rfl, rfl⟩ := h78
          rw [if_pos (by omega), if_pos (by omega)]
        · rw [if_neg h78, hS k x j]
          by_cases q : 78 ≤ k ∧ k ≤ 79 ∧ x = 0 ∧ j < i
          · rw [if_pos q, if_pos (by omega)]
          · rw [if_neg q, if_neg (by omega)]
theorem some_lt {α : Type} {l : List α} {k : Nat} {q : α} (h : l[k]? = some q) : k < l.length := by
  rcases Nat.lt_or_ge k l.length with z | z
  · exact z
  · rw [List.getElem?_eq_none z] at h; cases h
theorem sim_text {C M : Mem} (h : Rel C M) : ∃ r C' M', fX11_text C = some (r, C') ∧ fX12_text M = some (r, M') ∧ Rel C' M' := by
  obtain ⟨nr, np, dy, nl, nc, hCo, hU, ⟨n, hn, t1, t2, t3⟩, hW, hF, hK⟩ := h
  have hbb : ∃ bb : Nat → Nat, ∀ j, j < n → bb j < 256 ∧ M 73 0 j = nI (bb j) ∧ C 27 0 j &&& 255 = nI (bb j) := by
    refine ⟨fun j => if hj : j < n then Classical.choose (t3 j hj) else 0, fun j hj => ?_⟩
    simp only [dif_pos hj]
    exact Classical.choose_spec (t3 j hj)
  obtain ⟨bb, hbb⟩ := hbb
  have hb : ∀ j, j < n → bb j < 256 := fun j hj => (hbb j hj).1
  unfold fX11_text fX12_text fX4_readAll fX12_readText
  have hS0 : ∀ k i j, ¬ (k = 12 ∧ i = 0 ∧ (j = 0 ∨ j = 22 ∨ j = 33 ∨ j = 34 ∨ j = 39 ∨ j = 40)) → up (up (up (up (up (up M 12 0 0 0) 12 0 39 0) 12 0 40 (-1)) 12 0 22 0) 12 0 33 0) 12 0 34 0 k i j = M k i j := fun k i j hh => by
    simp only [up]
    rw [if_neg (by omega), if_neg (by omega), if_neg (by omega), if_neg (by omega), if_neg (by omega), if_neg (by omega)]
  have h22 : up (up (up (up (up (up M 12 0 0 0) 12 0 39 0) 12 0 40 (-1)) 12 0 22 0) 12 0 33 0) 12 0 34 0 12 0 22 = 0 := by rw [upj (by omega), upj (by omega), up_at]
  have h33 : up (up (up (up (up (up M 12 0 0 0) 12 0 39 0) 12 0 40 (-1)) 12 0 22 0) 12 0 33 0) 12 0 34 0 12 0 33 = 0 := by rw [upj (by omega), up_at]
  have h34 : up (up (up (up (up (up M 12 0 0 0) 12 0 39 0) 12 0 40 (-1)) 12 0 22 0) 12 0 33 0) 12 0 34 0 12 0 34 = 0 := up_at
  have h39 : up (up (up (up (up (up M 12 0 0 0) 12 0 39 0) 12 0 40 (-1)) 12 0 22 0) 12 0 33 0) 12 0 34 0 12 0 39 = 0 := by rw [upj (by omega), upj (by omega), upj (by omega), upj (by omega), up_at]
  have h40 : up (up (up (up (up (up M 12 0 0 0) 12 0 39 0) 12 0 40 (-1)) 12 0 22 0) 12 0 33 0) 12 0 34 0 12 0 40 = -1 := by rw [upj (by omega), upj (by omega), upj (by omega), up_at]
  generalize up (up (up (up (up (up M 12 0 0 0) 12 0 39 0) 12 0 40 (-1)) 12 0 22 0) 12 0 33 0) 12 0 34 0 = M0 at hS0 h22 h33 h34 h39 h40 ⊢
  have hTM : TM bb n M0 := ⟨by rw [hS0 12 0 21 (by omega)]; exact t2, fun j hj => by rw [hS0 73 0 j (by omega)]; exact (hbb j hj).2.1, hW.cg (funext fun j => hS0 74 0 j (by omega))⟩
  obtain ⟨M2, r1, r2, r3, r4, r5⟩ := tok_m (a := 0) hn hb hTM h22 (by omega)
  rw [r1, bindS]
  have hMA : MA bb n M0 M2 0 [] := ⟨hTM.fr r5, ⟨r2, r3, r4⟩, ⟨by rw [r5.2 0 33 (by omega)]; exact h33, fun k q hk => by cases hk⟩, fun k i j q1 q2 q3 q4 => r5.a k i j (by omega) (by omega)⟩
  have hm34 : M2 12 0 34 = 0 := by rw [r5.2 0 34 (by omega)]; exact h34
  have fB : ∀ k i, ¬ (i = 0 ∧ (k = 4 ∨ k = 9)) → ¬ (i = 2 ∧ k = 3) → fX4_begin C k i = C k i := fun k i q1 q2 => by
    unfold fX4_begin fX9_begin fX3_clear
    rw [upf (by omega), upf (by omega), upf (by omega), upf (by omega), upf (by omega), upf (by omega), upf (by omega), upf (by omega), upf (by omega)]
  have hCS : CS bb n C (fX4_begin C) 0 [] 0 0 [] [] (fX4_begin C 22 2 0) (fX4_begin C 23 2 0) := by
    refine ⟨⟨by rw [fB 7 0 (by omega) (by omega)]; exact t1, fun j hj => by rw [fB 27 0 (by omega) (by omega)]; exact (hbb j hj).2.2⟩, ?_, ⟨?_, True.intro⟩, ⟨?_, ?_⟩, ⟨?_, ?_, ?_⟩, ⟨?_, fun k q hk => by cases hk⟩, ⟨?_, fun k q hk => by cases hk⟩, ⟨rfl, rfl⟩, fun k i q1 q2 => fB k i (by omega) (by omega)⟩
    all_goals (unfold fX4_begin fX9_begin fX3_clear; simp [up]; try rfl)
  have hK0 : fX4_readAll_6 5000 0 (fX4_begin C) = KR (fX4_begin C) 0 := by
    unfold KR
    rw [Nat.sub_zero, show nI 0 = 0 from rfl]
  rw [hK0]
  have hm0 : M2 12 0 44 = M 12 0 44 := by rw [r5.2 0 44 (by omega), hS0 12 0 44 (by omega)]
  rcases text_loop hn hb 5000 (fX4_begin C) M2 0 0 0 [] [] _ _ 0 rfl hCS hMA hm34 (fun l q hl => by cases hl) (fun l q hl => by cases hl) (by simp) (by simp) (by omega) (by omega) (by omega) with ⟨C', M', cd, ls, g1, g2, g3, g4, g5, g6, g7, g8, g9, g10, g11, g12⟩ | ⟨why, pl, C', M', b1, b2, ⟨b3, b4⟩, ⟨c1, c2, c3⟩, ⟨m1, m2, m3⟩⟩
  · rw [g1, g2, bdS, bdS, if_neg (show ¬ (1 : Int32) = 0 by decide), if_neg (show ¬ nI ls.length = -1 from nI_ne_m1 (by omega))]
    obtain ⟨S1, s1, s2⟩ := cpy_L (B := up M' 12 0 21 0) g11 5000 0 (up M' 12 0 21 0) (by omega) (by omega) (fun k x j => by rw [if_neg (by omega)])
    obtain ⟨S2, s3, s4⟩ := cpy_K (B := S1) (m := ls.length) g12 (by rw [s2 12 0 33, if_neg (by omega), upj (by omega)]; exact g7.1) 5000 0 S1 (by omega) (by omega) (fun k x j => by rw [if_neg (by omega)])
    rw [show fX12_text_69 5000 (nI ls.length) 0 (up M' 12 0 21 0) = _ from s1, show fX12_text_127 5000 (nI ls.length) 0 S1 = _ from s3]
    obtain ⟨p1, p2, p3, p4, p5⟩ := copy3 (S := up C' 7 0 1 0) (show 0 ≠ 2 by decide)
    refine ⟨nI ls.length, fX3_copyFrom 0 2 (up C' 7 0 1 0), up S2 12 0 27 (nI ls.length), ?_, rfl, ?_⟩
    · rw [p3, upk (by omega), g4.1]
    · have FM : ∀ k i j, ¬ (k = 12 ∧ i = 0 ∧ (j = 0 ∨ (21 ≤ j ∧ j ≤ 25) ∨ j = 27 ∨ j = 33 ∨ j = 34 ∨ (36 ≤ j ∧ j ≤ 40))) → ¬ (75 ≤ k ∧ k ≤ 80) → up S2 12 0 27 (nI ls.length) k i j = M k i j := fun k i j q1 q2 => by
        rw [show up S2 12 0 27 (nI ls.length) k i j = S2 k i j by simp only [up]; rw [if_neg (by omega)], s4 k i j, if_neg (by omega), s2 k i j, if_neg (by omega), show up M' 12 0 21 0 k i j = M' k i j by simp only [up]; rw [if_neg (by omega)], g9 k i j (by omega) (by omega) (by omega) (by omega), hS0 k i j (by omega)]
      have FC : ∀ k i, ¬ (i = 0 ∧ (k = 4 ∨ k = 9 ∨ k = 26 ∨ k = 7)) → ¬ ((i = 0 ∨ i = 2) ∧ (k = 3 ∨ (21 ≤ k ∧ k ≤ 24))) → fX3_copyFrom 0 2 (up C' 7 0 1 0) k i = C k i := fun k i q1 q2 => by
        rw [p5 k i (by omega), upf (by omega), g5 k i (by omega) (by omega)]
      have FMk : ∀ k, k ≠ 12 → ¬ (75 ≤ k ∧ k ≤ 80) → up S2 12 0 27 (nI ls.length) k = M k := fun k q1 q2 => funext fun i => funext fun j => FM k i j (by omega) q2
      have F75 : ∀ k j, 75 ≤ k → k ≤ 77 → j < ls.length → up S2 12 0 27 (nI ls.length) k 0 j = M' k 0 (16 + j) := fun k j q1 q2 q3 => by
        rw [show up S2 12 0 27 (nI ls.length) k 0 j = S2 k 0 j by simp only [up]; rw [if_neg (by omega)], s4 k 0 j, if_neg (by omega), s2 k 0 j, if_pos (by omega), upk (by omega)]
      have F78 : ∀ k j, 78 ≤ k → k ≤ 79 → j < cd.length → up S2 12 0 27 (nI ls.length) k 0 j = M' k 0 (400 + j) := fun k j q1 q2 q3 => by
        rw [show up S2 12 0 27 (nI ls.length) k 0 j = S2 k 0 j by simp only [up]; rw [if_neg (by omega)], s4 k 0 j, if_pos (by omega), s2 k 0 (400 + j), if_neg (by omega), upk (by omega)]
      have F27 : up S2 12 0 27 (nI ls.length) 12 0 27 = nI ls.length := up_at
      have F21 : up S2 12 0 27 (nI ls.length) 12 0 21 = 0 := by
        rw [upj (by omega), s4 12 0 21, if_neg (by omega), s2 12 0 21, if_neg (by omega), up_at]
      have F39 : ∀ j, 39 ≤ j → j ≤ 40 → up S2 12 0 27 (nI ls.length) 12 0 j = M0 12 0 j := fun j q1 q2 => by
        rw [upj (by omega), s4 12 0 j, if_neg (by omega), s2 12 0 j, if_neg (by omega), upj (by omega), g9 12 0 j (by omega) (by omega) (by omega) (by omega)]
      have C3 : fX3_copyFrom 0 2 (up C' 7 0 1 0) 3 0 6 = nI ls.length := by rw [p3, upk (by omega)]; exact g4.1
      have C21 : ∀ j, j < 400 → fX3_copyFrom 0 2 (up C' 7 0 1 0) 21 0 j = C' 21 2 j := fun j hj => by rw [p1 j hj, upk (by omega)]
      have C22 : ∀ k j, 22 ≤ k → k ≤ 24 → j < 16 → fX3_copyFrom 0 2 (up C' 7 0 1 0) k 0 j = C' k 2 j := fun k j q1 q2 q3 => by rw [p2 k j q1 q2 q3, upk (by omega)]
      have C4 : fX3_copyFrom 0 2 (up C' 7 0 1 0) 4 0 = C' 4 0 := by rw [p5 4 0 (by omega), upk (by omega)]
      have C7 : fX3_copyFrom 0 2 (up C' 7 0 1 0) 7 0 1 = 0 := by rw [p5 7 0 (by omega), up_at]
      generalize fX3_copyFrom 0 2 (up C' 7 0 1 0) = CF at FC C3 C21 C22 C4 C7 ⊢
      generalize up S2 12 0 27 (nI ls.length) = MF at FM FMk F75 F78 F27 F21 F39 ⊢
      obtain ⟨a1, a2, a3, a4, a5, a6⟩ := hCo
      have hnr : nr ≤ 12 := a1.1.2.2
      have hnp : np ≤ 12 := a1.2.1.2.2
      refine ⟨nr, np, dy, nl, nc, ⟨?_, ?_, ?_, ?_, ?_, cd, ls, g12, g11, C3, F27, fun k q hk => ?_, fun l q hl => ?_⟩, ?_, ⟨0, by omega, C7, F21, fun j hj => absurd hj (by omega)⟩, ?_, ⟨?_, ?_⟩, ?_⟩
      · unfold CtR
        rw [FC 0 0 (by omega) (by omega), FC 1 0 (by omega) (by omega), FC 2 0 (by omega) (by omega), FM 12 0 1 (by omega) (by omega), FM 12 0 2 (by omega) (by omega), FM 12 0 3 (by omega) (by omega), FM 12 0 9 (by omega) (by omega), FM 12 0 10 (by omega) (by omega), FM 12 0 18 (by omega) (by omega), FM 12 0 45 (by omega) (by omega)]
        exact a1
      · exact a2.cg (fun i _ => FC 6 i (by omega) (by omega)) hnr (FMk 60 (by omega) (by omega)) (FMk 61 (by omega) (by omega)) (FMk 62 (by omega) (by omega)) (FMk 63 (by omega) (by omega)) (FMk 64 (by omega) (by omega))
      · exact a3.cg hnp (fun i _ => FC 5 i (by omega) (by omega)) (fun i _ => by rw [FMk 65 (by omega) (by omega), FMk 66 (by omega) (by omega), FMk 67 (by omega) (by omega), FMk 68 (by omega) (by omega), FMk 69 (by omega) (by omega), FMk 70 (by omega) (by omega), FMk 71 (by omega) (by omega)]; exact ⟨rfl, rfl, rfl, rfl, rfl, rfl, rfl⟩)
      · exact a4.cg (FC 16 0 (by omega) (by omega)) (by rw [FMk 72 (by omega) (by omega)])
      · exact a5.cg (FC 17 0 (by omega) (by omega)) (FC 18 0 (by omega) (by omega)) (FC 19 0 (by omega) (by omega)) (FC 20 0 (by omega) (by omega)) (by rw [FMk 84 (by omega) (by omega)]) (by rw [FMk 85 (by omega) (by omega)]) (by rw [FMk 86 (by omega) (by omega)]) (by rw [FMk 87 (by omega) (by omega)])
      · have hlt := some_lt hk
        rw [C21 k (by omega), F78 78 k (by omega) (by omega) hlt, F78 79 k (by omega) (by omega) hlt]
        exact ⟨g3.2 k q hk, g7.2 k q hk⟩
      · have hlt := some_lt hl
        rw [C22 22 l (by omega) (by omega) (by omega), C22 23 l (by omega) (by omega) (by omega), C22 24 l (by omega) (by omega) (by omega), F75 75 l (by omega) (by omega) hlt, F75 76 l (by omega) (by omega) hlt, F75 77 l (by omega) (by omega) hlt]
        obtain ⟨x1, x2, x3⟩ := g4.2 l q hl
        obtain ⟨y1, y2, y3⟩ := g8 l q hl
        exact ⟨x1, x2, x3, y1, y2, y3, g10 l q hl⟩
      · exact hU.cg (Nat.le_refl _) (Nat.le_refl _) hnp (FC 10 0 (by omega) (by omega)) (fun i _ => FC 5 i (by omega) (by omega)) (FC 30 0 (by omega) (by omega)) (FM 12 0 44 (by omega) (by omega)) (by rw [FMk 83 (by omega) (by omega)])
      · exact hW.cg (by rw [FMk 74 (by omega) (by omega)])
      · rw [C4, F39 39 (by omega) (by omega), h39]; exact g6.1
      · rw [C4, F39 40 (by omega) (by omega), h40]; exact g6.2
      · exact hK.cg (by rw [FC 11 0 (by omega) (by omega)]) (FM 12 0 52 (by omega) (by omega)) (by rw [FMk 89 (by omega) (by omega)]) (fun k i q1 q2 q3 => FC k i (by omega) (by omega))
  · rw [b1, b2, bdS, bdS, if_pos (show (0 : Int32) = 0 from rfl), if_pos (show (-1 : Int32) = -1 from rfl)]
    refine ⟨_, _, _, rfl, rfl, ?_⟩
    have FM : ∀ k i j, ¬ (k = 12 ∧ i = 0 ∧ (j = 0 ∨ (21 ≤ j ∧ j ≤ 25) ∨ j = 33 ∨ j = 34 ∨ (36 ≤ j ∧ j ≤ 40))) → ¬ (75 ≤ k ∧ k ≤ 77 ∧ 16 ≤ j) → ¬ (78 ≤ k ∧ k ≤ 79 ∧ 400 ≤ j) → k ≠ 80 → up (up (up M' 12 0 21 0) 12 0 39 ((up M' 12 0 21 0) 12 0 37)) 12 0 40 ((up (up M' 12 0 21 0) 12 0 39 ((up M' 12 0 21 0) 12 0 37)) 12 0 38) k i j = M k i j := fun k i j q1 q2 q3 q4 => by
      have : ∀ u v : Int32, up (up (up M' 12 0 21 0) 12 0 39 u) 12 0 40 v k i j = M' k i j := fun u v => by
        simp only [up]
        rw [if_neg (by omega), if_neg (by omega), if_neg (by omega)]
      rw [this, m3 k i j (by omega) (by omega) (by omega) (by omega), hS0 k i j (by omega)]
    have F39 : up (up (up M' 12 0 21 0) 12 0 39 ((up M' 12 0 21 0) 12 0 37)) 12 0 40 ((up (up M' 12 0 21 0) 12 0 39 ((up M' 12 0 21 0) 12 0 37)) 12 0 38) 12 0 39 = nI why := by rw [upj (by omega), up_at, upj (by omega)]; exact m1
    have F40 : up (up (up M' 12 0 21 0) 12 0 39 ((up M' 12 0 21 0) 12 0 37)) 12 0 40 ((up (up M' 12 0 21 0) 12 0 39 ((up M' 12 0 21 0) 12 0 37)) 12 0 38) 12 0 40 = nI pl := by rw [up_at, upj (by omega), upj (by omega)]; exact m2
    have F21 : up (up (up M' 12 0 21 0) 12 0 39 ((up M' 12 0 21 0) 12 0 37)) 12 0 40 ((up (up M' 12 0 21 0) 12 0 39 ((up M' 12 0 21 0) 12 0 37)) 12 0 38) 12 0 21 = 0 := by rw [upj (by omega), upj (by omega), up_at]
    generalize up (up (up M' 12 0 21 0) 12 0 39 ((up M' 12 0 21 0) 12 0 37)) 12 0 40 ((up (up M' 12 0 21 0) 12 0 39 ((up M' 12 0 21 0) 12 0 37)) 12 0 38) = MF at FM F39 F40 F21 ⊢
    have FC : ∀ k i, ¬ (i = 0 ∧ (k = 4 ∨ k = 9 ∨ k = 26 ∨ k = 7)) → ¬ (i = 2 ∧ (k = 3 ∨ (21 ≤ k ∧ k ≤ 24))) → up C' 7 0 1 0 k i = C k i := fun k i q1 q2 => by
      rw [upf (by omega), c3 k i (by omega) (by omega)]
    have C4 : up C' 7 0 1 0 4 0 = C' 4 0 := by rw [upk (by omega)]
    have C7 : up C' 7 0 1 0 7 0 1 = 0 := up_at
    generalize up C' 7 0 1 0 = CF at FC C4 C7 ⊢
    have hnp : np ≤ 12 := hCo.1.2.1.2.2
    refine ⟨nr, np, dy, nl, nc, hCo.ag ?_ ?_, ?_, ⟨0, by omega, C7, F21, fun j hj => absurd hj (by omega)⟩, ?_, ⟨?_, ?_⟩, ?_⟩
    · exact ⟨fun j _ _ => by rw [FC 0 0 (by omega) (by omega)], by rw [FC 1 0 (by omega) (by omega)], by rw [FC 2 0 (by omega) (by omega)], by rw [FC 3 0 (by omega) (by omega)], fun i j _ _ => by rw [FC 5 i (by omega) (by omega)], fun i j _ _ => by rw [FC 6 i (by omega) (by omega)], fun j _ => by rw [FC 16 0 (by omega) (by omega)], fun k j _ _ _ => by rw [FC k 0 (by omega) (by omega)], fun j _ => by rw [FC 21 0 (by omega) (by omega)], fun k j _ _ _ => by rw [FC k 0 (by omega) (by omega)]⟩
    · exact ⟨fun j hj => FM 12 0 j (by omega) (by omega) (by omega) (by omega), fun k j _ _ _ => FM k 0 j (by omega) (by omega) (by omega) (by omega), fun j _ => FM 72 0 j (by omega) (by omega) (by omega) (by omega), fun k j _ _ _ => FM k 0 j (by omega) (by omega) (by omega) (by omega), fun k j _ _ _ => FM k 0 j (by omega) (by omega) (by omega) (by omega), fun k j _ _ _ => FM k 0 j (by omega) (by omega) (by omega) (by omega)⟩
    · exact hU.cg (Nat.le_refl _) (Nat.le_refl _) hnp (FC 10 0 (by omega) (by omega)) (fun i _ => FC 5 i (by omega) (by omega)) (FC 30 0 (by omega) (by omega)) (FM 12 0 44 (by omega) (by omega) (by omega) (by omega)) (funext fun j => FM 83 0 j (by omega) (by omega) (by omega) (by omega))
    · exact hW.cg (funext fun j => FM 74 0 j (by omega) (by omega) (by omega) (by omega))
    · rw [C4, F39]; exact c1
    · rw [C4, F40]; exact c2
    · exact hK.cg (by rw [FC 11 0 (by omega) (by omega)]) (FM 12 0 52 (by omega) (by omega) (by omega) (by omega)) (funext fun j => FM 89 0 j (by omega) (by omega) (by omega) (by omega)) (fun k i q1 q2 q3 => FC k i (by omega) (by omega))
