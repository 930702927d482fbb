/-! ===== PURE: one token, on both sides ===== -/
noncomputable def tkE (bb : Nat → Nat) (n p : Nat) : Nat := if p < n then (if ltB (bb p) = true then rn (fun i => ltB (bb i)) (n - p) p else if dgB (bb p) = true then rn (fun i => dgB (bb i)) (n - p) p else p + 1) else p
noncomputable def tkK (bb : Nat → Nat) (n p : Nat) : Nat := if p < n then (if ltB (bb p) = true then (match fw bb p (rn (fun i => ltB (bb i)) (n - p) p) lens 0 0 with | some w => 3 + w | none => 1) else if dgB (bb p) = true then (if rn (fun i => dgB (bb i)) (n - p) p - p ≤ 4 then 2 else 1) else sgk (bb p)) else 0
noncomputable def tkV (bb : Nat → Nat) (n p : Nat) : Nat := nv bb p (rn (fun i => dgB (bb i)) (n - p) p - p)
theorem fw_lt {bb : Nat → Nat} {p e : Nat} : ∀ (ws : List Nat) (w st k : Nat), fw bb p e ws w st = some k → w ≤ k ∧ k < w + ws.length
  | [], _, _, _, h => by cases h
  | l :: t, w, st, k, h => by
    unfold fw at h
    split at h
    · cases h
      simp
    · have := fw_lt t (w + 1) (st + l + 1) k h
      simp
      omega
theorem tk_fact {bb : Nat → Nat} {n p : Nat} (hb : ∀ j, j < n → bb j < 256) (hp : p ≤ n) : p ≤ tkE bb n p ∧ tkE bb n p ≤ n ∧ (tkK bb n p ≠ 0 → p < tkE bb n p) ∧ tkK bb n p ≤ 26 ∧ (tkK bb n p = 2 → tkV bb n p ≤ 9999) ∧ (tkK bb n p = 0 ↔ p = n) := by
  unfold tkE tkK tkV
  by_cases h : p < n
  · rw [if_pos h, if_pos h]
    have b1 : ∀ P : Nat → Bool, P p = true → p < rn P (n - p) p ∧ rn P (n - p) p ≤ n := by
      intro P hP
      have h1 := rn_le (P := P) (n - p) p
      have h2 := rn_end (P := P) (n - p) p
      refine ⟨?_, by omega⟩
      rcases h2 with h2 | h2
      · omega
      · by_cases e : rn P (n - p) p = p
        · rw [e, hP] at h2; cases h2
        · omega
    by_cases l : ltB (bb p) = true
    · rw [if_pos l, if_pos l]
      have hb1 := b1 (fun i => ltB (bb i)) l
      have hk : ∀ o : Option Nat, o = fw bb p (rn (fun i => ltB (bb i)) (n - p) p) lens 0 0 → (match o with | some w => 3 + w | none => 1) ≤ 16 ∧ (match o with | some w => 3 + w | none => 1) ≠ 0 ∧ (match o with | some w => 3 + w | none => 1) ≠ 2 := by
        intro o ho
        cases o with
        | none => exact ⟨by decide, by decide, by decide⟩
        | some w =>
          have := (fw_lt lens 0 0 w ho.symm).2
          simp [lens] at this
          refine ⟨?_, ?_, ?_⟩ <;> show _ <;> simp <;> omega
      obtain ⟨k1, k2, k3⟩ := hk _ rfl
      exact ⟨by omega, hb1.2, fun _ => hb1.1, by omega, fun q => absurd q k3, ⟨fun q => absurd q k2, fun q => by omega⟩⟩
    · rw [if_neg l, if_neg l]
      by_cases d : dgB (bb p) = true
      · rw [if_pos d, if_pos d]
        have hb1 := b1 (fun i => dgB (bb i)) d
        refine ⟨by omega, hb1.2, fun _ => hb1.1, by split <;> omega, fun q => ?_, ⟨fun q => by split at q <;> omega, fun q => by omega⟩⟩
        split at q
        · rename_i h4
          refine nv_le h4 (fun i hi => ?_)
          exact rn_in (P := fun i => dgB (bb i)) (n - p) p (p + i) (by omega) (by omega)
        · cases q
      · rw [if_neg d, if_neg d]
        have h3 := (sgk_all (bb p) (hb p h)).2.2
        exact ⟨by omega, by omega, fun _ => by omega, by omega, fun q => by omega, ⟨fun q => by omega, fun q => by omega⟩⟩
  · rw [if_neg h, if_neg h]
    exact ⟨Nat.le_refl _, hp, fun q => absurd rfl q, by omega, fun q => absurd q (by decide), ⟨fun _ => by omega, fun _ => rfl⟩⟩
theorem let_c {bb : Nat → Nat} {n : Nat} (hn : n ≤ 400) (hb : ∀ j, j < n → bb j < 256) : ∀ (f fuel a : Nat) (C : Mem), TC bb n C → C 9 0 1 = nI a → a + f = n → f < fuel → ∃ C', fX9_takeWord_0 fuel C = fX9_takeWord_38 C' ∧ C' 9 0 1 = nI (rn (fun i => ltB (bb i)) f a) ∧ C' 9 0 0 = C 9 0 0 ∧ frC9 C C' := by
  intro f
  induction f with
  | zero =>
    intro fuel a C hT h1 ha hf
    obtain ⟨m, rfl⟩ : ∃ m, fuel = m + 1 := ⟨fuel - 1, by omega⟩
    rw [fX9_takeWord_0, hT.1, h1, if_pos (nI_le (by omega) (by omega))]
    exact ⟨C, rfl, h1, rfl, frC9.rf⟩
  | succ f ih =>
    intro fuel a C hT h1 ha hf
    obtain ⟨m, rfl⟩ : ∃ m, fuel = m + 1 := ⟨fuel - 1, by omega⟩
    rw [fX9_takeWord_0, hT.1, h1, if_neg (nI_ge (by omega) (by omega)), sgn_c hT hn (by omega), bindS, if_pos (show a < n by omega), (letter_all (bb a) (hb a (by omega))).1]
    unfold rn
    cases hB : ltB (bb a) with
    | true =>
      rw [if_pos rfl, if_neg (by decide), nI_1, if_pos rfl]
      obtain ⟨C', e1, e2, e3, e4⟩ := ih m (a + 1) (up C 9 0 1 (nI (a + 1))) (hT.fr frC9.u) up_at (by omega) (by omega)
      exact ⟨C', e1, e2, by rw [e3, upj (by omega)], frC9.u.tr e4⟩
    | false =>
      rw [if_neg (show ¬ false = true by decide), if_pos rfl, if_neg (show ¬ false = true by decide)]
      exact ⟨C, rfl, h1, rfl, frC9.rf⟩
theorem let_m {bb : Nat → Nat} {n : Nat} (hn : n ≤ 400) (hb : ∀ j, j < n → bb j < 256) : ∀ (f fuel a : Nat) (M : Mem), TM bb n M → M 12 0 22 = nI a → a + f = n → f < fuel → ∃ M', fX12_reads_95 fuel M = ((fX12_wordAt (M' 12 0 23) (M' 12 0 22) M').bind fun r24 => if ((up M' 12 0 25 r24) 12 0 25) = (-1) then some (up M' 12 0 25 r24) else some (up (up M' 12 0 25 r24) 12 0 24 2)) ∧ M' 12 0 22 = nI (rn (fun i => ltB (bb i)) f a) ∧ M' 12 0 23 = M 12 0 23 ∧ M' 12 0 24 = M 12 0 24 ∧ frM22 M M' := by
  intro f
  induction f with
  | zero =>
    intro fuel a M hT h1 ha hf
    obtain ⟨m, rfl⟩ : ∃ m, fuel = m + 1 := ⟨fuel - 1, by omega⟩
    rw [fX12_reads_95, h1, raw_m hT hn (by omega), bindS, if_neg (show ¬ a < n by omega), if_pos (by decide)]
    exact ⟨M, by rw [h1], h1, rfl, rfl, frM22.rf⟩
  | succ f ih =>
    intro fuel a M hT h1 ha hf
    obtain ⟨m, rfl⟩ : ∃ m, fuel = m + 1 := ⟨fuel - 1, by omega⟩
    rw [fX12_reads_95, h1, raw_m hT hn (by omega), bindS, if_pos (show a < n by omega), isLetter_eq, (letter_all (bb a) (hb a (by omega))).1]
    unfold rn
    cases hB : ltB (bb a) with
    | true =>
      rw [if_pos rfl, if_neg (by decide), nI_1, if_pos rfl]
      obtain ⟨M', e1, e2, e3, e4, e5⟩ := ih m (a + 1) (up M 12 0 22 (nI (a + 1))) (hT.fr (frM22.u (by omega))) up_at (by omega) (by omega)
      exact ⟨M', e1, e2, by rw [e3, upj (by omega)], by rw [e4, upj (by omega)], (frM22.u (by omega)).tr e5⟩
    | false =>
      rw [if_neg (show ¬ false = true by decide), if_pos rfl, if_neg (show ¬ false = true by decide)]
      exact ⟨M, by rw [h1], h1, rfl, rfl, frM22.rf⟩
theorem tok_c {bb : Nat → Nat} {n a : Nat} {C : Mem} (hn : n ≤ 400) (hb : ∀ j, j < n → bb j < 256) (hT : TC bb n C) (h1 : C 9 0 1 = nI a) (ha : a ≤ n) : ∃ C', fX9_advance C = some C' ∧ C' 9 0 0 = nI (rn (fun j => blB (bb j)) (n - a) a) ∧ C' 9 0 1 = nI (tkE bb n (rn (fun j => blB (bb j)) (n - a) a)) ∧ C' 9 0 2 = nI (tkK bb n (rn (fun j => blB (bb j)) (n - a) a)) ∧ (tkK bb n (rn (fun j => blB (bb j)) (n - a) a) = 2 → C' 9 0 3 = nI (tkV bb n (rn (fun j => blB (bb j)) (n - a) a))) ∧ frC9 C C' := by
  unfold fX9_advance
  rw [h1]
  obtain ⟨C1, e1, e2, e3⟩ := adv8 hn hb (n - a) 5000 a (up C 9 0 0 (nI a)) (hT.fr frC9.u) up_at (by omega) (by omega)
  have hle := rn_le (P := fun j => blB (bb j)) (n - a) a
  generalize rn (fun j => blB (bb j)) (n - a) a = p at e2 hle ⊢
  have hf1 : frC9 C C1 := frC9.u.tr (fun k i q => by funext j; exact e3 k i j (by omega))
  rw [e1]
  unfold fX9_advance_46
  have hT1 := hT.fr hf1
  rw [upj (show (0 : Nat) ≠ 1 by omega), e2, sgn_c (hT1.fr frC9.u) hn (by omega), bindS]
  have hf2 : frC9 C (up C1 9 0 1 (nI p)) := hf1.tr frC9.u
  have hT2 := hT.fr hf2
  have u0 : up C1 9 0 1 (nI p) 9 0 0 = nI p := by rw [upj (by omega), e2]
  have u1 : up C1 9 0 1 (nI p) 9 0 1 = nI p := up_at
  generalize up C1 9 0 1 (nI p) = C2 at hf2 hT2 u0 u1 ⊢
  unfold tkE tkK
  by_cases h : p < n
  · rw [if_pos h, if_pos h, if_pos h]
    have hbp := hb p h
    obtain ⟨l1, l2, l3⟩ := letter_all (bb p) hbp
    rw [if_neg (nI_ne_m1 (by omega)), l1, l2]
    by_cases l : ltB (bb p) = true
    · rw [if_pos l, if_pos l, if_pos l, if_neg (by decide)]
      unfold fX9_takeWord
      obtain ⟨C3, g1, g2, g3, g4⟩ := let_c hn hb (n - p) 5000 p C2 hT2 u1 (by omega) (by omega)
      rw [g1]
      unfold fX9_takeWord_38
      have hle2 := rn_le (P := fun i => ltB (bb i)) (n - p) p
      generalize rn (fun i => ltB (bb i)) (n - p) p = e at g2 hle2 ⊢
      have hT3 := (hT2.fr g4).fr (frC9.u (j := 2) (x := 1))
      have w := tw_c hn hb hT3 (by rw [upj (by omega), g3, u0]) (by rw [upj (by omega), g2]) up_at (show p ≤ e by omega) (by omega) lens 0 0 5000 wok_lens (by omega) (by omega) (by simp [lens])
      rw [show fX9_takeWord_53 5000 3 0 1 0 (up C3 9 0 2 1) = _ from w, bindS]
      have hf3 : frC9 C (up C3 9 0 2 1) := hf2.tr (g4.tr frC9.u)
      cases ho : fw bb p e lens 0 0 with
      | none => exact ⟨_, rfl, by show up C3 9 0 2 1 9 0 0 = _; rw [upj (by omega), g3, u0], by show up C3 9 0 2 1 9 0 1 = _; rw [upj (by omega), g2], up_at, fun q => absurd q (by decide), hf3⟩
      | some w =>
        refine ⟨_, rfl, ?_, ?_, up_at, fun q => ?_, hf3.tr frC9.u⟩
        · show up (up C3 9 0 2 1) 9 0 2 _ 9 0 0 = _
          rw [upj (by omega), upj (by omega), g3, u0]
        · show up (up C3 9 0 2 1) 9 0 2 _ 9 0 1 = _
          rw [upj (by omega), upj (by omega), g2]
        · have : 3 + w = 2 := q
          omega
    · rw [if_neg l, if_neg l, if_neg l, if_pos rfl]
      by_cases d : dgB (bb p) = true
      · rw [if_pos d, if_pos d, if_pos d, if_neg (by decide)]
        unfold fX9_takeNumber
        obtain ⟨C3, g1, g2, g3, g4, g5⟩ := num_c hn hb (p := p) (n - p) 5000 0 (up C2 9 0 3 0) (hT2.fr frC9.u) (by rw [upj (by omega)]; exact u1) (fun _ => by rw [up_at]; rfl) (fun i hi => absurd hi (by omega)) (by omega) (by omega)
        rw [Nat.add_zero] at g2 g3
        rw [g1]
        unfold fX9_takeNumber_66 tkV
        have hle2 := rn_le (P := fun i => dgB (bb i)) (n - p) p
        have g40 : C3 9 0 0 = nI p := by rw [g4, upj (by omega), u0]
        generalize rn (fun i => dgB (bb i)) (n - p) p = e at g2 g3 hle2 ⊢
        have hf3 : frC9 C C3 := (hf2.tr frC9.u).tr g5
        rw [g2, g40, nI_sub' (by omega) (by omega), show (4 : Int32) = nI 4 from rfl, ifLt (by omega) (by omega)]
        by_cases q : e - p ≤ 4
        · rw [if_neg (by omega), if_pos q, bindS]
          exact ⟨_, rfl, by rw [upj (by omega), g40], by rw [upj (by omega), g2], up_at, fun _ => by rw [upj (by omega)]; exact g3 q, hf3.tr frC9.u⟩
        · rw [if_pos (by omega), if_neg q, bindS]
          exact ⟨_, rfl, by rw [upj (by omega), g40], by rw [upj (by omega), g2], up_at, fun z => absurd z (by decide), hf3.tr frC9.u⟩
      · rw [if_neg d, if_neg d, if_neg d, if_pos rfl]
        obtain ⟨s1, s2, s3⟩ := sgk_all (bb p) hbp
        unfold fX9_takeSign fX9_takeSign_21
        rw [s1, bindS]
        have e1 : ∀ x, ∃ C', some (up (up C2 9 0 2 x) 9 0 1 ((up C2 9 0 2 x) 9 0 0 + 1)) = some C' ∧ C' 9 0 0 = nI p ∧ C' 9 0 1 = nI (p + 1) ∧ C' 9 0 2 = x ∧ frC9 C C' := by
          intro x
          refine ⟨_, rfl, ?_, ?_, ?_, (hf2.tr frC9.u).tr frC9.u⟩
          · rw [upj (by omega), upj (by omega), u0]
          · rw [up_at, upj (by omega), u0, nI_1]
          · rw [upj (by omega), up_at]
        by_cases k1 : sgk (bb p) = 1
        · rw [if_pos k1, if_neg (by decide), k1]
          obtain ⟨C', f1, f2, f3, f4, f5⟩ := e1 1
          rw [f1, bindS]
          exact ⟨C', rfl, f2, f3, f4, fun z => absurd z (by decide), f5⟩
        · rw [if_neg k1, if_pos (nI_pos' (by omega)), show (17 : Int32) = nI 17 from rfl, nI_add, show 17 + (sgk (bb p) - 17) = sgk (bb p) by omega]
          obtain ⟨C', f1, f2, f3, f4, f5⟩ := e1 (nI (sgk (bb p)))
          rw [f1, bindS]
          exact ⟨C', rfl, f2, f3, f4, fun z => by omega, f5⟩
  · rw [if_neg h, if_neg h, if_neg h, if_pos rfl]
    exact ⟨_, rfl, by rw [upj (by omega), u0], by rw [upj (by omega), u1], up_at, fun z => absurd z (by decide), hf2.tr frC9.u⟩
/-- how a token stands in the reference -/
def sgc (k : Nat) : Nat := if k = 17 then 59 else if k = 18 then 43 else if k = 19 then 45 else if k = 20 then 42 else if k = 21 then 47 else if k = 22 then 40 else if k = 23 then 41 else if k = 24 then 60 else if k = 25 then 61 else 62
def TkM (k v : Nat) (M : Mem) : Prop := (k = 0 → M 12 0 24 = 0) ∧ (k = 1 → M 12 0 24 = 1) ∧ (k = 2 → M 12 0 24 = 3 ∧ M 12 0 25 = nI v) ∧ (3 ≤ k ∧ k ≤ 16 → M 12 0 24 = 2 ∧ M 12 0 25 = nI (k - 3)) ∧ (17 ≤ k ∧ k ≤ 26 → M 12 0 24 = 4 ∧ M 12 0 25 = nI (sgc k))
theorem sgc_sgk : ∀ b, b < 256 → sgk b ≠ 1 → sgc (sgk b) = b := by decide +kernel
theorem tok_m {bb : Nat → Nat} {n a : Nat} {M : Mem} (hn : n ≤ 400) (hb : ∀ j, j < n → bb j < 256) (hT : TM bb n M) (h1 : M 12 0 22 = nI a) (ha : a ≤ n) : ∃ M', fX12_reads M = some M' ∧ M' 12 0 23 = nI (rn (fun j => blB (bb j)) (n - a) a) ∧ M' 12 0 22 = nI (tkE bb n (rn (fun j => blB (bb j)) (n - a) a)) ∧ TkM (tkK bb n (rn (fun j => blB (bb j)) (n - a) a)) (tkV bb n (rn (fun j => blB (bb j)) (n - a) a)) M' ∧ frM22 M M' := by
  unfold fX12_reads
  obtain ⟨M1, e1, e2, e3⟩ := reads0 hn hb (n - a) 5000 a M hT h1 (by omega) (by omega)
  have hle := rn_le (P := fun j => blB (bb j)) (n - a) a
  generalize rn (fun j => blB (bb j)) (n - a) a = p at e2 hle ⊢
  rw [e1]
  unfold afterM
  have hf2 : frM22 M (up (up M1 12 0 23 (nI p)) 12 0 24 1) := (e3.tr (frM22.u (by omega))).tr (frM22.u (by omega))
  have u22 : up (up M1 12 0 23 (nI p)) 12 0 24 1 12 0 22 = nI p := by rw [upj (by omega), upj (by omega), e2]
  have u23 : up (up M1 12 0 23 (nI p)) 12 0 24 1 12 0 23 = nI p := by rw [upj (by omega), up_at]
  have u24 : up (up M1 12 0 23 (nI p)) 12 0 24 1 12 0 24 = 1 := up_at
  rw [e2, u22]
  generalize up (up M1 12 0 23 (nI p)) 12 0 24 1 = M2 at hf2 u22 u23 u24 ⊢
  have hT2 := hT.fr hf2
  rw [raw_m hT2 hn (by omega), bindS]
  unfold tkE tkK
  by_cases h : p < n
  · rw [if_pos h, if_pos h, if_pos h, isLetter_eq, isDigit_eq]
    have hbp := hb p h
    obtain ⟨l1, l2, l3⟩ := letter_all (bb p) hbp
    rw [if_neg (nI_ne_m1 (by omega)), l1, l2, nI_1]
    have hf3 : frM22 M (up (up M2 12 0 22 (nI (p + 1))) 12 0 25 (nI (bb p))) := (hf2.tr (frM22.u (by omega))).tr (frM22.u (by omega))
    have v22 : up (up M2 12 0 22 (nI (p + 1))) 12 0 25 (nI (bb p)) 12 0 22 = nI (p + 1) := by rw [upj (by omega), up_at]
    have v23 : up (up M2 12 0 22 (nI (p + 1))) 12 0 25 (nI (bb p)) 12 0 23 = nI p := by rw [upj (by omega), upj (by omega), u23]
    have v24 : up (up M2 12 0 22 (nI (p + 1))) 12 0 25 (nI (bb p)) 12 0 24 = 1 := by rw [upj (by omega), upj (by omega), u24]
    have v25 : up (up M2 12 0 22 (nI (p + 1))) 12 0 25 (nI (bb p)) 12 0 25 = nI (bb p) := up_at
    generalize up (up M2 12 0 22 (nI (p + 1))) 12 0 25 (nI (bb p)) = M3 at hf3 v22 v23 v24 v25 ⊢
    have hT3 := hT.fr hf3
    by_cases l : ltB (bb p) = true
    · rw [if_pos l, if_pos l, if_pos l, if_neg (by decide)]
      obtain ⟨M4, g1, g2, g3, g4, g5⟩ := let_m hn hb (n - (p + 1)) 5000 (p + 1) M3 hT3 v22 (by omega) (by omega)
      have hrn : rn (fun i => ltB (bb i)) (n - p) p = rn (fun i => ltB (bb i)) (n - (p + 1)) (p + 1) := by
        rw [show n - p = (n - (p + 1)) + 1 by omega]
        show (if ltB (bb p) = true then rn (fun i => ltB (bb i)) (n - (p + 1)) (p + 1) else p) = _
        rw [if_pos l]
      rw [hrn, g1]
      have hle2 := rn_le (P := fun i => ltB (bb i)) (n - (p + 1)) (p + 1)
      have hin := rn_in (P := fun i => ltB (bb i)) (n - (p + 1)) (p + 1)
      generalize rn (fun i => ltB (bb i)) (n - (p + 1)) (p + 1) = e at g2 hle2 hin ⊢
      have hf4 := hf3.tr g5
      have hT4 := hT.fr hf4
      have wa := wa_m hn hb hT4 (show p ≤ e by omega) (by omega) (fun j q1 q2 => by
        intro z
        have : ltB (bb j) = true := by
          by_cases ej : j = p
          · rw [ej]; exact l
          · exact hin j (by omega) q2
        rw [z] at this
        cases this) lens 0 0 5000 wok_lens (by simp [lens]) (by omega) (by simp [lens])
      unfold fX12_wordAt
      rw [g2, g3, v23, show fX12_wordAt_5 5000 (nI p) (nI e) (-1) 0 M4 = _ from wa, bindS, up_at]
      cases ho : fw bb p e lens 0 0 with
      | none =>
        rw [show oI none = -1 from rfl, if_pos rfl]
        refine ⟨_, rfl, ?_, ?_, ⟨fun q => absurd q (by decide), fun _ => ?_, fun q => absurd q (by decide), fun q => absurd q (by decide), fun q => absurd q (by decide)⟩, hf4.tr (frM22.u (by omega))⟩
        · rw [upj (by omega), g3, v23]
        · rw [upj (by omega), g2]
        · rw [upj (by omega), g4, v24]
      | some w =>
        have hw := (fw_lt lens 0 0 w ho).2
        simp [lens] at hw
        rw [show oI (some w) = nI w from rfl, if_neg (nI_ne_m1 (by omega))]
        refine ⟨_, rfl, ?_, ?_, ⟨fun q => ?_, fun q => ?_, fun q => ?_, fun q => ⟨up_at, ?_⟩, fun q => ?_⟩, (hf4.tr (frM22.u (by omega))).tr (frM22.u (by omega))⟩
        · rw [upj (by omega), upj (by omega), g3, v23]
        · rw [upj (by omega), upj (by omega), g2]
        · exfalso; simp at q
        · exfalso; have : 3 + w = 1 := q; omega
        · exfalso; have : 3 + w = 2 := q; omega
        · rw [upj (by omega), up_at]
          show nI w = nI (3 + w - 3)
          rw [show 3 + w - 3 = w by omega]
        · exfalso; have : 17 ≤ 3 + w := q.1; omega
    · rw [if_neg l, if_neg l, if_neg l, if_pos rfl]
      by_cases d : dgB (bb p) = true
      · rw [if_pos d, if_pos d, if_pos d, if_neg (by decide)]
        have hrn : rn (fun i => dgB (bb i)) (n - p) p = rn (fun i => dgB (bb i)) (n - (p + 1)) (p + 1) := by
          rw [show n - p = (n - (p + 1)) + 1 by omega]
          show (if dgB (bb p) = true then rn (fun i => dgB (bb i)) (n - (p + 1)) (p + 1) else p) = _
          rw [if_pos d]
        have hd48 : 48 ≤ bb p ∧ bb p ≤ 57 := by
          unfold dgB at d
          simpa using d
        obtain ⟨M4, g1, g2, g3, g4, g5, g6⟩ := num_m hn hb (p := p) (n - (p + 1)) 5000 1 (up M3 12 0 25 (nI (bb p) - 48)) (hT3.fr (frM22.u (by omega))) (by rw [upj (by omega)]; exact v22) (by rw [upj (by omega)]; exact v23) (fun _ => by
          rw [up_at, show (48 : Int32) = nI 48 from rfl, nI_sub' (by omega) (by omega)]
          show nI (bb p - 48) = nI (0 * 10 + (bb (p + 0) - 48))
          simp) (fun i hi => by
            have : i = 0 := by omega
            rw [this]
            exact d) (by omega) (by omega)
        rw [hrn]
        unfold tkV
        rw [hrn, g1]
        have hle2 := rn_le (P := fun i => dgB (bb i)) (n - (p + 1)) (p + 1)
        generalize rn (fun i => dgB (bb i)) (n - (p + 1)) (p + 1) = e at g2 g3 hle2 ⊢
        have hf4 := (hf3.tr (frM22.u (by omega))).tr g6
        rw [nI_sub' (by omega) (by omega), show (5 : Int32) = nI 5 from rfl, ifLe (by omega) (by omega)]
        by_cases q : e - p ≤ 4
        · rw [if_neg (by omega), if_pos q]
          refine ⟨_, rfl, ?_, ?_, ⟨fun z => absurd z (by decide), fun z => absurd z (by decide), fun _ => ⟨up_at, ?_⟩, fun z => absurd z (by decide), fun z => absurd z (by decide)⟩, hf4.tr (frM22.u (by omega))⟩
          · rw [upj (by omega), g4]
          · rw [upj (by omega), g2]
          · rw [upj (by omega)]; exact g3 q
        · rw [if_pos (by omega), if_neg q]
          exact ⟨M4, rfl, g4, g2, ⟨fun z => absurd z (by decide), fun _ => by rw [g5, upj (by omega), v24], fun z => absurd z (by decide), fun z => absurd z (by decide), fun z => absurd z (by decide)⟩, hf4⟩
      · rw [if_neg d, if_neg d, if_neg d, if_pos rfl]
        obtain ⟨s1, s2, s3⟩ := sgk_all (bb p) hbp
        rw [s2]
        by_cases k1 : sgk (bb p) = 1
        · rw [if_pos k1, if_pos rfl, k1]
          exact ⟨M3, rfl, v23, v22, ⟨fun z => absurd z (by decide), fun _ => v24, fun z => absurd z (by decide), fun z => absurd z (by decide), fun z => absurd z (by decide)⟩, hf3⟩
        · rw [if_neg k1, if_neg (by decide)]
          refine ⟨_, rfl, ?_, ?_, ⟨fun z => by omega, fun z => by omega, fun z => by omega, fun z => by omega, fun z => ⟨up_at, ?_⟩⟩, hf3.tr (frM22.u (by omega))⟩
          · rw [upj (by omega), v23]
          · rw [upj (by omega), v22]
          · rw [upj (by omega), v25, sgc_sgk (bb p) hbp k1]
  · rw [if_neg h, if_neg h, if_neg h, if_pos rfl]
    refine ⟨_, rfl, ?_, ?_, ⟨fun _ => up_at, fun z => absurd z (by decide), fun z => absurd z (by decide), fun z => absurd z (by decide), fun z => absurd z (by decide)⟩, hf2.tr (frM22.u (by omega))⟩
    · rw [upj (by omega), u23]
    · rw [upj (by omega), u22]
