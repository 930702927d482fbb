/-! ===== PURE: what a reading keeps ===== -/
theorem ten {P : Nat → Prop} (h0 : P 0) (h1 : P 1) (h2 : P 2) (h3 : P 3) (h4 : P 4) (h5 : P 5) (h6 : P 6) (h7 : P 7) (h8 : P 8) (h9 : P 9) : ∀ j, j < 10 → P j
  | 0, _ => h0 | 1, _ => h1 | 2, _ => h2 | 3, _ => h3 | 4, _ => h4 | 5, _ => h5 | 6, _ => h6 | 7, _ => h7 | 8, _ => h8 | 9, _ => h9
  | n + 10, h => absurd h (by omega)
theorem mod10 : ∀ lt, lt < 10 → (nI lt + 1) - (nI lt + 1) / 10 * 10 = nI ((lt + 1) % 10) := by
  apply ten <;> decide
theorem mod10b : ∀ lt, lt < 10 → (nI lt + 10 - 1) - (nI lt + 10 - 1) / 10 * 10 = nI ((lt + 9) % 10) := by
  apply ten <;> decide
theorem eight {P : Nat → Prop} (h0 : P 0) (h1 : P 1) (h2 : P 2) (h3 : P 3) (h4 : P 4) (h5 : P 5) (h6 : P 6) (h7 : P 7) : ∀ j, j < 8 → P j
  | 0, _ => h0 | 1, _ => h1 | 2, _ => h2 | 3, _ => h3 | 4, _ => h4 | 5, _ => h5 | 6, _ => h6 | 7, _ => h7
  | n + 8, h => absurd h (by omega)
/-- a paper is copied -/
theorem copy5 {S : Mem} {a b : Nat} (h : a ≠ b) : (∀ j, j < 8 → fX5_copyFrom a b S 5 a j = S 5 b j) ∧ ∀ k i, ¬ (k = 5 ∧ i = a) → fX5_copyFrom a b S k i = S k i := by
  have e : fX5_copyFrom a b S = up (up (up (up (up (up (up (up S 5 a 0 (S 5 b 0)) 5 a 1 (S 5 b 1)) 5 a 2 (S 5 b 2)) 5 a 3 (S 5 b 3)) 5 a 4 (S 5 b 4)) 5 a 5 (S 5 b 5)) 5 a 6 (S 5 b 6)) 5 a 7 (S 5 b 7) := by
    unfold fX5_copyFrom
    simp only [upi (Ne.symm h)]
  rw [e]
  refine ⟨?_, fun k i hk => ?_⟩
  · apply eight <;> simp [up]
  · repeat (rw [upf hk])
theorem keep_c {C : Mem} {p lt u : Nat} {f : Int32} (hp : p < 25) (hl : C 10 0 2 = nI lt) (hl2 : lt < 10) (hu : C 10 0 3 = nI u) (hu2 : u ≤ 10) (hf : f = 0 ∨ f = 1) : ∃ C', fX10_keep p f C = some C' ∧ C' 10 0 2 = nI ((lt + 1) % 10) ∧ C' 10 0 3 = nI (min (u + 1) 10) ∧ C' 30 0 ((lt + 1) % 10) = f ∧ (∀ j, j < 8 → C' 5 (25 + (lt + 1) % 10) j = C 5 p j) ∧ (∀ k i, ¬ (k = 10 ∧ i = 0) → ¬ (k = 30 ∧ i = 0) → ¬ (k = 5 ∧ i = 25 + (lt + 1) % 10) → C' k i = C k i) ∧ ∀ j, j ≠ (lt + 1) % 10 → C' 30 0 j = C 30 0 j := by
  unfold fX10_keep
  rw [hl, mod10 lt hl2, up_at, ix_nI (Nat.mod_lt _ (by omega)) (by omega), bindS]
  generalize hs : (lt + 1) % 10 = s
  have hs2 : s < 10 := by omega
  obtain ⟨k1, k2⟩ := copy5 (S := up C 10 0 2 (nI s)) (show 25 + s ≠ p by omega)
  have e10 : fX5_copyFrom (25 + s) p (up C 10 0 2 (nI s)) 10 0 2 = nI s := by rw [k2 10 0 (by omega), up_at]
  have e13 : fX5_copyFrom (25 + s) p (up C 10 0 2 (nI s)) 10 0 3 = nI u := by rw [k2 10 0 (by omega), upj (by omega), hu]
  rw [e10, ix_nI hs2 (by omega), bindS, upk (show (10 : Nat) ≠ 30 by omega), e13, nI_1, show (10 : Int32) = nI 10 from rfl, ifLt (by omega) (by omega)]
  have em : (if u + 1 < 10 then nI (u + 1) else nI 10) = nI (min (u + 1) 10) := by
    split
    · rw [show min (u + 1) 10 = u + 1 by omega]
    · rw [show min (u + 1) 10 = 10 by omega]
  have en : vp_nar .boolean f = f := by
    rcases hf with rfl | rfl <;> decide
  rw [em, en]
  refine ⟨_, rfl, ?_, up_at, ?_, fun j hj => ?_, fun k i q1 q2 q3 => ?_, fun j hj => ?_⟩
  · rw [upj (by omega), upk (by omega), e10]
  · rw [upk (by omega), up_at]
  · rw [upk (by omega), upk (by omega), k1 j hj, upk (by omega)]
  · rw [upf q1, upf q2, k2 k i q3, upf q1]
  · rw [upk (by omega), upj hj, k2 30 0 (by omega), upk (by omega)]
theorem ix_lin {n : Nat} {u j : Nat} (h : 6 * u + j < 60) (hn : n = 60) : ix (6 * nI u + nI j) n = some (6 * u + j) := by
  subst hn
  rw [show (6 : Int32) = nI 6 from rfl, pk_mul, nI_add, ix_nI h (by omega)]
theorem keep53 {M : Mem} {p u nl : Nat} (hp : p < 13) (hu : u < 10) (h44 : M 12 0 44 = nI u) (h18 : M 12 0 18 = nI nl) : ∃ M', fX12_keepsAhead_53 (nI p) M = some M' ∧ M' 12 0 44 = nI (u + 1) ∧ (M' 83 0 (6 * u) = nI p ∧ M' 83 0 (6 * u + 1) = M 67 0 p ∧ M' 83 0 (6 * u + 2) = M 68 0 p ∧ M' 83 0 (6 * u + 3) = M 69 0 p ∧ M' 83 0 (6 * u + 4) = M 70 0 p ∧ M' 83 0 (6 * u + 5) = nI nl) ∧ (∀ j, j < 6 * u → M' 83 0 j = M 83 0 j) ∧ (∀ k i, k ≠ 12 → k ≠ 83 → M' k i = M k i) ∧ ∀ j, j ≠ 44 → M' 12 0 j = M 12 0 j := by
  unfold fX12_keepsAhead_53
  have e0 : ix (6 * nI u) 60 = some (6 * u) := by
    have := ix_lin (n := 60) (u := u) (j := 0) (by omega) rfl
    rw [show nI 0 = 0 from rfl, Int32.add_zero] at this
    exact this
  have e1 : ix (6 * nI u + 1) 60 = some (6 * u + 1) := ix_lin (j := 1) (by omega) rfl
  have e2 : ix (6 * nI u + 2) 60 = some (6 * u + 2) := ix_lin (j := 2) (by omega) rfl
  have e3 : ix (6 * nI u + 3) 60 = some (6 * u + 3) := ix_lin (j := 3) (by omega) rfl
  have e4 : ix (6 * nI u + 4) 60 = some (6 * u + 4) := ix_lin (j := 4) (by omega) rfl
  have e5 : ix (6 * nI u + 5) 60 = some (6 * u + 5) := ix_lin (j := 5) (by omega) rfl
  rw [h44, e0, e1, e2, e3, e4, e5, ix_nI hp (by omega)]
  simp only [bindS, upk (show (67 : Nat) ≠ 83 by omega), upk (show (68 : Nat) ≠ 83 by omega), upk (show (69 : Nat) ≠ 83 by omega), upk (show (70 : Nat) ≠ 83 by omega), upk (show (12 : Nat) ≠ 83 by omega)]
  rw [h44, h18, nI_1]
  refine ⟨_, rfl, up_at, ⟨?_, ?_, ?_, ?_, ?_, ?_⟩, fun j hj => ?_, fun k i q1 q2 => ?_, fun j hj => ?_⟩
  · rw [upk (by omega), upj (by omega), upj (by omega), upj (by omega), upj (by omega), upj (by omega), up_at]
  · rw [upk (by omega), upj (by omega), upj (by omega), upj (by omega), upj (by omega), up_at]
  · rw [upk (by omega), upj (by omega), upj (by omega), upj (by omega), up_at]
  · rw [upk (by omega), upj (by omega), upj (by omega), up_at]
  · rw [upk (by omega), upj (by omega), up_at]
  · rw [upk (by omega), up_at]
  · rw [upk (by omega), upj (by omega), upj (by omega), upj (by omega), upj (by omega), upj (by omega), upj (by omega)]
  · rw [upk q1, upk q2, upk q2, upk q2, upk q2, upk q2, upk q2]
  · rw [upj hj, upk (by omega), upk (by omega), upk (by omega), upk (by omega), upk (by omega), upk (by omega)]
theorem keep21 {p : Nat} {M0 : Mem} : ∀ (fuel x : Nat) (M : Mem), M 12 0 44 = nI 9 → x ≤ 54 → 54 - x < fuel → (∀ j, j < x → M 83 0 j = M0 83 0 (j + 6)) → (∀ j, x ≤ j → M 83 0 j = M0 83 0 j) → ∃ M', fX12_keepsAhead_21 fuel (nI p) (nI x) M = fX12_keepsAhead_53 (nI p) M' ∧ (∀ j, j < 54 → M' 83 0 j = M0 83 0 (j + 6)) ∧ ∀ k i, k ≠ 83 → M' k i = M k i := by
  intro fuel
  induction fuel with
  | zero => intro x M _ _ h; omega
  | succ fuel ih =>
    intro x M h44 h1 h2 h3 h4
    rw [fX12_keepsAhead_21, h44, show (6 : Int32) * nI 9 = nI 54 by decide]
    by_cases e : x = 54
    · subst e
      rw [if_pos (Int32.le_refl _)]
      exact ⟨M, rfl, h3, fun _ _ _ => rfl⟩
    · rw [if_neg (nI_ge (by omega) (by omega)), show (6 : Int32) = nI 6 from rfl, nI_add, ix_nI (by omega) (by omega), ix_nI (by omega) (by omega), bindS, bindS, nI_1]
      obtain ⟨M', g1, g2, g3⟩ := ih (x + 1) (up M 83 0 x (M 83 0 (x + 6))) (by rw [upk (by omega), h44]) (by omega) (by omega) (fun j hj => by
        by_cases ej : j = x
        · subst ej
          rw [up_at, h4 _ (by omega)]
        · rw [upj ej, h3 j (by omega)]) (fun j hj => by rw [upj (by omega), h4 j (by omega)])
      exact ⟨M', g1, g2, fun k i hk => by rw [g3 k i hk, upk hk]⟩
theorem keep_m {M : Mem} {p u nl : Nat} (hp : p < 13) (hu : u ≤ 10) (h44 : M 12 0 44 = nI u) (h18 : M 12 0 18 = nI nl) : ∃ M' t, fX12_keepsAhead (nI p) M = some M' ∧ t = min u 9 ∧ M' 12 0 44 = nI (t + 1) ∧ (M' 83 0 (6 * t) = nI p ∧ M' 83 0 (6 * t + 1) = M 67 0 p ∧ M' 83 0 (6 * t + 2) = M 68 0 p ∧ M' 83 0 (6 * t + 3) = M 69 0 p ∧ M' 83 0 (6 * t + 4) = M 70 0 p ∧ M' 83 0 (6 * t + 5) = nI nl) ∧ (∀ j, j < 6 * t → M' 83 0 j = M 83 0 (if u = 10 then j + 6 else j)) ∧ (∀ k i, k ≠ 12 → k ≠ 83 → M' k i = M k i) ∧ ∀ j, j ≠ 44 → M' 12 0 j = M 12 0 j := by
  unfold fX12_keepsAhead
  rw [h44]
  by_cases e : u = 10
  · subst e
    rw [if_pos (show nI 10 = 10 from rfl), show nI 10 - 1 = nI 9 by decide]
    obtain ⟨M1, g1, g2, g3⟩ := keep21 (p := p) (M0 := M) 5000 0 (up M 12 0 44 (nI 9)) up_at (by omega) (by omega) (fun j hj => by omega) (fun j _ => by rw [upk (by omega)])
    rw [show fX12_keepsAhead_21 5000 (nI p) 0 (up M 12 0 44 (nI 9)) = _ from g1]
    obtain ⟨M', k1, k2, ⟨k3, k4, k5, k6, k7, k8⟩, k9, k10, k11⟩ := keep53 (M := M1) (p := p) (u := 9) (nl := nl) hp (by omega) (by rw [g3 12 0 (by omega), up_at]) (by rw [g3 12 0 (by omega), upj (by omega), h18])
    refine ⟨M', 9, k1, by omega, k2, ⟨k3, ?_, ?_, ?_, ?_, k8⟩, fun j hj => ?_, fun k i q1 q2 => ?_, fun j hj => ?_⟩
    · rw [k4, g3 67 0 (by omega), upk (by omega)]
    · rw [k5, g3 68 0 (by omega), upk (by omega)]
    · rw [k6, g3 69 0 (by omega), upk (by omega)]
    · rw [k7, g3 70 0 (by omega), upk (by omega)]
    · rw [k9 j hj, if_pos rfl, g2 j (by omega)]
    · rw [k10 k i q1 q2, g3 k i q2, upk q1]
    · rw [k11 j hj, g3 12 0 (by omega), upj hj]
  · rw [if_neg (show ¬ nI u = 10 from fun q => e ((nI_eq (by omega) (by omega)).mp (show nI u = nI 10 from q)))]
    obtain ⟨M', k1, k2, k3, k9, k10, k11⟩ := keep53 (M := M) (p := p) (u := u) (nl := nl) hp (by omega) h44 h18
    refine ⟨M', u, k1, by omega, k2, k3, fun j hj => ?_, k10, k11⟩
    rw [k9 j hj, if_neg e]
theorem isRead_m {M : Mem} {p q : Nat} {y : Int32} (hp : p < 13) (d : Int32) (hy : ∀ M' : Mem, (∀ k i, k ≠ 67 → M' k i = M k i) → fX12_yearsOf (nI q) d M' = some y) : ∃ M', fX12_isRead (nI p) (nI q) d M = some M' ∧ M' 67 0 p = nI (q + 1) ∧ M' 68 0 p = y ∧ M' 69 0 p = M 69 0 p + 1 ∧ M' 70 0 p = d ∧ (∀ k i, ¬ (67 ≤ k ∧ k ≤ 70) → M' k i = M k i) ∧ ∀ k j, j ≠ p → M' k 0 j = M k 0 j := by
  unfold fX12_isRead
  rw [ix_nI hp (by omega), bindS, hy _ (fun k i hk => by rw [upk hk]), bindS, nI_1]
  refine ⟨_, rfl, ?_, ?_, ?_, up_at, fun k i hk => ?_, fun k j hj => ?_⟩
  · rw [upk (by omega), upk (by omega), upk (by omega), up_at]
  · rw [upk (by omega), upk (by omega), up_at]
  · rw [upk (by omega), up_at, upk (by omega), upk (by omega)]
  · rw [upk (by omega), upk (by omega), upk (by omega), upk (by omega)]
  · simp only [up]
    rw [if_neg (by omega), if_neg (by omega), if_neg (by omega), if_neg (by omega)]
theorem take_c {C : Mem} {p : Nat} {a b d : Int32} : ∃ C', fX5_takeReading p a b d C = C' ∧ C' 5 p 3 = a ∧ C' 5 p 4 = b ∧ C' 5 p 5 = C 5 p 5 + 1 ∧ C' 5 p 6 = d ∧ (∀ k i, ¬ (k = 5 ∧ i = p) → C' k i = C k i) ∧ ∀ j, (j < 3 ∨ 6 < j) → C' 5 p j = C 5 p j := by
  unfold fX5_takeReading
  refine ⟨_, rfl, ?_, ?_, ?_, up_at, fun k i hk => ?_, fun j hj => ?_⟩
  · rw [upj (by omega), upj (by omega), upj (by omega), up_at]
  · rw [upj (by omega), upj (by omega), up_at]
  · rw [upj (by omega), up_at, upj (by omega), upj (by omega)]
  · rw [upf hk, upf hk, upf hk, upf hk]
  · rw [upj (by omega), upj (by omega), upj (by omega), upj (by omega)]
/-- a line is written, if there is room -/
theorem write_c {C : Mem} {nl : Nat} {a0 a1 a2 a3 a4 : Int32} (h : C 1 0 1 = nI nl) (hn : nl ≤ 120) : ∃ C', fX1_write a0 a1 a2 a3 a4 C = some C' ∧ (if nl < 120 then C' 1 0 1 = nI (nl + 1) ∧ C' 16 0 (5 * nl) = a0 ∧ C' 16 0 (5 * nl + 1) = a1 ∧ C' 16 0 (5 * nl + 2) = a2 ∧ C' 16 0 (5 * nl + 3) = a3 ∧ C' 16 0 (5 * nl + 4) = a4 ∧ ∀ j, j < 5 * nl → C' 16 0 j = C 16 0 j else C' = C) ∧ ∀ k i, ¬ (k = 1 ∧ i = 0) → ¬ (k = 16 ∧ i = 0) → C' k i = C k i := by
  unfold fX1_write fX1_hasRoom
  rw [h]
  by_cases e : nl = 120
  · subst e
    rw [if_pos (show (if (120 : Int32) ≤ nI 120 then (0 : Int32) else 1) = 0 by decide)]
    exact ⟨C, rfl, by rw [if_neg (by omega)], fun _ _ _ _ => rfl⟩
  · rw [if_neg (show ¬ (120 : Int32) ≤ nI nl from nI_ge (b := 120) (by omega) (by omega)), if_neg (show ¬ (1 : Int32) = 0 by decide)]
    have e0 : nI nl * 5 = nI (5 * nl) := by rw [show (5 : Int32) = nI 5 from rfl, pk_mul, Nat.mul_comm]
    rw [e0, show (1 : Int32) = nI 1 from rfl, show (2 : Int32) = nI 2 from rfl, show (3 : Int32) = nI 3 from rfl, show (4 : Int32) = nI 4 from rfl, nI_add, nI_add, nI_add, nI_add, ix_nI (by omega) (by omega), ix_nI (by omega) (by omega), ix_nI (by omega) (by omega), ix_nI (by omega) (by omega), ix_nI (by omega) (by omega), bindS, bindS, bindS, bindS, bindS, upk (by omega), upk (by omega), upk (by omega), upk (by omega), upk (by omega), h, nI_add]
    refine ⟨_, rfl, ?_, fun k i q1 q2 => ?_⟩
    · rw [if_pos (by omega)]
      refine ⟨up_at, ?_, ?_, ?_, ?_, ?_, fun j hj => ?_⟩
      · rw [upk (by omega), upj (by omega), upj (by omega), upj (by omega), upj (by omega), up_at]
      · rw [upk (by omega), upj (by omega), upj (by omega), upj (by omega), up_at]
      · rw [upk (by omega), upj (by omega), upj (by omega), up_at]
      · rw [upk (by omega), upj (by omega), up_at]
      · rw [upk (by omega), up_at]
      · rw [upk (by omega), upj (by omega), upj (by omega), upj (by omega), upj (by omega), upj (by omega)]
    · rw [upf q1, upf q2, upf q2, upf q2, upf q2, upf q2]
noncomputable def writeM (a0 a1 r10 r15 : Int32) (S14 : Mem) : Option (Int32 × Mem) :=
  if 120 ≤ (S14 12 0 18) then
    some (r15, S14)
  else
    (ix (5 * (S14 12 0 18)) 600).bind fun j17 =>
      (ix ((5 * ((up S14 72 0 j17 a0) 12 0 18)) + 1) 600).bind fun j19 =>
        (ix ((5 * ((up (up S14 72 0 j17 a0) 72 0 j19 a1) 12 0 18)) + 2) 600).bind fun j21 =>
          (ix ((5 * ((up (up (up S14 72 0 j17 a0) 72 0 j19 a1) 72 0 j21 ((up (up S14 72 0 j17 a0) 72 0 j19 a1) 12 0 2)) 12 0 18)) + 3) 600).bind fun j23 =>
            (ix ((5 * ((up (up (up (up S14 72 0 j17 a0) 72 0 j19 a1) 72 0 j21 ((up (up S14 72 0 j17 a0) 72 0 j19 a1) 12 0 2)) 72 0 j23 r10) 12 0 18)) + 4) 600).bind fun j25 =>
              some (r15, (up (up (up (up (up (up S14 72 0 j17 a0) 72 0 j19 a1) 72 0 j21 ((up (up S14 72 0 j17 a0) 72 0 j19 a1) 12 0 2)) 72 0 j23 r10) 72 0 j25 r15) 12 0 18 (((up (up (up (up (up S14 72 0 j17 a0) 72 0 j19 a1) 72 0 j21 ((up (up S14 72 0 j17 a0) 72 0 j19 a1) 12 0 2)) 72 0 j23 r10) 72 0 j25 r15) 12 0 18) + 1)))
theorem write_m {M : Mem} {nl : Nat} {a0 a1 a3 a4 : Int32} (h : M 12 0 18 = nI nl) (hn : nl ≤ 120) : ∃ M', writeM a0 a1 a3 a4 M = some (a4, M') ∧ (if nl < 120 then M' 12 0 18 = nI (nl + 1) ∧ M' 72 0 (5 * nl) = a0 ∧ M' 72 0 (5 * nl + 1) = a1 ∧ M' 72 0 (5 * nl + 2) = M 12 0 2 ∧ M' 72 0 (5 * nl + 3) = a3 ∧ M' 72 0 (5 * nl + 4) = a4 ∧ ∀ j, j < 5 * nl → M' 72 0 j = M 72 0 j else M' = M) ∧ (∀ k i, k ≠ 12 → ¬ (k = 72 ∧ i = 0) → M' k i = M k i) ∧ ∀ j, j ≠ 18 → M' 12 0 j = M 12 0 j := by
  unfold writeM
  simp only [upk (show (12 : Nat) ≠ 72 by omega)]
  rw [h]
  by_cases e : nl = 120
  · subst e
    rw [if_pos (by decide)]
    exact ⟨M, rfl, by rw [if_neg (by omega)], fun _ _ _ _ => rfl, fun _ _ => rfl⟩
  · rw [if_neg (show ¬ (120 : Int32) ≤ nI nl from nI_ge (b := 120) (by omega) (by omega))]
    have e0 : 5 * nI nl = nI (5 * nl) := by rw [show (5 : Int32) = nI 5 from rfl, pk_mul]
    rw [e0, show (1 : Int32) = nI 1 from rfl, show (2 : Int32) = nI 2 from rfl, show (3 : Int32) = nI 3 from rfl, show (4 : Int32) = nI 4 from rfl, nI_add, nI_add, nI_add, nI_add, ix_nI (by omega) (by omega), ix_nI (by omega) (by omega), ix_nI (by omega) (by omega), ix_nI (by omega) (by omega), ix_nI (by omega) (by omega), bindS, bindS, bindS, bindS, bindS, nI_add]
    refine ⟨_, rfl, ?_, fun k i q1 q2 => ?_, fun j hj => ?_⟩
    · rw [if_pos (by omega)]
      refine ⟨up_at, ?_, ?_, ?_, ?_, ?_, fun j hj => ?_⟩
      · rw [upk (by omega), upj (by omega), upj (by omega), upj (by omega), upj (by omega), up_at]
      · rw [upk (by omega), upj (by omega), upj (by omega), upj (by omega), up_at]
      · rw [upk (by omega), upj (by omega), upj (by omega), up_at]
      · rw [upk (by omega), upj (by omega), up_at]
      · rw [upk (by omega), up_at]
      · rw [upk (by omega), upj (by omega), upj (by omega), upj (by omega), upj (by omega), upj (by omega)]
    · rw [upk q1, upf q2, upf q2, upf q2, upf q2, upf q2]
    · rw [upj hj, upk (by omega), upk (by omega), upk (by omega), upk (by omega), upk (by omega)]
