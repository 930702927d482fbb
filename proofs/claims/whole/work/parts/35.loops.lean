/-! ===== PURE: swap, fire ===== -/
def swp (a b s : Int32) : Int32 := if s = a then b else if s = b then a else s
theorem swap_c {a b : Int32} {np : Nat} (hn : np ≤ 12) : ∀ (fuel i : Nat) (C : Mem), C 0 0 7 = nI np → i ≤ np → np - i < fuel → ∃ C', fX0_changeShelves_2 fuel a b (nI i) C = some C' ∧ (∀ k q j, ¬ (k = 5 ∧ i ≤ q ∧ q < np ∧ j = 1) → C' k q j = C k q j) ∧ ∀ q, i ≤ q → q < np → C' 5 q 1 = swp a b (C 5 q 1) := by
  intro fuel
  induction fuel with
  | zero => intro i C h1 h2 h3; omega
  | succ fuel ih =>
    intro i C h1 h2 h3
    rw [fX0_changeShelves_2, h1]
    by_cases e : i = np
    · subst e
      rw [if_pos (nI_le (Nat.le_refl _) (by omega))]
      exact ⟨C, rfl, fun _ _ _ _ => rfl, fun q a1 a2 => by omega⟩
    · rw [if_neg (nI_ge (by omega) (by omega)), ix_nI (by omega) (by omega)]
      have step : ∀ v, v = swp a b (C 5 i 1) → ∃ C', fX0_changeShelves_2 fuel a b (nI i + 1) (up C 5 i 1 v) = some C' ∧ (∀ k q j, ¬ (k = 5 ∧ i ≤ q ∧ q < np ∧ j = 1) → C' k q j = C k q j) ∧ ∀ q, i ≤ q → q < np → C' 5 q 1 = swp a b (C 5 q 1) := by
        intro v hv
        obtain ⟨C', g1, g2, g3⟩ := ih (i + 1) (up C 5 i 1 v) (by simp [up, h1]) (by omega) (by omega)
        refine ⟨C', by rw [nI_1]; exact g1, fun k q j hne => ?_, fun q a1 a2 => ?_⟩
        · rw [g2 k q j (by omega)]
          unfold up
          rw [if_neg (by omega)]
        · by_cases eq : q = i
          · subst eq
            rw [g2 5 q 1 (by omega), up_at, hv]
          · rw [g3 q (by omega) a2, upf (by omega)]
      show ∃ C', (if C 5 i 1 = a then fX0_changeShelves_2 fuel a b (nI i + 1) (up C 5 i 1 b) else if C 5 i 1 = b then fX0_changeShelves_2 fuel a b (nI i + 1) (up C 5 i 1 a) else fX0_changeShelves_2 fuel a b (nI i + 1) C) = some C' ∧ _
      by_cases b1 : C 5 i 1 = a
      · rw [if_pos b1]; exact step b (by unfold swp; rw [if_pos b1])
      · rw [if_neg b1]
        by_cases b2 : C 5 i 1 = b
        · rw [if_pos b2]; exact step a (by unfold swp; rw [if_neg b1, if_pos b2])
        · rw [if_neg b2]
          have := step (C 5 i 1) (by unfold swp; rw [if_neg b1, if_neg b2])
          have e2 : up C 5 i 1 (C 5 i 1) = C := by
            funext k q j
            unfold up
            split
            · next hh => rw [hh.1, hh.2.1, hh.2.2]
            · rfl
          rw [e2] at this
          exact this
theorem swap_m {a b : Int32} {np : Nat} (hn : np ≤ 12) : ∀ (fuel i : Nat) (M : Mem), M 12 0 10 = nI np → i ≤ np → np - i < fuel → ∃ M', fX12_swap_30 fuel a b (nI i) M = some (1, up M' 12 0 44 0) ∧ (∀ k q j, ¬ (k = 65 ∧ q = 0 ∧ i ≤ j ∧ j < np) → M' k q j = M k q j) ∧ ∀ q, i ≤ q → q < np → M' 65 0 q = swp a b (M 65 0 q) := by
  intro fuel
  induction fuel with
  | zero => intro i C h1 h2 h3; omega
  | succ fuel ih =>
    intro i M h1 h2 h3
    rw [fX12_swap_30, h1]
    by_cases e : i = np
    · subst e
      rw [if_pos (nI_le (Nat.le_refl _) (by omega))]
      exact ⟨M, rfl, fun _ _ _ _ => rfl, fun q a1 a2 => by omega⟩
    · rw [if_neg (nI_ge (by omega) (by omega)), ix_nI (by omega) (by omega)]
      have step : ∀ v, v = swp a b (M 65 0 i) → ∃ M', fX12_swap_30 fuel a b (nI i + 1) (up M 65 0 i v) = some (1, up M' 12 0 44 0) ∧ (∀ k q j, ¬ (k = 65 ∧ q = 0 ∧ i ≤ j ∧ j < np) → M' k q j = M k q j) ∧ ∀ q, i ≤ q → q < np → M' 65 0 q = swp a b (M 65 0 q) := by
        intro v hv
        obtain ⟨M', g1, g2, g3⟩ := ih (i + 1) (up M 65 0 i v) (by simp [up, h1]) (by omega) (by omega)
        refine ⟨M', by rw [nI_1]; exact g1, fun k q j hne => ?_, fun q a1 a2 => ?_⟩
        · rw [g2 k q j (by omega)]
          unfold up
          rw [if_neg (by omega)]
        · by_cases eq : q = i
          · subst eq
            rw [g2 65 0 q (by omega), up_at, hv]
          · rw [g3 q (by omega) a2, upj (by omega)]
      show ∃ M', (if M 65 0 i = a then fX12_swap_30 fuel a b (nI i + 1) (up M 65 0 i b) else if M 65 0 i = b then fX12_swap_30 fuel a b (nI i + 1) (up M 65 0 i a) else fX12_swap_30 fuel a b (nI i + 1) (up M 65 0 i (M 65 0 i))) = some (1, up M' 12 0 44 0) ∧ _
      by_cases b1 : M 65 0 i = a
      · rw [if_pos b1]; exact step b (by unfold swp; rw [if_pos b1])
      · rw [if_neg b1]
        by_cases b2 : M 65 0 i = b
        · rw [if_pos b2]; exact step a (by unfold swp; rw [if_neg b1, if_pos b2])
        · rw [if_neg b2]; exact step (M 65 0 i) (by unfold swp; rw [if_neg b1, if_neg b2])
theorem sim_swap {C M : Mem} (h : Rel C M) (p0 p1 : Int32) : ∃ r C' M', fX11_swap p0 p1 C = some (r, C') ∧ fX12_swap p0 p1 M = some (r, M') ∧ Rel C' M' := by
  have h0 := h.told
  unfold fX11_swap fX12_swap
  generalize up M 12 0 0 0 = M0 at h0 ⊢
  rw [isShelf_eq, isShelf_eq]
  by_cases a1 : fX11_isShelf p0 = 0
  · rw [if_pos a1, if_pos a1]; exact ⟨_, _, _, rfl, rfl, h0⟩
  rw [if_neg a1, if_neg a1]
  by_cases a2 : fX11_isShelf p1 = 0
  · rw [if_pos a2, if_pos a2]; exact ⟨_, _, _, rfl, rfl, h0⟩
  rw [if_neg a2, if_neg a2]
  by_cases a3 : p0 = p1
  · rw [if_pos a3, if_pos a3]; exact ⟨_, _, _, rfl, rfl, h0⟩
  rw [if_neg a3, if_neg a3]
  obtain ⟨np, c7, m10, hnp⟩ := h0.np
  obtain ⟨C', g1, g2, g3⟩ := swap_c (a := p0) (b := p1) hnp 5000 0 (fX10_forget C) (by simp [fX10_forget, up, c7]) (by omega) (by omega)
  obtain ⟨M', k1, k2, k3⟩ := swap_m (a := p0) (b := p1) hnp 5000 0 M0 m10 (by omega) (by omega)
  have e1 : fX0_changeShelves p0 p1 (fX10_forget C) = some C' := g1
  rw [e1, show fX12_swap_30 5000 p0 p1 0 M0 = _ from k1]
  have gf : ∀ k q j, ¬ (k = 5 ∧ q < np ∧ j = 1) → C' k q j = fX10_forget C k q j := fun k q j hh => g2 k q j (by omega)
  have kf : ∀ k q j, ¬ (k = 65 ∧ q = 0 ∧ j < np) → M' k q j = M0 k q j := fun k q j hh => k2 k q j (by omega)
  refine ⟨_, _, _, rfl, rfl, h0.pp (fun k i a b c => ?_) (fun j a => ?_) ?_ (fun i a => ?_) ?_ ?_ (fun k i a b => ?_) (fun j a b c => ?_) ?_ ?_⟩
  · funext j
    rw [gf k i j (by omega)]
    simp [fX10_forget, up, b]
  · rw [gf 0 0 j (by omega)]
    simp [fX10_forget, up]
  · funext j
    rw [gf 0 1 j (by omega)]
    simp [fX10_forget, up]
  · funext j
    rw [gf 5 i j (by omega)]
    simp [fX10_forget, up]
  · rw [gf 10 0 3 (by omega)]; simp [fX10_forget, up]
  · rw [gf 10 0 2 (by omega)]; simp [fX10_forget, up]
  · funext j
    rw [upk (by omega), kf k i j (by omega)]
  · rw [upj (by omega), kf 12 0 j (by omega)]
  · simp [up]
  · intro nr np1 dy ⟨q1, q1', q2⟩ ⟨q3, q4, q5⟩ ⟨q6, q7, q8⟩ hPp hRd
    have en : np1 = np := (nI_eq (by omega) (by omega)).mp (q3.symm.trans c7)
    subst en
    refine ⟨np1, by omega, by omega, ?_, ?_, ?_⟩
    · rw [gf 0 0 7 (by omega)]; simp [fX10_forget, up, c7]
    · rw [upj (by omega), kf 12 0 10 (by omega)]; exact m10
    · intro i hi
      obtain ⟨⟨z0, z1, z2, z3, z4, z5, z6, z7⟩, z8, z9, z10⟩ := hPp i hi
      have cc : ∀ j, j ≠ 1 → C' 5 i j = C 5 i j := fun j hj => by
        rw [gf 5 i j (by omega)]
        simp [fX10_forget, up]
      have c1 : C' 5 i 1 = swp p0 p1 (C 5 i 1) := by
        rw [g3 i (by omega) hi]
        simp [fX10_forget, up]
      have mm' : ∀ k, 66 ≤ k → k ≤ 71 → up M' 12 0 44 0 k 0 i = M0 k 0 i := fun k b1 b2 => by rw [upk (by omega), kf k 0 i (by omega)]
      rw [mm' 66 (by omega) (by omega), mm' 67 (by omega) (by omega), mm' 68 (by omega) (by omega), mm' 69 (by omega) (by omega), mm' 70 (by omega) (by omega), mm' 71 (by omega) (by omega), upk (show (65 : Nat) ≠ 12 by omega), k3 i (by omega) hi, c1, z1, cc 0 (by omega), cc 2 (by omega), cc 3 (by omega), cc 4 (by omega), cc 5 (by omega), cc 6 (by omega), cc 7 (by omega)]
      refine ⟨⟨z0, rfl, z2, z3, z4, z5, z6, z7⟩, ⟨?_, z8.2⟩, z9, z10⟩
      unfold swp
      split
      · exact a2
      · split
        · exact a1
        · exact z8.1
/-! counting -/
def cnt (P : Nat → Bool) : Nat → Nat
  | 0 => 0
  | n + 1 => cnt P n + if P n then 1 else 0
theorem cnt_le (P : Nat → Bool) (n : Nat) : cnt P n ≤ n := by
  induction n with
  | zero => exact Nat.le_refl 0
  | succ n ih => unfold cnt; split <;> omega
theorem cnt_congr {P Q : Nat → Bool} {n : Nat} (h : ∀ i, i < n → P i = Q i) : cnt P n = cnt Q n := by
  induction n with
  | zero => rfl
  | succ n ih => unfold cnt; rw [ih (fun i hi => h i (by omega)), h n (by omega)]
theorem papersOn_c {s : Int32} {np : Nat} (hn : np ≤ 12) {C : Mem} (hc : C 0 0 7 = nI np) : ∀ (fuel i : Nat), i ≤ np → np - i < fuel → fX0_papersOn_4 fuel s (nI (cnt (fun q => C 5 q 1 == s) i)) (nI i) C = some (nI (cnt (fun q => C 5 q 1 == s) np)) := by
  intro fuel
  induction fuel with
  | zero => intro i h2 h3; omega
  | succ fuel ih =>
    intro i h2 h3
    rw [fX0_papersOn_4, hc]
    by_cases e : i = np
    · subst e
      rw [if_pos (nI_le (Nat.le_refl _) (by omega))]
    · rw [if_neg (nI_ge (by omega) (by omega)), ix_nI (by omega) (by omega)]
      have := ih (i + 1) (by omega) (by omega)
      show (if C 5 i 1 = s then fX0_papersOn_4 fuel s (nI (cnt (fun q => C 5 q 1 == s) i) + 1) (nI i + 1) C else fX0_papersOn_4 fuel s (nI (cnt (fun q => C 5 q 1 == s) i)) (nI i + 1) C) = _
      rw [nI_1, nI_1, ← this]
      by_cases b : C 5 i 1 = s
      · rw [if_pos b, show cnt (fun q => C 5 q 1 == s) (i + 1) = cnt (fun q => C 5 q 1 == s) i + 1 by simp [cnt, b]]
      · rw [if_neg b, show cnt (fun q => C 5 q 1 == s) (i + 1) = cnt (fun q => C 5 q 1 == s) i by simp [cnt, b]]
theorem papersOn_m {s : Int32} {np : Nat} (hn : np ≤ 12) {M : Mem} (hm : M 12 0 10 = nI np) : ∀ (fuel i : Nat), i ≤ np → np - i < fuel → fX12_papersOn_4 fuel s (nI (cnt (fun q => M 65 0 q == s) i)) (nI i) M = some (nI (cnt (fun q => M 65 0 q == s) np)) := by
  intro fuel
  induction fuel with
  | zero => intro i h2 h3; omega
  | succ fuel ih =>
    intro i h2 h3
    rw [fX12_papersOn_4, hm]
    by_cases e : i = np
    · subst e
      rw [if_pos (nI_le (Nat.le_refl _) (by omega))]
    · rw [if_neg (nI_ge (by omega) (by omega)), ix_nI (by omega) (by omega)]
      have := ih (i + 1) (by omega) (by omega)
      show (if M 65 0 i = s then fX12_papersOn_4 fuel s (nI (cnt (fun q => M 65 0 q == s) i) + 1) (nI i + 1) M else fX12_papersOn_4 fuel s (nI (cnt (fun q => M 65 0 q == s) i)) (nI i + 1) M) = _
      rw [nI_1, nI_1, ← this]
      by_cases b : M 65 0 i = s
      · rw [if_pos b, show cnt (fun q => M 65 0 q == s) (i + 1) = cnt (fun q => M 65 0 q == s) i + 1 by simp [cnt, b]]
      · rw [if_neg b, show cnt (fun q => M 65 0 q == s) (i + 1) = cnt (fun q => M 65 0 q == s) i by simp [cnt, b]]
theorem papersOn_C {s : Int32} {np : Nat} (hn : np ≤ 12) {C : Mem} (hc : C 0 0 7 = nI np) : fX0_papersOn s C = some (nI (cnt (fun q => C 5 q 1 == s) np)) := papersOn_c hn hc 5000 0 (by omega) (by omega)
theorem papersOn_M {s : Int32} {np : Nat} (hn : np ≤ 12) {M : Mem} (hm : M 12 0 10 = nI np) : fX12_papersOn s M = some (nI (cnt (fun q => M 65 0 q == s) np)) := papersOn_m hn hm 5000 0 (by omega) (by omega)
/-! fire -/
theorem fire_c {s : Int32} {np : Nat} (hn : np ≤ 12) : ∀ (fuel i : Nat) (C : Mem), C 0 0 7 = nI np → i ≤ np → np - i < fuel → ∃ C', fX0_burn_2 fuel s (nI i) C = some (nI (cnt (fun q => C' 5 q 1 == s) np), C') ∧ (∀ k q j, ¬ (k = 5 ∧ i ≤ q ∧ q < np ∧ 3 ≤ j ∧ j ≤ 6) → C' k q j = C k q j) ∧ ∀ q, i ≤ q → q < np → (C 5 q 1 = s → C' 5 q 3 = -1 ∧ C' 5 q 4 = 0 ∧ C' 5 q 5 = 0 ∧ C' 5 q 6 = C 0 0 8) ∧ (¬ C 5 q 1 = s → C' 5 q = C 5 q) := by
  intro fuel
  induction fuel with
  | zero => intro i C h1 h2 h3; omega
  | succ fuel ih =>
    intro i C h1 h2 h3
    rw [fX0_burn_2, h1]
    by_cases e : i = np
    · subst e
      rw [if_pos (nI_le (Nat.le_refl _) (by omega)), papersOn_C hn h1]
      exact ⟨C, rfl, fun _ _ _ _ => rfl, fun q a1 a2 => by omega⟩
    · rw [if_neg (nI_ge (by omega) (by omega)), ix_nI (by omega) (by omega)]
      show ∃ C', (if C 5 i 1 = s then fX0_burn_2 fuel s (nI i + 1) (fX5_becomeUnread i (C 0 0 8) C) else fX0_burn_2 fuel s (nI i + 1) C) = some (nI (cnt (fun q => C' 5 q 1 == s) np), C') ∧ _
      by_cases b1 : C 5 i 1 = s
      · rw [if_pos b1, nI_1]
        obtain ⟨C', g1, g2, g3⟩ := ih (i + 1) (fX5_becomeUnread i (C 0 0 8) C) (by simp [fX5_becomeUnread, up, h1]) (by omega) (by omega)
        refine ⟨C', g1, fun k q j hne => ?_, fun q a1 a2 => ?_⟩
        · rw [g2 k q j (by omega)]
          simp only [fX5_becomeUnread, up]
          repeat (rw [if_neg (by omega)])
        · by_cases eq : q = i
          · subst eq
            refine ⟨fun _ => ?_, fun hh => absurd b1 hh⟩
            rw [g2 5 q 3 (by omega), g2 5 q 4 (by omega), g2 5 q 5 (by omega), g2 5 q 6 (by omega)]
            simp [fX5_becomeUnread, up]
          · have := g3 q (by omega) a2
            have e5 : fX5_becomeUnread i (C 0 0 8) C 5 q = C 5 q := by
              simp only [fX5_becomeUnread]
              repeat (rw [upf (by omega)])
            have e0 : fX5_becomeUnread i (C 0 0 8) C 0 0 8 = C 0 0 8 := by simp [fX5_becomeUnread, up]
            rw [e5, e0] at this
            exact this
      · rw [if_neg b1, nI_1]
        obtain ⟨C', g1, g2, g3⟩ := ih (i + 1) C h1 (by omega) (by omega)
        refine ⟨C', g1, fun k q j hne => g2 k q j (by omega), fun q a1 a2 => ?_⟩
        by_cases eq : q = i
        · subst eq
          refine ⟨fun hh => absurd hh b1, fun _ => ?_⟩
          funext j
          exact g2 5 q j (by omega)
        · exact g3 q (by omega) a2
theorem fire_m {s : Int32} {np : Nat} (hn : np ≤ 12) : ∀ (fuel i c : Nat) (M : Mem), M 12 0 10 = nI np → i ≤ np → np - i < fuel → c = cnt (fun q => M 65 0 q == s) i → ∃ M', fX12_fire_19 fuel s (nI c) (nI i) M = some (nI (cnt (fun q => M 65 0 q == s) np), up M' 12 0 44 0) ∧ (∀ k q j, ¬ (67 ≤ k ∧ k ≤ 70 ∧ q = 0 ∧ i ≤ j ∧ j < np) → M' k q j = M k q j) ∧ ∀ q, i ≤ q → q < np → (M 65 0 q = s → M' 67 0 q = 0 ∧ M' 68 0 q = 0 ∧ M' 69 0 q = 0 ∧ M' 70 0 q = M 12 0 2) ∧ (¬ M 65 0 q = s → M' 67 0 q = M 67 0 q ∧ M' 68 0 q = M 68 0 q ∧ M' 69 0 q = M 69 0 q ∧ M' 70 0 q = M 70 0 q) := by
  intro fuel
  induction fuel with
  | zero => intro i c C h1 h2 h3; omega
  | succ fuel ih =>
    intro i c M h1 h2 h3 hcc
    rw [fX12_fire_19, h1]
    by_cases e : i = np
    · subst e
      subst hcc
      rw [if_pos (nI_le (Nat.le_refl _) (by omega))]
      exact ⟨M, rfl, fun _ _ _ _ => rfl, fun q a1 a2 => by omega⟩
    · have hx : ix (nI i) 13 = some i := ix_nI (by omega) (by omega)
      rw [if_neg (nI_ge (by omega) (by omega)), hx]
      show ∃ M', (if M 65 0 i = s then (fX12_isUnread (nI i) M).bind fun S7 => fX12_fire_19 fuel s (nI c + 1) (nI i + 1) S7 else fX12_fire_19 fuel s (nI c) (nI i + 1) M) = _ ∧ _
      by_cases b1 : M 65 0 i = s
      · have eu : fX12_isUnread (nI i) M = some (up (up (up (up M 67 0 i 0) 68 0 i 0) 69 0 i 0) 70 0 i (M 12 0 2)) := by
          unfold fX12_isUnread
          rw [hx]
          simp [up]
        rw [if_pos b1, eu, nI_1, nI_1]
        generalize hM1 : up (up (up (up M 67 0 i 0) 68 0 i 0) 69 0 i 0) 70 0 i (M 12 0 2) = M1
        have f1 : ∀ k q j, ¬ (67 ≤ k ∧ k ≤ 70 ∧ q = 0 ∧ j = i) → M1 k q j = M k q j := by
          intro k q j hh
          rw [← hM1]
          simp only [up]
          repeat (rw [if_neg (by omega)])
        have fc : cnt (fun q => M1 65 0 q == s) = cnt (fun q => M 65 0 q == s) := by
          congr 1
          funext q
          rw [f1 65 0 q (by omega)]
        obtain ⟨M', g1, g2, g3⟩ := ih (i + 1) (c + 1) M1 (by rw [f1 12 0 10 (by omega)]; exact h1) (by omega) (by omega) (by rw [fc, hcc]; simp [cnt, b1])
        rw [fc] at g1
        refine ⟨M', g1, fun k q j hne => ?_, fun q a1 a2 => ?_⟩
        · rw [g2 k q j (by omega), f1 k q j (by omega)]
        · by_cases eq : q = i
          · subst eq
            refine ⟨fun _ => ?_, fun hh => absurd b1 hh⟩
            rw [g2 67 0 q (by omega), g2 68 0 q (by omega), g2 69 0 q (by omega), g2 70 0 q (by omega), ← hM1]
            simp [up]
          · have := g3 q (by omega) a2
            rw [f1 65 0 q (by omega), f1 12 0 2 (by omega), f1 67 0 q (by omega), f1 68 0 q (by omega), f1 69 0 q (by omega), f1 70 0 q (by omega)] at this
            exact this
      · rw [if_neg b1, nI_1]
        obtain ⟨M', g1, g2, g3⟩ := ih (i + 1) c M h1 (by omega) (by omega) (by rw [hcc]; simp [cnt, b1])
        refine ⟨M', g1, fun k q j hne => g2 k q j (by omega), fun q a1 a2 => ?_⟩
        by_cases eq : q = i
        · subst eq
          refine ⟨fun hh => absurd hh b1, fun _ => ?_⟩
          exact ⟨g2 67 0 q (by omega), g2 68 0 q (by omega), g2 69 0 q (by omega), g2 70 0 q (by omega)⟩
        · exact g3 q (by omega) a2
theorem sim_fire {C M : Mem} (h : Rel C M) (p0 : Int32) : ∃ r C' M', fX11_fire p0 C = some (r, C') ∧ fX12_fire p0 M = some (r, M') ∧ Rel C' M' := by
  have h0 := h.told
  unfold fX11_fire fX12_fire
  generalize up M 12 0 0 0 = M0 at h0 ⊢
  rw [isShelf_eq]
  by_cases a1 : fX11_isShelf p0 = 0
  · rw [if_pos a1, if_pos a1]; exact ⟨_, _, _, rfl, rfl, h0⟩
  rw [if_neg a1, if_neg a1]
  obtain ⟨np, c7, m10, hnp⟩ := h0.np
  obtain ⟨C', g1, g2, g3⟩ := fire_c (s := p0) hnp 5000 0 (fX10_forget C) (by simp [fX10_forget, up, c7]) (by omega) (by omega)
  obtain ⟨M', k1, k2, k3⟩ := fire_m (s := p0) hnp 5000 0 0 M0 m10 (by omega) (by omega) rfl
  have e1 : fX0_burn p0 (fX10_forget C) = some (nI (cnt (fun q => C' 5 q 1 == p0) np), C') := g1
  rw [e1, show fX12_fire_19 5000 p0 0 0 M0 = _ from k1]
  have gf : ∀ k q j, ¬ (k = 5 ∧ q < np ∧ 3 ≤ j ∧ j ≤ 6) → C' k q j = fX10_forget C k q j := fun k q j hh => g2 k q j (by omega)
  have kf : ∀ k q j, ¬ (67 ≤ k ∧ k ≤ 70 ∧ q = 0 ∧ j < np) → M' k q j = M0 k q j := fun k q j hh => k2 k q j (by omega)
  have h' := h0
  have ec : cnt (fun q => C' 5 q 1 == p0) np = cnt (fun q => M0 65 0 q == p0) np := by
    obtain ⟨_, np1, _, _, _, ⟨⟨_, ⟨q3, _, _⟩, _⟩, _, hPp, _⟩, _⟩ := h'
    have en : np1 = np := (nI_eq (by omega) (by omega)).mp (q3.symm.trans c7)
    subst en
    refine cnt_congr (fun i hi => ?_)
    rw [gf 5 i 1 (by omega)]
    simp [fX10_forget, up, (hPp i hi).1.2.1]
  rw [ec]
  refine ⟨_, _, _, rfl, rfl, h0.pp (fun k i a b c => ?_) (fun j a => ?_) ?_ (fun i a => ?_) ?_ ?_ (fun k i a b => ?_) (fun j a b c => ?_) ?_ ?_⟩
  · funext j
    rw [gf k i j (by omega)]
    simp [fX10_forget, up, b]
  · rw [gf 0 0 j (by omega)]
    simp [fX10_forget, up]
  · funext j
    rw [gf 0 1 j (by omega)]
    simp [fX10_forget, up]
  · funext j
    rw [gf 5 i j (by omega)]
    simp [fX10_forget, up]
  · rw [gf 10 0 3 (by omega)]; simp [fX10_forget, up]
  · rw [gf 10 0 2 (by omega)]; simp [fX10_forget, up]
  · funext j
    rw [upk (by omega), kf k i j (by omega)]
  · rw [upj (by omega), kf 12 0 j (by omega)]
  · simp [up]
  · intro nr np1 dy ⟨q1, q1', q2⟩ ⟨q3, q4, q5⟩ ⟨q6, q7, q8⟩ hPp hRd
    have en : np1 = np := (nI_eq (by omega) (by omega)).mp (q3.symm.trans c7)
    subst en
    refine ⟨np1, by omega, by omega, ?_, ?_, ?_⟩
    · rw [gf 0 0 7 (by omega)]; simp [fX10_forget, up, c7]
    · rw [upj (by omega), kf 12 0 10 (by omega)]; exact m10
    · intro i hi
      obtain ⟨⟨z0, z1, z2, z3, z4, z5, z6, z7⟩, z8, ⟨q, z9, z9'⟩, z10⟩ := hPp i hi
      have ff : ∀ k i j, k ≠ 10 → fX10_forget C k i j = C k i j := fun k i j hk => by simp [fX10_forget, up, hk]
      have cc : ∀ j, ¬ (3 ≤ j ∧ j ≤ 6) → C' 5 i j = C 5 i j := fun j hj => by rw [gf 5 i j (by omega), ff 5 i j (by omega)]
      have mm' : ∀ k, ¬ (67 ≤ k ∧ k ≤ 70) → k ≠ 12 → up M' 12 0 44 0 k 0 i = M0 k 0 i := fun k b1 b2 => by rw [upk b2, kf k 0 i (by omega)]
      have m67 : ∀ k, k ≠ 12 → up M' 12 0 44 0 k 0 i = M' k 0 i := fun k b1 => by rw [upk b1]
      obtain ⟨y1, y2⟩ := g3 i (by omega) hi
      obtain ⟨x1, x2⟩ := k3 i (by omega) hi
      rw [ff 5 i 1 (by omega), ff 0 0 8 (by omega)] at y1
      rw [ff 5 i 1 (by omega)] at y2
      rw [mm' 65 (by omega) (by omega), mm' 66 (by omega) (by omega), mm' 71 (by omega) (by omega), m67 67 (by omega), m67 68 (by omega), m67 69 (by omega), m67 70 (by omega), cc 0 (by omega), cc 1 (by omega), cc 2 (by omega), cc 7 (by omega)]
      by_cases hs : C 5 i 1 = p0
      · obtain ⟨u3, u4, u5, u6⟩ := y1 hs
        obtain ⟨v3, v4, v5, v6⟩ := x1 (by rw [← z1]; exact hs)
        rw [u3, u4, u5, u6, v3, v4, v5, v6, q6, q7]
        exact ⟨⟨z0, z1, z2, by decide, rfl, rfl, rfl, z7⟩, z8, ⟨0, by omega, rfl⟩, z10⟩
      · have u := y2 hs
        obtain ⟨v3, v4, v5, v6⟩ := x2 (by rw [← z1]; exact hs)
        rw [u, ff 5 i 3 (by omega), ff 5 i 4 (by omega), ff 5 i 5 (by omega), ff 5 i 6 (by omega), v3, v4, v5, v6]
        exact ⟨⟨z0, z1, z2, z3, z4, z5, z6, z7⟩, z8, ⟨q, z9, z9'⟩, z10⟩
