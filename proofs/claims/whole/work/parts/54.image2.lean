/-! ===== PURE: the image, in the reference ===== -/
def ps (q : Nat × Nat) : Nat :=
  if q.1 = 12 then (if q.2 = 1 then 0 else if q.2 = 2 then 1 else if q.2 = 9 then 2 else if q.2 = 3 then 3 else if q.2 = 10 then 64 else if q.2 = 18 then 149 else if q.2 = 45 then 750 else 775)
  else if q.1 ≤ 64 then 4 + 5 * q.2 + (q.1 - 60) else if q.1 ≤ 71 then 65 + 7 * q.2 + (q.1 - 65) else if q.1 = 72 then 150 + q.2 else if q.1 ≤ 77 then 776 + 3 * q.2 + (q.1 - 75) else if q.1 ≤ 79 then 824 + 2 * q.2 + (q.1 - 78) else 751 + 4 * q.2 + (q.1 - 84)
/-- one place is kept, or comes back -/
def st1 (t : Nat) (q : Nat × Nat) (S : Mem) : Mem := if t = 1 then up (up (up S 12 0 53 (S 12 0 53 + 1)) 89 0 (S 12 0 53).toNatClampNeg (S q.1 0 q.2)) q.1 0 q.2 (S q.1 0 q.2) else up (up S 12 0 53 (S 12 0 53 + 1)) q.1 0 q.2 (S 89 0 (S 12 0 53).toNatClampNeg)
def kl (t : Nat) : List (Nat × Nat) → Mem → Mem
  | [], S => S
  | q :: l, S => kl t l (st1 t q S)
theorem kl_app {t : Nat} : ∀ {a b : List (Nat × Nat)} {S : Mem}, kl t (a ++ b) S = kl t b (kl t a S)
  | [], _, _ => rfl
  | q :: a, b, S => kl_app (a := a) (b := b) (S := st1 t q S)
def lok (q : Nat × Nat) : Prop := q.1 ≠ 89 ∧ ¬ (q.1 = 12 ∧ 51 ≤ q.2 ∧ q.2 ≤ 53)
def KI (t n : Nat) (S : Mem) : Prop := S 12 0 53 = nI n ∧ S 12 0 51 = nI t
theorem st1_KI {t n : Nat} {q : Nat × Nat} {S : Mem} (h : KI t n S) (hq : lok q) : KI t (n + 1) (st1 t q S) := by
  obtain ⟨h1, h2⟩ := h
  obtain ⟨q1, q2⟩ := hq
  unfold st1
  split
  · refine ⟨?_, ?_⟩
    · simp only [up]
      rw [if_neg (by omega), if_neg (by omega), if_pos (by simp), h1, nI_1]
    · simp only [up]
      rw [if_neg (by omega), if_neg (by omega), if_neg (by omega), h2]
  · refine ⟨?_, ?_⟩
    · simp only [up]
      rw [if_neg (by omega), if_pos (by simp), h1, nI_1]
    · simp only [up]
      rw [if_neg (by omega), if_neg (by omega), h2]
theorem kl_KI {t : Nat} : ∀ {l : List (Nat × Nat)} {n : Nat} {S : Mem}, KI t n S → (∀ q, q ∈ l → lok q) → KI t (n + l.length) (kl t l S)
  | [], _, _, h, _ => h
  | q :: l, n, S, h, hl => by
    have := kl_KI (l := l) (st1_KI h (hl q (List.mem_cons_self ..))) (fun q' hq' => hl q' (List.mem_cons_of_mem _ hq'))
    rw [show n + (q :: l).length = n + 1 + l.length by simp; omega]
    exact this
/-- the reference's own step -/
theorem kept_ex {t n : Nat} (k j : Nat) {S : Mem} (h : KI t n S) (ht : t ≤ 1) (hn : n < 1900) (hq : lok (k, j)) : ∃ r S', fX12_kept (S k 0 j) S = some (r, S') ∧ up S' k 0 j r = st1 t (k, j) S ∧ KI t (n + 1) (st1 t (k, j) S) := by
  have hK := st1_KI h hq
  obtain ⟨h1, h2⟩ := h
  obtain ⟨q1, q2⟩ := hq
  unfold fX12_kept
  have e51 : up S 12 0 53 (S 12 0 53 + 1) 12 0 51 = nI t := by rw [upj (by omega), h2]
  have e53 : up S 12 0 53 (S 12 0 53 + 1) 12 0 53 - 1 = nI n := by rw [up_at, h1, nI_1, nI_pred]
  rw [e51, e53, ix_nI hn (by omega)]
  have hc : (S 12 0 53).toNatClampNeg = n := by rw [h1, nI_clamp (by omega)]
  rcases (show t = 0 ∨ t = 1 by omega) with rfl | rfl
  · rw [if_pos (show nI 0 = 0 from rfl), bindS]
    refine ⟨_, _, rfl, ?_, hK⟩
    unfold st1
    rw [if_neg (by decide), hc, upk (by omega)]
  · rw [if_neg (show ¬ nI 1 = 0 by decide), bindS]
    refine ⟨_, _, rfl, ?_, hK⟩
    unfold st1
    rw [if_pos rfl, hc]
def Chk : List (Nat × Nat) → Nat → Prop
  | [], _ => True
  | q :: l, n => ps q = n ∧ Chk l (n + 1)
theorem Chk.app : ∀ {a b : List (Nat × Nat)} {n m : Nat}, Chk a n → m = n + a.length → Chk b m → Chk (a ++ b) n
  | [], b, n, m, _, e, h => by
    have : m = n := e
    rw [← this]; exact h
  | q :: a, b, n, m, h, e, h2 => ⟨h.1, Chk.app h.2 (by simp at e; omega) h2⟩
theorem Chk.ge : ∀ {l : List (Nat × Nat)} {n : Nat}, Chk l n → ∀ q, q ∈ l → n ≤ ps q
  | [], _, _, _, h => by cases h
  | q :: l, n, h, q', hq' => by
    rcases List.mem_cons.mp hq' with e | e
    · rw [e, h.1]; exact Nat.le_refl _
    · have := Chk.ge h.2 q' e
      omega
/-- all places, kept -/
theorem kl1 : ∀ {l : List (Nat × Nat)} {n : Nat} {S : Mem}, Chk l n → KI 1 n S → (∀ q, q ∈ l → lok q) → n + l.length ≤ 1900 → (∀ q, q ∈ l → kl 1 l S 89 0 (ps q) = S q.1 0 q.2) ∧ (∀ k i j, k ≠ 89 → ¬ (k = 12 ∧ i = 0 ∧ j = 53) → kl 1 l S k i j = S k i j) ∧ ∀ j, j < n → kl 1 l S 89 0 j = S 89 0 j
  | [], _, _, _, _, _, _ => ⟨fun q hq => (by cases hq), fun _ _ _ _ _ => rfl, fun _ _ => rfl⟩
  | q :: l, n, S, h, hK, hl, hn => by
    have hq := hl q (List.mem_cons_self ..)
    obtain ⟨q1, q2⟩ := hq
    have hq := hl q (List.mem_cons_self ..)
    have hK2 := st1_KI hK hq
    simp only [List.length_cons] at hn
    obtain ⟨a1, a2, a3⟩ := kl1 (l := l) h.2 hK2 (fun q' hq' => hl q' (List.mem_cons_of_mem _ hq')) (by omega)
    have hc : (S 12 0 53).toNatClampNeg = n := by rw [hK.1, nI_clamp (by omega)]
    have s1 : st1 1 q S = up (up (up S 12 0 53 (S 12 0 53 + 1)) 89 0 n (S q.1 0 q.2)) q.1 0 q.2 (S q.1 0 q.2) := by
      unfold st1
      rw [if_pos rfl, hc]
    have s89 : st1 1 q S 89 0 n = S q.1 0 q.2 := by
      rw [s1]
      simp only [up]
      rw [if_neg (by omega), if_pos (by simp)]
    have sk : ∀ k i j, k ≠ 89 → ¬ (k = 12 ∧ i = 0 ∧ j = 53) → st1 1 q S k i j = S k i j := fun k i j h1 h2 => by
      rw [s1]
      simp only [up]
      by_cases e : k = q.1 ∧ i = 0 ∧ j = q.2
      · rw [if_pos e, e.1, e.2.1, e.2.2]
      · rw [if_neg e, if_neg (by omega), if_neg h2]
    have s8 : ∀ j, j < n → st1 1 q S 89 0 j = S 89 0 j := fun j hj => by
      rw [s1]
      simp only [up]
      rw [if_neg (by omega), if_neg (by omega), if_neg (by omega)]
    refine ⟨fun q' hq' => ?_, fun k i j h1 h2 => ?_, fun j hj => ?_⟩
    · show kl 1 l (st1 1 q S) 89 0 (ps q') = _
      rcases List.mem_cons.mp hq' with e | e
      · rw [e, h.1, a3 n (by omega), s89]
      · rw [a1 q' e, sk _ _ _ (hl q' hq').1 (fun z => (hl q' hq').2 ⟨z.1, by omega, by omega⟩)]
    · show kl 1 l (st1 1 q S) k i j = _
      rw [a2 k i j h1 h2, sk k i j h1 h2]
    · show kl 1 l (st1 1 q S) 89 0 j = _
      rw [a3 j (by omega), s8 j hj]
/-- all places, come back -/
theorem kl0 : ∀ {l : List (Nat × Nat)} {n : Nat} {S : Mem}, Chk l n → KI 0 n S → (∀ q, q ∈ l → lok q) → n + l.length ≤ 1900 → (∀ q, q ∈ l → kl 0 l S q.1 0 q.2 = S 89 0 (ps q)) ∧ (∀ k i j, ¬ (i = 0 ∧ (k, j) ∈ l) → ¬ (k = 12 ∧ i = 0 ∧ j = 53) → kl 0 l S k i j = S k i j)
  | [], _, _, _, _, _, _ => ⟨fun q hq => (by cases hq), fun _ _ _ _ _ => rfl⟩
  | q :: l, n, S, h, hK, hl, hn => by
    have hq := hl q (List.mem_cons_self ..)
    obtain ⟨q1, q2⟩ := hq
    have hq := hl q (List.mem_cons_self ..)
    have hK2 := st1_KI hK hq
    simp only [List.length_cons] at hn
    obtain ⟨a1, a2⟩ := kl0 (l := l) h.2 hK2 (fun q' hq' => hl q' (List.mem_cons_of_mem _ hq')) (by omega)
    have hc : (S 12 0 53).toNatClampNeg = n := by rw [hK.1, nI_clamp (by omega)]
    have s1 : st1 0 q S = up (up S 12 0 53 (S 12 0 53 + 1)) q.1 0 q.2 (S 89 0 n) := by
      unfold st1
      rw [if_neg (by omega), hc]
    have s89 : st1 0 q S 89 0 = S 89 0 := by
      rw [s1, upf (by omega), upf (by omega)]
    have sq : st1 0 q S q.1 0 q.2 = S 89 0 n := by rw [s1, up_at]
    have sk : ∀ k i j, ¬ (k = q.1 ∧ i = 0 ∧ j = q.2) → ¬ (k = 12 ∧ i = 0 ∧ j = 53) → st1 0 q S k i j = S k i j := fun k i j h1 h2 => by
      rw [s1]
      simp only [up]
      rw [if_neg h1, if_neg h2]
    have hnot : q ∉ l := fun z => by
      have := Chk.ge h.2 q z
      have := h.1
      omega
    refine ⟨fun q' hq' => ?_, fun k i j h1 h2 => ?_⟩
    · show kl 0 l (st1 0 q S) q'.1 0 q'.2 = _
      rcases List.mem_cons.mp hq' with e | e
      · rw [e, a2 q.1 0 q.2 (fun z => hnot z.2) (fun z => hq.2 ⟨z.1, by omega, by omega⟩), sq, h.1]
      · rw [a1 q' e, s89]
    · show kl 0 l (st1 0 q S) k i j = _
      rw [a2 k i j (fun z => h1 ⟨z.1, List.mem_cons_of_mem _ z.2⟩) h2, sk k i j (fun z => h1 ⟨z.2.1, by rw [z.1, z.2.2]; exact List.mem_cons_self ..⟩) h2]
/-! the places -/
def rL : Nat → Nat → List (Nat × Nat)
  | 0, _ => []
  | m + 1, i => (60, i) :: (61, i) :: (62, i) :: (63, i) :: (64, i) :: rL m (i + 1)
def pL : Nat → Nat → List (Nat × Nat)
  | 0, _ => []
  | m + 1, i => (65, i) :: (66, i) :: (67, i) :: (68, i) :: (69, i) :: (70, i) :: (71, i) :: pL m (i + 1)
def bL : Nat → Nat → List (Nat × Nat)
  | 0, _ => []
  | m + 1, i => (72, i) :: bL m (i + 1)
def cL : Nat → Nat → List (Nat × Nat)
  | 0, _ => []
  | m + 1, i => (84, i) :: (85, i) :: (86, i) :: (87, i) :: cL m (i + 1)
def lL : Nat → Nat → List (Nat × Nat)
  | 0, _ => []
  | m + 1, i => (75, i) :: (76, i) :: (77, i) :: lL m (i + 1)
def oL : Nat → Nat → List (Nat × Nat)
  | 0, _ => []
  | m + 1, i => (78, i) :: (79, i) :: oL m (i + 1)
theorem rL_len : ∀ m i, (rL m i).length = 5 * m
  | 0, _ => rfl
  | m + 1, i => by simp [rL, rL_len m (i + 1)]; omega
theorem pL_len : ∀ m i, (pL m i).length = 7 * m
  | 0, _ => rfl
  | m + 1, i => by simp [pL, pL_len m (i + 1)]; omega
theorem bL_len : ∀ m i, (bL m i).length = m
  | 0, _ => rfl
  | m + 1, i => by simp [bL, bL_len m (i + 1)]
theorem cL_len : ∀ m i, (cL m i).length = 4 * m
  | 0, _ => rfl
  | m + 1, i => by simp [cL, cL_len m (i + 1)]; omega
theorem lL_len : ∀ m i, (lL m i).length = 3 * m
  | 0, _ => rfl
  | m + 1, i => by simp [lL, lL_len m (i + 1)]; omega
theorem oL_len : ∀ m i, (oL m i).length = 2 * m
  | 0, _ => rfl
  | m + 1, i => by simp [oL, oL_len m (i + 1)]; omega
theorem rL_ck : ∀ m i, Chk (rL m i) (4 + 5 * i)
  | 0, _ => True.intro
  | m + 1, i => ⟨by simp [ps], by simp [ps], by simp [ps], by simp [ps], by simp [ps], by have := rL_ck m (i + 1); rw [show 4 + 5 * (i + 1) = 4 + 5 * i + 1 + 1 + 1 + 1 + 1 by omega] at this; exact this⟩
theorem pL_ck : ∀ m i, Chk (pL m i) (65 + 7 * i)
  | 0, _ => True.intro
  | m + 1, i => ⟨by simp [ps], by simp [ps], by simp [ps], by simp [ps], by simp [ps], by simp [ps], by simp [ps], by have := pL_ck m (i + 1); rw [show 65 + 7 * (i + 1) = 65 + 7 * i + 1 + 1 + 1 + 1 + 1 + 1 + 1 by omega] at this; exact this⟩
theorem bL_ck : ∀ m i, Chk (bL m i) (150 + i)
  | 0, _ => True.intro
  | m + 1, i => ⟨by simp [ps], bL_ck m (i + 1)⟩
theorem cL_ck : ∀ m i, Chk (cL m i) (751 + 4 * i)
  | 0, _ => True.intro
  | m + 1, i => ⟨by simp [ps], by simp [ps], by simp [ps], by simp [ps], by have := cL_ck m (i + 1); rw [show 751 + 4 * (i + 1) = 751 + 4 * i + 1 + 1 + 1 + 1 by omega] at this; exact this⟩
theorem lL_ck : ∀ m i, Chk (lL m i) (776 + 3 * i)
  | 0, _ => True.intro
  | m + 1, i => ⟨by simp [ps], by simp [ps], by simp [ps], by have := lL_ck m (i + 1); rw [show 776 + 3 * (i + 1) = 776 + 3 * i + 1 + 1 + 1 by omega] at this; exact this⟩
theorem oL_ck : ∀ m i, Chk (oL m i) (824 + 2 * i)
  | 0, _ => True.intro
  | m + 1, i => ⟨by simp [ps], by simp [ps], by have := oL_ck m (i + 1); rw [show 824 + 2 * (i + 1) = 824 + 2 * i + 1 + 1 by omega] at this; exact this⟩
theorem rL_mem {k j : Nat} : ∀ m i, (k, j) ∈ rL m i ↔ (60 ≤ k ∧ k ≤ 64) ∧ i ≤ j ∧ j < i + m
  | 0, i => by simp [rL]
  | m + 1, i => by simp [rL, rL_mem m (i + 1)]; omega
theorem pL_mem {k j : Nat} : ∀ m i, (k, j) ∈ pL m i ↔ (65 ≤ k ∧ k ≤ 71) ∧ i ≤ j ∧ j < i + m
  | 0, i => by simp [pL]
  | m + 1, i => by simp [pL, pL_mem m (i + 1)]; omega
theorem bL_mem {k j : Nat} : ∀ m i, (k, j) ∈ bL m i ↔ k = 72 ∧ i ≤ j ∧ j < i + m
  | 0, i => by simp [bL]
  | m + 1, i => by simp [bL, bL_mem m (i + 1)]; omega
theorem cL_mem {k j : Nat} : ∀ m i, (k, j) ∈ cL m i ↔ (84 ≤ k ∧ k ≤ 87) ∧ i ≤ j ∧ j < i + m
  | 0, i => by simp [cL]
  | m + 1, i => by simp [cL, cL_mem m (i + 1)]; omega
theorem lL_mem {k j : Nat} : ∀ m i, (k, j) ∈ lL m i ↔ (75 ≤ k ∧ k ≤ 77) ∧ i ≤ j ∧ j < i + m
  | 0, i => by simp [lL]
  | m + 1, i => by simp [lL, lL_mem m (i + 1)]; omega
theorem oL_mem {k j : Nat} : ∀ m i, (k, j) ∈ oL m i ↔ (78 ≤ k ∧ k ≤ 79) ∧ i ≤ j ∧ j < i + m
  | 0, i => by simp [oL]
  | m + 1, i => by simp [oL, oL_mem m (i + 1)]; omega
