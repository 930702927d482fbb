/-! ===== PURE: the relation between the class's memory C and the reference's M ===== -/
theorem upk {S : Mem} {k k' i j : Nat} {x : Int32} (h : k' ≠ k) : up S k i j x k' = S k' := by
  funext i' j'
  simp [up, h]
theorem upi {S : Mem} {k i i' j : Nat} {x : Int32} (h : i' ≠ i) : up S k i j x k i' = S k i' := by
  funext j'
  simp [up, h]
theorem upj {S : Mem} {k i j j' : Nat} {x : Int32} (h : j' ≠ j) : up S k i j x k i j' = S k i j' := by simp [up, h]
/-- counters -/
def CtR (C M : Mem) (nr np dy nl nc : Nat) : Prop := (C 0 0 6 = nI nr ∧ M 12 0 3 = nI nr ∧ nr ≤ 12) ∧ (C 0 0 7 = nI np ∧ M 12 0 10 = nI np ∧ np ≤ 12) ∧ (C 0 0 8 = nI dy ∧ M 12 0 2 = nI dy ∧ dy ≤ 9999) ∧ (C 0 0 9 = M 12 0 1 ∧ C 0 0 10 = M 12 0 9) ∧ (C 1 0 1 = nI nl ∧ M 12 0 18 = nI nl ∧ nl ≤ 120) ∧ (C 2 0 4 = nI nc ∧ M 12 0 45 = nI nc ∧ nc ≤ 6)
/-- readers -/
def RdR (C M : Mem) (nr : Nat) : Prop := ∀ i, i < nr → (C 6 i 0 = M 60 0 i ∧ C 6 i 1 = M 61 0 i ∧ C 6 i 2 = M 62 0 i ∧ C 6 i 3 = M 63 0 i ∧ C 6 i 4 = M 64 0 i) ∧ (-36500 ≤ M 60 0 i ∧ M 60 0 i ≤ 9999) ∧ (M 62 0 i = 0 ∨ M 62 0 i = 1) ∧ (0 ≤ M 64 0 i ∧ M 64 0 i ≤ 9999)
/-- papers -/
def PpR (C M : Mem) (nr np dy : Nat) : Prop := ∀ i, i < np → (C 5 i 0 = nI i ∧ C 5 i 1 = M 65 0 i ∧ C 5 i 2 = M 66 0 i ∧ C 5 i 3 = M 67 0 i - 1 ∧ C 5 i 4 = M 68 0 i ∧ C 5 i 5 = M 69 0 i ∧ C 5 i 6 = M 70 0 i ∧ C 5 i 7 = M 71 0 i) ∧ (¬ fX11_isShelf (M 65 0 i) = 0 ∧ ∃ w, w ≤ dy ∧ M 66 0 i = nI w) ∧ (∃ q, q ≤ nr ∧ M 67 0 i = nI q) ∧ (M 71 0 i = -1 ∨ ∃ q, q < nr ∧ M 71 0 i = nI q)
/-- the book -/
def BkR (C M : Mem) (nr nl : Nat) : Prop := ∀ i, i < nl → (∀ j, j < 5 → C 16 0 (5 * i + j) = M 72 0 (5 * i + j)) ∧ (∃ q, q < nr ∧ M 72 0 (5 * i + 1) = nI q) ∧ (∃ a, a ≤ 999 ∧ M 72 0 (5 * i + 3) = nI a) ∧ (∃ a, a ≤ 999 ∧ M 72 0 (5 * i + 4) = nI a)
/-- claims -/
def CmR (C M : Mem) (np nc : Nat) : Prop := ∀ i, i < nc → (C 17 0 i = M 84 0 i ∧ C 18 0 i = M 85 0 i ∧ C 19 0 i = M 86 0 i ∧ C 20 0 i = M 87 0 i) ∧ (∃ q, q < np ∧ M 84 0 i = nI q) ∧ (∃ d, d ≤ 9999 ∧ M 85 0 i = nI d)
/-- the law: codes -/
def enc (q : Nat × Int32) : Int32 := if q.1 = 0 then q.2 else if q.1 = 1 then 10000 + q.2 else if q.1 = 2 then -18 else if q.1 = 3 then -19 else if q.1 = 4 then -20 else if q.1 = 5 then -21 else if q.1 = 6 then -24 else if q.1 = 7 then -25 else if q.1 = 8 then -26 else if q.1 = 9 then -7 else if q.1 = 10 then -6 else -5
/-- the values that wait, the latest first: 0 a number, 1 a number other than 0, 2 a truth -/
def wfs (s : List Nat) (q : Nat × Int32) : Option (List Nat) :=
  if q.1 = 0 then (if s.length < 40 ∧ 0 ≤ q.2 ∧ q.2 ≤ 9999 then some ((if q.2 = 0 then 0 else 1) :: s) else none)
  else if q.1 = 1 then (if s.length < 40 ∧ 0 ≤ q.2 ∧ q.2 < 9 then some (0 :: s) else none)
  else match s with
    | [] => none
    | b :: t => if q.1 = 9 then (if b = 2 then some (2 :: t) else none) else match t with
      | [] => none
      | a :: t' => if q.1 = 5 then (if b = 1 then some (0 :: t') else none) else if q.1 ≤ 4 then some (0 :: t') else if q.1 ≤ 8 then some (2 :: t') else if q.1 ≤ 11 then (if a = 2 ∧ b = 2 then some (2 :: t') else none) else none
def wf : List Nat → List (Nat × Int32) → Option (List Nat)
  | s, [] => some s
  | s, q :: l => (wfs s q).bind fun s' => wf s' l
def seg (cd : List (Nat × Int32)) (a b : Nat) : List (Nat × Int32) := (cd.drop a).take (b - a)
def wseg (cd : List (Nat × Int32)) (a b : Nat) : Prop := ∃ f, wf [] (seg cd a b) = some [f]
def LwR' (C M : Mem) (cd : List (Nat × Int32)) (ls : List (Nat × Nat × Nat)) : Prop := cd.length ≤ 400 ∧ ls.length ≤ 16 ∧ C 3 0 6 = nI ls.length ∧ M 12 0 27 = nI ls.length ∧ (∀ (k : Nat) (q : Nat × Int32), cd[k]? = some q → C 21 0 k = enc q ∧ M 78 0 k = nI q.1 ∧ M 79 0 k = q.2) ∧
  ∀ (l : Nat) (q : Nat × Nat × Nat), ls[l]? = some q → C 22 0 l = nI q.1 ∧ C 23 0 l = nI q.2.1 ∧ C 24 0 l = nI q.2.2 ∧ M 76 0 l = nI q.1 ∧ M 75 0 l = nI q.2.1 ∧ M 77 0 l = nI q.2.2 ∧ q.1 ≤ q.2.1 ∧ q.2.1 ≤ q.2.2 ∧ q.2.2 ≤ cd.length ∧ wseg cd q.1 q.2.1 ∧ (q.2.1 = q.2.2 ∨ wseg cd q.2.1 q.2.2)
def LwR (C M : Mem) : Prop := ∃ cd ls, LwR' C M cd ls
def Cor (C M : Mem) (nr np dy nl nc : Nat) : Prop := CtR C M nr np dy nl nc ∧ RdR C M nr ∧ PpR C M nr np dy ∧ BkR C M nr nl ∧ CmR C M np nc ∧ LwR C M
/-- what can be undone -/
def slot (lt u t : Nat) : Nat := (lt + 11 + t - u) % 10
def UnE (C M : Mem) (nr np lt u : Nat) (ls : Nat → Nat) (t : Nat) : Prop := ∃ p, p < np ∧ (M 83 0 (6 * t) = nI p ∧ C 5 (25 + slot lt u t) 0 = nI p ∧ C 5 (25 + slot lt u t) 3 = M 83 0 (6 * t + 1) - 1 ∧ C 5 (25 + slot lt u t) 4 = M 83 0 (6 * t + 2) ∧ C 5 (25 + slot lt u t) 5 = M 83 0 (6 * t + 3) ∧ C 5 (25 + slot lt u t) 6 = M 83 0 (6 * t + 4)) ∧ (C 5 (25 + slot lt u t) 1 = C 5 p 1 ∧ C 5 (25 + slot lt u t) 2 = C 5 p 2 ∧ C 5 (25 + slot lt u t) 7 = C 5 p 7) ∧ M 83 0 (6 * t + 5) = nI (ls t) ∧ (∃ q, q ≤ nr ∧ M 83 0 (6 * t + 1) = nI q) ∧ ((C 30 0 (slot lt u t) = 1 ∧ ls (t + 1) = ls t + 1) ∨ (C 30 0 (slot lt u t) = 0 ∧ ls (t + 1) = ls t))
def Und (C M : Mem) (nr np nl : Nat) : Prop := ∃ (u lt : Nat) (ls : Nat → Nat), u ≤ 10 ∧ lt < 10 ∧ C 10 0 3 = nI u ∧ M 12 0 44 = nI u ∧ C 10 0 2 = nI lt ∧ ls u = nl ∧ ∀ t, t < u → UnE C M nr np lt u ls t
/-- the tape -/
def Tap (C M : Mem) : Prop := ∃ n, n ≤ 400 ∧ C 7 0 1 = nI n ∧ M 12 0 21 = nI n ∧ ∀ j, j < n → ∃ b, b < 256 ∧ M 73 0 j = nI b ∧ C 27 0 j &&& 255 = nI b
def wordsT : List Int32 := [32, 97, 103, 101, 32, 119, 104, 101, 110, 32, 111, 114, 32, 97, 110, 100, 32, 110, 111, 116, 32, 116, 104, 101, 110, 32, 110, 111, 119, 32, 100, 117, 115, 116, 32, 111, 119, 110, 32, 114, 101, 97, 100, 32, 115, 104, 101, 108, 102, 32, 107, 105, 110, 100, 32, 97, 108, 105, 118, 101, 32, 112, 97, 112, 101, 114, 32]
def Wrd (M : Mem) : Prop := ∀ j, j < 67 → M 74 0 j = wordsT.getD j 0
def Flt (C M : Mem) : Prop := C 4 0 7 = M 12 0 39 ∧ C 4 0 8 = M 12 0 40
/-- the image -/
def vw1 (C : Mem) : Mem := fun k i j => if k = 5 ∨ k = 6 then C k (12 + i) j else C k (i + 1) j
def img (M : Mem) : Mem := fun k _ j => match k with
  | 12 => (match j with | 1 => M 89 0 0 | 2 => M 89 0 1 | 9 => M 89 0 2 | 3 => M 89 0 3 | 10 => M 89 0 64 | 18 => M 89 0 149 | 45 => M 89 0 750 | 27 => M 89 0 775 | _ => 0)
  | 60 => M 89 0 (4 + 5 * j) | 61 => M 89 0 (5 + 5 * j) | 62 => M 89 0 (6 + 5 * j) | 63 => M 89 0 (7 + 5 * j) | 64 => M 89 0 (8 + 5 * j)
  | 65 => M 89 0 (65 + 7 * j) | 66 => M 89 0 (66 + 7 * j) | 67 => M 89 0 (67 + 7 * j) | 68 => M 89 0 (68 + 7 * j) | 69 => M 89 0 (69 + 7 * j) | 70 => M 89 0 (70 + 7 * j) | 71 => M 89 0 (71 + 7 * j)
  | 72 => M 89 0 (150 + j)
  | 84 => M 89 0 (751 + 4 * j) | 85 => M 89 0 (752 + 4 * j) | 86 => M 89 0 (753 + 4 * j) | 87 => M 89 0 (754 + 4 * j)
  | 75 => M 89 0 (776 + 3 * j) | 76 => M 89 0 (777 + 3 * j) | 77 => M 89 0 (778 + 3 * j)
  | 78 => M 89 0 (824 + 2 * j) | 79 => M 89 0 (825 + 2 * j)
  | _ => 0
def Kpt (C M : Mem) : Prop := (C 11 0 2 = 0 ∧ M 12 0 52 = 0) ∨ (C 11 0 2 = 1 ∧ M 12 0 52 = 1 ∧ ∃ nr np dy nl nc, Cor (vw1 C) (img M) nr np dy nl nc)
def Rel (C M : Mem) : Prop := ∃ nr np dy nl nc, Cor C M nr np dy nl nc ∧ Und C M nr np nl ∧ Tap C M ∧ Wrd M ∧ Flt C M ∧ Kpt C M
/-! what a block needs of the memories -/
theorem RdR.cg {C M C' M' : Mem} {nr : Nat} (h : RdR C M nr) (hc : ∀ i, i < 12 → C' 6 i = C 6 i) (h12 : nr ≤ 12) (h0 : M' 60 = M 60) (h1 : M' 61 = M 61) (h2 : M' 62 = M 62) (h3 : M' 63 = M 63) (h4 : M' 64 = M 64) : RdR C' M' nr := by
  intro i hi
  rw [hc i (by omega), h0, h1, h2, h3, h4]
  exact h i hi
theorem PpR.cg {C M C' M' : Mem} {nr np dy : Nat} (h : PpR C M nr np dy) (h12 : np ≤ 12) (hc : ∀ i, i < 12 → C' 5 i = C 5 i) (hm : ∀ i, i < 12 → M' 65 0 i = M 65 0 i ∧ M' 66 0 i = M 66 0 i ∧ M' 67 0 i = M 67 0 i ∧ M' 68 0 i = M 68 0 i ∧ M' 69 0 i = M 69 0 i ∧ M' 70 0 i = M 70 0 i ∧ M' 71 0 i = M 71 0 i) : PpR C' M' nr np dy := by
  intro i hi
  obtain ⟨a, b, c, d, e, f, g⟩ := hm i (by omega)
  rw [hc i (by omega), a, b, c, d, e, f, g]
  exact h i hi
theorem BkR.cg {C M C' M' : Mem} {nr nl : Nat} (h : BkR C M nr nl) (hc : C' 16 0 = C 16 0) (hm : M' 72 0 = M 72 0) : BkR C' M' nr nl := by
  unfold BkR
  rw [hc, hm]
  exact h
theorem CmR.cg {C M C' M' : Mem} {np nc : Nat} (h : CmR C M np nc) (h0 : C' 17 0 = C 17 0) (h1 : C' 18 0 = C 18 0) (h2 : C' 19 0 = C 19 0) (h3 : C' 20 0 = C 20 0) (m0 : M' 84 0 = M 84 0) (m1 : M' 85 0 = M 85 0) (m2 : M' 86 0 = M 86 0) (m3 : M' 87 0 = M 87 0) : CmR C' M' np nc := by
  unfold CmR
  rw [h0, h1, h2, h3, m0, m1, m2, m3]
  exact h
theorem LwR'.cg {C M C' M' : Mem} {cd : List (Nat × Int32)} {ls : List (Nat × Nat × Nat)} (h : LwR' C M cd ls) (h0 : C' 3 0 6 = C 3 0 6) (h1 : C' 21 0 = C 21 0) (h2 : C' 22 0 = C 22 0) (h3 : C' 23 0 = C 23 0) (h4 : C' 24 0 = C 24 0) (m0 : M' 12 0 27 = M 12 0 27) (m1 : M' 78 0 = M 78 0) (m2 : M' 79 0 = M 79 0) (m3 : M' 75 0 = M 75 0) (m4 : M' 76 0 = M 76 0) (m5 : M' 77 0 = M 77 0) : LwR' C' M' cd ls := by
  unfold LwR'
  rw [h0, h1, h2, h3, h4, m0, m1, m2, m3, m4, m5]
  exact h
theorem LwR.cg {C M C' M' : Mem} (h : LwR C M) (h0 : C' 3 0 6 = C 3 0 6) (h1 : C' 21 0 = C 21 0) (h2 : C' 22 0 = C 22 0) (h3 : C' 23 0 = C 23 0) (h4 : C' 24 0 = C 24 0) (m0 : M' 12 0 27 = M 12 0 27) (m1 : M' 78 0 = M 78 0) (m2 : M' 79 0 = M 79 0) (m3 : M' 75 0 = M 75 0) (m4 : M' 76 0 = M 76 0) (m5 : M' 77 0 = M 77 0) : LwR C' M' := by
  obtain ⟨cd, ls, h⟩ := h
  exact ⟨cd, ls, h.cg h0 h1 h2 h3 h4 m0 m1 m2 m3 m4 m5⟩
theorem Und.zero {C M : Mem} {nr np nl : Nat} (hc : C 10 0 3 = 0) (hm : M 12 0 44 = 0) (lt : Nat) (hl : lt < 10) (h2 : C 10 0 2 = nI lt) : Und C M nr np nl := ⟨0, lt, fun _ => nl, by omega, hl, hc, hm, h2, rfl, fun t ht => absurd ht (by omega)⟩
theorem Und.cg {C M C' M' : Mem} {nr nr' np np' nl : Nat} (h : Und C M nr np nl) (hr : nr ≤ nr') (hp : np ≤ np') (h12 : np ≤ 12) (hc : C' 10 0 = C 10 0) (h5 : ∀ i, (i < 12 ∨ 25 ≤ i) → C' 5 i = C 5 i) (h30 : C' 30 0 = C 30 0) (hm : M' 12 0 44 = M 12 0 44) (h83 : M' 83 0 = M 83 0) : Und C' M' nr' np' nl := by
  obtain ⟨u, lt, ls, a1, a2, a3, a4, a5, a6, a7⟩ := h
  refine ⟨u, lt, ls, a1, a2, by rw [hc]; exact a3, by rw [hm]; exact a4, by rw [hc]; exact a5, a6, fun t ht => ?_⟩
  obtain ⟨p, b1, b2, b3, b4, ⟨q, b5, b6⟩, b7⟩ := a7 t ht
  refine ⟨p, by omega, ?_, ?_, ?_, ⟨q, by omega, ?_⟩, ?_⟩
  · rw [h83, h5 _ (Or.inr (by omega))]; exact b2
  · rw [h5 _ (Or.inr (by omega)), h5 p (Or.inl (by omega))]; exact b3
  · rw [h83]; exact b4
  · rw [h83]; exact b6
  · rw [h30]; exact b7
theorem Tap.cg {C M C' M' : Mem} (h : Tap C M) (h0 : C' 7 0 1 = C 7 0 1) (h1 : C' 27 0 = C 27 0) (m0 : M' 12 0 21 = M 12 0 21) (m1 : M' 73 0 = M 73 0) : Tap C' M' := by
  unfold Tap
  rw [h0, h1, m0, m1]
  exact h
theorem Wrd.cg {M M' : Mem} (h : Wrd M) (m : M' 74 0 = M 74 0) : Wrd M' := by
  unfold Wrd
  rw [m]
  exact h
theorem Cor.cg {C M C' M' : Mem} {nr np dy nl nc : Nat} (h : Cor C M nr np dy nl nc) (c0 : ∀ j, 6 ≤ j → C' 0 0 j = C 0 0 j) (c1 : C' 1 0 1 = C 1 0 1) (c2 : C' 2 0 4 = C 2 0 4) (c3 : C' 3 0 6 = C 3 0 6) (c5 : ∀ i, i < 12 → C' 5 i = C 5 i) (c6 : ∀ i, i < 12 → C' 6 i = C 6 i) (c16 : C' 16 0 = C 16 0) (c17 : C' 17 0 = C 17 0) (c18 : C' 18 0 = C 18 0) (c19 : C' 19 0 = C 19 0) (c20 : C' 20 0 = C 20 0) (c21 : C' 21 0 = C 21 0) (c22 : C' 22 0 = C 22 0) (c23 : C' 23 0 = C 23 0) (c24 : C' 24 0 = C 24 0)
    (m12 : ∀ j, (j = 1 ∨ j = 2 ∨ j = 3 ∨ j = 9 ∨ j = 10 ∨ j = 18 ∨ j = 27 ∨ j = 45) → M' 12 0 j = M 12 0 j) (m60 : ∀ k, 60 ≤ k → k ≤ 64 → M' k = M k) (m65 : ∀ k i, 65 ≤ k → k ≤ 71 → i < 12 → M' k 0 i = M k 0 i) (m72 : M' 72 0 = M 72 0) (m75 : ∀ k, 75 ≤ k → k ≤ 79 → M' k 0 = M k 0) (m84 : ∀ k, 84 ≤ k → k ≤ 87 → M' k 0 = M k 0) : Cor C' M' nr np dy nl nc := by
  obtain ⟨a1, a2, a3, a4, a5, a6⟩ := h
  have hnr : nr ≤ 12 := a1.1.2.2
  have hnp : np ≤ 12 := a1.2.1.2.2
  refine ⟨?_, a2.cg c6 hnr (m60 60 (by omega) (by omega)) (m60 61 (by omega) (by omega)) (m60 62 (by omega) (by omega)) (m60 63 (by omega) (by omega)) (m60 64 (by omega) (by omega)), a3.cg hnp c5 (fun i hi => ⟨m65 65 i (by omega) (by omega) hi, m65 66 i (by omega) (by omega) hi, m65 67 i (by omega) (by omega) hi, m65 68 i (by omega) (by omega) hi, m65 69 i (by omega) (by omega) hi, m65 70 i (by omega) (by omega) hi, m65 71 i (by omega) (by omega) hi⟩), a4.cg c16 m72, a5.cg c17 c18 c19 c20 (m84 84 (by omega) (by omega)) (m84 85 (by omega) (by omega)) (m84 86 (by omega) (by omega)) (m84 87 (by omega) (by omega)), a6.cg c3 c21 c22 c23 c24 (m12 27 (by omega)) (m75 78 (by omega) (by omega)) (m75 79 (by omega) (by omega)) (m75 75 (by omega) (by omega)) (m75 76 (by omega) (by omega)) (m75 77 (by omega) (by omega))⟩
  unfold CtR
  rw [c0 6 (by omega), c0 7 (by omega), c0 8 (by omega), c0 9 (by omega), c0 10 (by omega), c1, c2, m12 1 (by omega), m12 2 (by omega), m12 3 (by omega), m12 9 (by omega), m12 10 (by omega), m12 18 (by omega), m12 45 (by omega)]
  exact a1
theorem Kpt.cg {C M C' M' : Mem} (h : Kpt C M) (hc : C' 11 0 2 = C 11 0 2) (hm : M' 12 0 52 = M 12 0 52) (h89 : M' 89 0 = M 89 0) (h1 : ∀ k i, (k ≤ 3 ∨ k = 5 ∨ k = 6 ∨ (16 ≤ k ∧ k ≤ 24)) → (k = 5 ∨ k = 6 → 12 ≤ i ∧ i < 24) → (k ≠ 5 → k ≠ 6 → i = 1) → C' k i = C k i) : Kpt C' M' := by
  have e : img M' = img M := by
    unfold img
    rw [h89]
  rcases h with ⟨a, b⟩ | ⟨a, b, nr, np, dy, nl, nc, c⟩
  · exact Or.inl ⟨by rw [hc]; exact a, by rw [hm]; exact b⟩
  · refine Or.inr ⟨by rw [hc]; exact a, by rw [hm]; exact b, nr, np, dy, nl, nc, ?_⟩
    rw [e]
    have hv : ∀ k, (k ≤ 3 ∨ (16 ≤ k ∧ k ≤ 24)) → k ≠ 5 → k ≠ 6 → vw1 C' k 0 = vw1 C k 0 := by
      intro k hk h5 h6
      funext j
      unfold vw1
      rw [if_neg (by omega), if_neg (by omega), h1 k 1 (by omega) (fun q => absurd q (by omega)) (fun _ _ => rfl)]
    have hv5 : ∀ k i, (k = 5 ∨ k = 6) → i < 12 → vw1 C' k i = vw1 C k i := by
      intro k i hk hi
      funext j
      unfold vw1
      rw [if_pos hk, if_pos hk, h1 k (12 + i) (by omega) (fun _ => by omega) (fun q1 q2 => absurd hk (by omega))]
    exact c.cg (fun j _ => by rw [hv 0 (by omega) (by omega) (by omega)]) (by rw [hv 1 (by omega) (by omega) (by omega)]) (by rw [hv 2 (by omega) (by omega) (by omega)]) (by rw [hv 3 (by omega) (by omega) (by omega)]) (fun i hi => hv5 5 i (by omega) hi) (fun i hi => hv5 6 i (by omega) hi) (hv 16 (by omega) (by omega) (by omega)) (hv 17 (by omega) (by omega) (by omega)) (hv 18 (by omega) (by omega) (by omega)) (hv 19 (by omega) (by omega) (by omega)) (hv 20 (by omega) (by omega) (by omega)) (hv 21 (by omega) (by omega) (by omega)) (hv 22 (by omega) (by omega) (by omega)) (hv 23 (by omega) (by omega) (by omega)) (hv 24 (by omega) (by omega) (by omega)) (fun _ _ => rfl) (fun _ _ _ => rfl) (fun _ _ _ _ _ => rfl) rfl (fun _ _ _ => rfl) (fun _ _ _ => rfl)
/-! scratch memory: what no answer ever shows -/
def sc (C C' : Mem) : Prop := ∀ k i, ¬ (k = 15 ∨ k = 25 ∨ k = 28 ∨ k = 8 ∨ (k = 5 ∧ i = 24)) → C' k i = C k i
def sm (M M' : Mem) : Prop := (∀ k i, k ≠ 12 → ¬ (k = 81 ∨ k = 82 ∨ k = 88 ∨ (65 ≤ k ∧ k ≤ 70)) → M' k i = M k i) ∧ (∀ i j, j ≠ 0 → M' 12 i j = M 12 i j) ∧ ∀ k i j, 65 ≤ k → k ≤ 70 → j ≠ 12 → M' k i j = M k i j
theorem sc.rf {C : Mem} : sc C C := fun _ _ _ => rfl
theorem sm.rf {M : Mem} : sm M M := ⟨fun _ _ _ _ => rfl, fun _ _ _ => rfl, fun _ _ _ _ _ _ => rfl⟩
theorem sc.tr {A B C : Mem} (h : sc A B) (h2 : sc B C) : sc A C := fun k i q => (h2 k i q).trans (h k i q)
theorem sm.tr {A B C : Mem} (h : sm A B) (h2 : sm B C) : sm A C := ⟨fun k i a b => (h2.1 k i a b).trans (h.1 k i a b), fun i j a => (h2.2.1 i j a).trans (h.2.1 i j a), fun k i j a b c => (h2.2.2 k i j a b c).trans (h.2.2 k i j a b c)⟩
theorem sc.k {C C' : Mem} (h : sc C C') (k : Nat) (hk : k ≠ 15 ∧ k ≠ 25 ∧ k ≠ 28 ∧ k ≠ 8 ∧ k ≠ 5) : C' k = C k := funext fun i => h k i (by omega)
theorem sm.k {M M' : Mem} (h : sm M M') (k : Nat) (hk : k ≠ 81 ∧ k ≠ 82 ∧ k ≠ 88 ∧ k ≠ 12 ∧ ¬ (65 ≤ k ∧ k ≤ 70)) : M' k = M k := funext fun i => h.1 k i (by omega) (by omega)
theorem Cor.sc {C M C' M' : Mem} {nr np dy nl nc : Nat} (h : Cor C M nr np dy nl nc) (hc : sc C C') (hm : sm M M') : Cor C' M' nr np dy nl nc := by
  refine h.cg (fun j _ => ?_) ?_ ?_ ?_ (fun i hi => hc 5 i (by omega)) (fun i hi => hc 6 i (by omega)) (hc 16 0 (by omega)) (hc 17 0 (by omega)) (hc 18 0 (by omega)) (hc 19 0 (by omega)) (hc 20 0 (by omega)) (hc 21 0 (by omega)) (hc 22 0 (by omega)) (hc 23 0 (by omega)) (hc 24 0 (by omega)) (fun j hj => hm.2.1 0 j (by omega)) (fun k h1 h2 => hm.k k (by omega)) (fun k i h1 h2 h3 => ?_) (hm.1 72 0 (by omega) (by omega)) (fun k h1 h2 => hm.1 k 0 (by omega) (by omega)) (fun k h1 h2 => hm.1 k 0 (by omega) (by omega))
  · rw [hc 0 0 (by omega)]
  · rw [hc 1 0 (by omega)]
  · rw [hc 2 0 (by omega)]
  · rw [hc 3 0 (by omega)]
  · by_cases hk : k = 71
    · subst hk; rw [hm.1 71 0 (by omega) (by omega)]
    · exact hm.2.2 k 0 i h1 (by omega) (by omega)
theorem Rel.sc {C M C' M' : Mem} (h : Rel C M) (hc : sc C C') (hm : sm M M') : Rel C' M' := by
  obtain ⟨nr, np, dy, nl, nc, a1, a2, a3, a4, a5, a6⟩ := h
  refine ⟨nr, np, dy, nl, nc, a1.sc hc hm, a2.cg (by omega) (by omega) a1.1.2.1.2.2 (hc 10 0 (by omega)) (fun i hi => hc 5 i (by omega)) (hc 30 0 (by omega)) (hm.2.1 0 44 (by omega)) (hm.1 83 0 (by omega) (by omega)), a3.cg ?_ (hc 27 0 (by omega)) (hm.2.1 0 21 (by omega)) (hm.1 73 0 (by omega) (by omega)), a4.cg (hm.1 74 0 (by omega) (by omega)), ?_, a6.cg ?_ (hm.2.1 0 52 (by omega)) (hm.1 89 0 (by omega) (by omega)) (fun k i h1 h2 h3 => hc k i (by omega))⟩
  · rw [hc 7 0 (by omega)]
  · unfold Flt
    rw [hc 4 0 (by omega), hm.2.1 0 39 (by omega), hm.2.1 0 40 (by omega)]
    exact a5
  · rw [hc 11 0 (by omega)]
theorem sm.told {M : Mem} {x : Int32} : sm M (up M 12 0 0 x) := ⟨fun k i h _ => by rw [upk h], fun i j h => by simp [up, h], fun k i j h1 h2 _ => by rw [upk (by omega)]⟩
