/-! ===== PURE: leaps ===== -/
def fs (P : Nat → Bool) : Nat → Option Nat
  | 0 => none
  | n + 1 => match fs P n with
    | some b => some b
    | none => if P n = true then some n else none
theorem fs_mono {P : Nat → Bool} {b m : Nat} (h : fs P m = some b) : ∀ k, fs P (m + k) = some b
  | 0 => h
  | k + 1 => by
    have := fs_mono h k
    show (match fs P (m + k) with | some b => some b | none => if P (m + k) = true then some (m + k) else none) = _
    rw [this]
theorem fs_cnt {P : Nat → Bool} : ∀ n, cnt P n = 0 ↔ fs P n = none
  | 0 => ⟨fun _ => rfl, fun _ => rfl⟩
  | n + 1 => by
    have ih := fs_cnt (P := P) n
    unfold cnt fs
    cases hP : P n with
    | true =>
      cases hf : fs P n with
      | some b => simp
      | none => simp
    | false =>
      cases hf : fs P n with
      | some b =>
        rw [hf] at ih
        simp at ih ⊢
        exact ih
      | none =>
        rw [hf] at ih
        simp at ih ⊢
        exact ih
theorem fs_one {P : Nat → Bool} {n : Nat} (h : fs P n = none) (hp : P n = true) : fs P (n + 1) = some n := by
  unfold fs
  rw [h]
  simp [hp]
theorem fs_no {P : Nat → Bool} {n : Nat} (hp : P n = false) : fs P (n + 1) = fs P n := by
  show (match fs P n with | some b => some b | none => if P n = true then some n else none) = _
  cases h : fs P n with
  | some b => rfl
  | none => simp [hp]
theorem fs_some {P : Nat → Bool} {n b : Nat} (h : fs P n = some b) : fs P (n + 1) = some b := fs_mono h 1
theorem bkE {C M : Mem} {nr nl i j : Nat} (hBk : BkR C M nr nl) (c11 : C 1 0 1 = nI nl) (hnl : nl ≤ 120) (hi : i < nl) (hj : j < 5) : fX1_entry (nI i) (nI j) C = some (M 72 0 (5 * i + j)) := by
  have e1 : nI i * 5 + nI j = nI (5 * i + j) := by rw [show (5 : Int32) = nI 5 from rfl, pk_mul, nI_add, Nat.mul_comm]
  unfold fX1_entry fX1_entry_28
  have w : fX11_within (nI j) 0 4 = 1 := within_in (n := 5) (by omega) hj
  rw [c11, if_neg (by rw [within_in (by omega) hi]; decide), if_neg (by rw [w]; decide), if_neg (show ¬ (1 : Int32) = 0 by decide), e1, ix_nI (by omega) (by omega), bindS, (hBk i hi).1 j hj]
theorem sim_leaps {C M : Mem} (h : Rel C M) (p0 p1 p2 : Int32) : ∃ r M', fX11_leaps p0 p1 p2 C = some r ∧ fX12_leaps p0 p1 p2 M = some (r, M') ∧ Rel C M' := by
  have h0 := h.told
  unfold fX11_leaps fX12_leaps
  generalize up M 12 0 0 0 = M0 at h0 ⊢
  have h' := h0
  obtain ⟨nr, np, dy, nl, nc, ⟨hCt, hRd, hPp, hBk, hCm, hLw⟩, hU, hT, hW, hF, hK⟩ := h'
  obtain ⟨⟨c6, m3, hnr⟩, ⟨c7, m10, hnp⟩, ⟨c8, m2, hdy⟩, ⟨c9, c10⟩, ⟨c11, m18, hnl⟩, c24, m45, hnc⟩ := hCt
  rw [isIn_eq]
  by_cases a1 : fX11_within p0 0 3 = 0
  · rw [if_pos a1, if_pos a1]; exact ⟨_, _, rfl, rfl, h0⟩
  rw [if_neg a1, if_neg a1]
  by_cases a2 : fX11_within p1 0 999 = 0
  · rw [if_pos a2, if_pos a2]; exact ⟨_, _, rfl, rfl, h0⟩
  rw [if_neg a2, if_neg a2]
  obtain ⟨w1, w2⟩ := within_ne a2
  obtain ⟨n, hn, rfl⟩ := nI_of2 (M := 999) (n := 999) (by decide) (Int32.not_lt.mpr w1) w2
  -- whether a line leaps
  have hL : ∃ L : Nat → Bool, ∀ i, i < nl → fX0_isLeap (nI i) p0 (nI n) C = some (if L i = true then 1 else 0) ∧ ∀ (x3 x4 x5 : Int32) (fuel : Nat), fX12_leaps_48 (fuel + 1) p0 (nI n) x3 x4 x5 (nI i) M0 = if L i = true then (if x4 = 0 then fX12_leaps_48 fuel p0 (nI n) x3 (x4 + 1) (nI i) (nI (i + 1)) M0 else fX12_leaps_48 fuel p0 (nI n) x3 (x4 + 1) x5 (nI (i + 1)) M0) else fX12_leaps_48 fuel p0 (nI n) x3 x4 x5 (nI (i + 1)) M0 := by
    have h1 : ∀ i, ∃ l : Bool, i < nl → fX0_isLeap (nI i) p0 (nI n) C = some (if l = true then 1 else 0) ∧ ∀ (x3 x4 x5 : Int32) (fuel : Nat), fX12_leaps_48 (fuel + 1) p0 (nI n) x3 x4 x5 (nI i) M0 = if l = true then (if x4 = 0 then fX12_leaps_48 fuel p0 (nI n) x3 (x4 + 1) (nI i) (nI (i + 1)) M0 else fX12_leaps_48 fuel p0 (nI n) x3 (x4 + 1) x5 (nI (i + 1)) M0) else fX12_leaps_48 fuel p0 (nI n) x3 x4 x5 (nI (i + 1)) M0 := by
      intro i
      by_cases hi : i < nl
      · obtain ⟨b0, ⟨q, q1, q2⟩, ⟨a, a3, a4⟩, b, b3, b4⟩ := hBk i hi
        have tc : (nI b - nI a).toInt = (b : Int) - a := by rw [i_sub, nI_toInt (by omega), nI_toInt (by omega)] <;> rw [nI_toInt (by omega), nI_toInt (by omega)] <;> omega
        have tm : (nI a - nI b).toInt = (a : Int) - b := by rw [i_sub, nI_toInt (by omega), nI_toInt (by omega)] <;> rw [nI_toInt (by omega), nI_toInt (by omega)] <;> omega
        have t0 : (0 : Int32).toInt = 0 := by decide
        obtain ⟨g, g1, g2, g3⟩ : ∃ g : Nat, g ≤ 999 ∧ (if 0 ≤ nI b - nI a then nI b - nI a else 0 - (nI b - nI a)) = nI g ∧ fX12_without (nI a - nI b) = nI g := by
          rcases Nat.lt_trichotomy a b with hab | hab | hab
          · refine ⟨b - a, by omega, ?_, ?_⟩
            · rw [if_pos (by rw [i_le, tc, t0]; omega)]
              exact i_nI (by rw [tc]; omega) (by omega)
            · unfold fX12_without
              rw [if_neg (by rw [i_le, tm, t0]; omega)]
              refine i_nI ?_ (by omega)
              rw [Int32.toInt_neg, tm]
              rw [Int.bmod_eq_of_le (by omega) (by omega)]
              omega
          · subst hab
            exact ⟨0, by omega, by rw [Int32.sub_self]; rfl, by rw [Int32.sub_self]; rfl⟩
          · refine ⟨a - b, by omega, ?_, ?_⟩
            · rw [if_neg (by rw [i_le, tc, t0]; omega)]
              refine i_nI ?_ (by omega)
              rw [i_sub] <;> rw [tc, t0] <;> omega
            · unfold fX12_without
              rw [if_pos (by rw [i_le, tm, t0]; omega)]
              exact i_nI (by rw [tm]; omega) (by omega)
        refine ⟨decide (M0 63 0 q = p0 ∧ n ≤ g), fun _ => ⟨?_, fun x3 x4 x5 fuel => ?_⟩⟩
        · unfold fX0_isLeap fX1_leapOf
          rw [show (1 : Int32) = nI 1 from rfl, show (4 : Int32) = nI 4 from rfl, show (3 : Int32) = nI 3 from rfl, bkE hBk c11 hnl hi (by omega), bkE hBk c11 hnl hi (by omega), bkE hBk c11 hnl hi (by omega), bindS, bindS, bindS, q2, a4, b4, g2]
          rcases readerAt_spec (x := nI q) c6 hnr with ⟨e, ho⟩ | ⟨j, hj, hj2, e⟩
          · rcases ho with ho | ho
            · exact absurd ho (nI_pos (by omega))
            · exact absurd ho (nI_ge (by omega) (by omega))
          · have eq : q = j := (nI_eq (by omega) (by omega)).mp hj2
            subst eq
            rw [e, bindS, mtS, (hRd q hj).1.2.2.2.1]
            by_cases k1 : M0 63 0 q = p0
            · rw [if_pos k1, bindS, ifLt (by omega) (by omega)]
              by_cases k2 : g < n
              · rw [if_pos k2, if_neg (show ¬ decide (M0 63 0 q = p0 ∧ n ≤ g) = true from fun z => by have := (of_decide_eq_true z).2; omega)]
              · rw [if_neg k2, if_pos (decide_eq_true (show M0 63 0 q = p0 ∧ n ≤ g from ⟨k1, by omega⟩))]
            · rw [if_neg k1, if_neg (show ¬ decide (M0 63 0 q = p0 ∧ n ≤ g) = true from fun z => k1 (of_decide_eq_true z).1)]
        · have e1 : 5 * nI i + 1 = nI (5 * i + 1) := by rw [show (5 : Int32) = nI 5 from rfl, pk_mul, nI_1]
          have e3 : 5 * nI i + 3 = nI (5 * i + 3) := by rw [show (5 : Int32) = nI 5 from rfl, pk_mul, show (3 : Int32) = nI 3 from rfl, nI_add]
          have e4 : 5 * nI i + 4 = nI (5 * i + 4) := by rw [show (5 : Int32) = nI 5 from rfl, pk_mul, show (4 : Int32) = nI 4 from rfl, nI_add]
          rw [fX12_leaps_48, m18, if_neg (nI_ge (by omega) (by omega)), e1, e3, e4, ix_nI (by omega) (by omega), ix_nI (by omega) (by omega), ix_nI (by omega) (by omega), bindS, bindS, bindS, q2, ix_nI (show q < 12 by omega) (by omega), bindS, a4, b4, g3, nI_1]
          by_cases k1 : M0 63 0 q = p0
          · rw [if_pos k1, ifLe (by omega) (by omega)]
            by_cases k2 : n ≤ g
            · rw [if_pos k2, if_pos (decide_eq_true ⟨k1, k2⟩)]
            · rw [if_neg k2, if_neg (show ¬ decide (M0 63 0 q = p0 ∧ n ≤ g) = true from fun z => by have := (of_decide_eq_true z).2; omega)]
          · rw [if_neg k1, if_neg (show ¬ decide (M0 63 0 q = p0 ∧ n ≤ g) = true from fun z => k1 (of_decide_eq_true z).1)]
      · exact ⟨false, fun q => absurd q hi⟩
    exact Classical.axiomOfChoice h1
  obtain ⟨L, hL⟩ := hL
  have hcnt : ∀ (fuel i : Nat), i ≤ nl → nl - i < fuel → fX0_countLeaps_5 fuel p0 (nI n) (nI (cnt L i)) (nI i) C = some (nI (cnt L nl)) := by
    intro fuel
    induction fuel with
    | zero => intro i _ h; omega
    | succ fuel ih =>
      intro i h1 h2
      rw [fX0_countLeaps_5, c11]
      by_cases e : i = nl
      · subst e
        rw [if_pos (Int32.le_refl _)]
      · rw [if_neg (nI_ge (by omega) (by omega)), (hL i (by omega)).1, bindS, nI_1, nI_1]
        have := ih (i + 1) (by omega) (by omega)
        cases hl : L i with
        | true =>
          rw [if_pos rfl, if_neg (by decide)]
          rw [show cnt L (i + 1) = cnt L i + 1 by simp [cnt, hl]] at this
          exact this
        | false =>
          rw [if_neg (show ¬ false = true by decide), if_pos rfl]
          rw [show cnt L (i + 1) = cnt L i by simp [cnt, hl]] at this
          exact this
  have hfst : ∀ (fuel i : Nat), i ≤ nl → nl - i < fuel → fs L i = none → fX0_firstLeap_2 fuel p0 (nI n) (nI i) C = some (oI (fs L nl)) := by
    intro fuel
    induction fuel with
    | zero => intro i _ h; omega
    | succ fuel ih =>
      intro i h1 h2 h3
      rw [fX0_firstLeap_2, c11]
      by_cases e : i = nl
      · subst e
        rw [if_pos (Int32.le_refl _), h3]
        rfl
      · rw [if_neg (nI_ge (by omega) (by omega)), (hL i (by omega)).1, bindS, nI_1]
        cases hl : L i with
        | true =>
          rw [if_pos rfl, if_neg (by decide)]
          have := fs_mono (fs_one h3 hl) (nl - (i + 1))
          rw [show i + 1 + (nl - (i + 1)) = nl by omega] at this
          rw [this]
          rfl
        | false =>
          rw [if_neg (show ¬ false = true by decide), if_pos rfl]
          exact ih (i + 1) (by omega) (by omega) (by rw [fs_no hl, h3])
  have href : ∀ (fuel i : Nat), i ≤ nl → nl - i < fuel → fX12_leaps_48 fuel p0 (nI n) p2 (nI (cnt L i)) (oI (fs L i)) (nI i) M0 = if p2 = 0 then some (nI (cnt L nl), M0) else some (oI (fs L nl), M0) := by
    intro fuel
    induction fuel with
    | zero => intro i _ h; omega
    | succ fuel ih =>
      intro i h1 h2
      by_cases e : i = nl
      · subst e
        rw [fX12_leaps_48, m18, if_pos (Int32.le_refl _)]
      · rw [(hL i (by omega)).2]
        have := ih (i + 1) (by omega) (by omega)
        have hc := cnt_le L i
        cases hl : L i with
        | true =>
          rw [if_pos rfl, nI_1, ← this, show cnt L (i + 1) = cnt L i + 1 by simp [cnt, hl]]
          cases hf : fs L i with
          | none =>
            rw [(fs_cnt i).mpr hf, if_pos (show nI 0 = 0 from rfl), fs_one hf hl]
            rfl
          | some b =>
            have : ¬ cnt L i = 0 := fun q => by rw [(fs_cnt i).mp q] at hf; cases hf
            rw [if_neg (nI_ne0 (by omega) (by omega)), fs_some hf]
        | false =>
          rw [if_neg (by decide), ← this, fs_no hl, show cnt L (i + 1) = cnt L i by simp [cnt, hl]]
  have hr := href 5000 0 (by omega) (by omega)
  by_cases b0 : p2 = 0
  · subst b0
    rw [if_pos rfl, if_neg (by decide)]
    unfold fX0_countLeaps
    rw [show fX0_countLeaps_5 5000 p0 (nI n) 0 0 C = _ from hcnt 5000 0 (by omega) (by omega), bindS]
    rw [if_pos rfl] at hr
    exact ⟨_, _, rfl, hr, h0⟩
  · rw [if_neg b0]
    by_cases b1 : p2 = 1
    · subst b1
      rw [if_pos rfl, if_neg (by decide)]
      unfold fX0_firstLeap
      rw [show fX0_firstLeap_2 5000 p0 (nI n) 0 C = _ from hfst 5000 0 (by omega) (by omega) rfl, bindS]
      rw [if_neg b0] at hr
      exact ⟨_, _, rfl, hr, h0⟩
    · rw [if_neg b1]
      have w0 : fX11_within p2 0 1 = 0 := by
        rcases Decidable.em (fX11_within p2 0 1 = 0) with q | q
        · exact q
        · rcases zero_one (within_ne q) with e | e
          · exact absurd e b0
          · exact absurd e b1
      rw [if_pos w0]
      exact ⟨_, _, rfl, rfl, h0⟩
