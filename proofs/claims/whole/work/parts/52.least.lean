/-! ===== PURE: the least set ===== -/
def Sfx (W : Nat → Nat) (np x : Nat) : Prop := ∀ p, p < np → ¬ (W p &&& (x ||| 4096)) = 0
theorem nz_or {a x : Nat} : ¬ (a &&& (x ||| 4096)) = 0 ↔ ∃ i, a.testBit i = true ∧ (x.testBit i = true ∨ i = 12) := by
  rw [nz_bit]
  constructor
  · rintro ⟨i, hi⟩
    rw [Nat.testBit_and, Nat.testBit_or, Bool.and_eq_true, Bool.or_eq_true, show (4096 : Nat) = 2 ^ 12 from rfl, Nat.testBit_two_pow] at hi
    exact ⟨i, hi.1, hi.2.imp id (fun z => (of_decide_eq_true z).symm)⟩
  · rintro ⟨i, h1, h2⟩
    refine ⟨i, ?_⟩
    rw [Nat.testBit_and, Nat.testBit_or, Bool.and_eq_true, Bool.or_eq_true, show (4096 : Nat) = 2 ^ 12 from rfl, Nat.testBit_two_pow]
    exact ⟨h1, h2.imp id (fun z => decide_eq_true z.symm)⟩
theorem and12 {a : Nat} : ¬ (a &&& 4096) = 0 ↔ a.testBit 12 = true := by
  have := nz_or (a := a) (x := 0)
  rw [Nat.zero_or] at this
  rw [this]
  constructor
  · rintro ⟨i, h1, h2⟩
    rcases h2 with h2 | h2
    · rw [Nat.zero_testBit] at h2; cases h2
    · rw [← h2]; exact h1
  · exact fun h => ⟨12, h, Or.inr rfl⟩
theorem and_lt13 {a x : Nat} (ha : a < 8192) : (a &&& x) < 2 ^ 31 := Nat.lt_of_le_of_lt Nat.and_le_left (by omega)
theorem suff_c {C : Mem} {W : Nat → Nat} {np x : Nat} (c7 : C 0 0 7 = nI np) (hnp : np ≤ 12) (hW : ∀ j, j < np → C 28 0 j = nI (W j) ∧ W j < 8192) : ∃ w, w ≤ 1 ∧ fX8_suffices (nI x) C = some (nI w) ∧ (w = 1 ↔ Sfx W np x) := by
  have run : ∀ (fuel i : Nat), i ≤ np → np - i < fuel → ∃ w, w ≤ 1 ∧ fX8_suffices_2 fuel (nI x) (nI i) C = some (nI w) ∧ (w = 1 ↔ ∀ p, i ≤ p → p < np → ¬ (W p &&& (x ||| 4096)) = 0) := by
    intro fuel
    induction fuel with
    | zero => intro i _ h; omega
    | succ fuel ih =>
      intro i h1 h2
      rw [fX8_suffices_2, c7]
      by_cases e : i = np
      · subst e
        rw [if_pos (Int32.le_refl _)]
        exact ⟨1, by omega, rfl, ⟨fun _ p a b => absurd b (by omega), fun _ => rfl⟩⟩
      · obtain ⟨g1, g2⟩ := hW i (by omega)
        have hl := and_lt13 (x := x ||| 4096) g2
        rw [if_neg (nI_ge (by omega) (by omega)), ix_nI (by omega) (by omega), bindS, g1, show (4096 : Int32) = nI 4096 from rfl, nI_or, nI_and, nI_1, show (0 : Int32) = nI 0 from rfl, ifEq hl (by omega)]
        by_cases z : (W i &&& (x ||| 4096)) = 0
        · rw [if_pos z]
          exact ⟨0, by omega, rfl, ⟨fun q => absurd q (by omega), fun q => absurd z (q i (Nat.le_refl _) (by omega))⟩⟩
        · rw [if_neg z]
          obtain ⟨w, w1, w2, w3⟩ := ih (i + 1) (by omega) (by omega)
          refine ⟨w, w1, w2, w3.trans ⟨fun q p a b => ?_, fun q p a b => q p (by omega) b⟩⟩
          by_cases ep : p = i
          · rw [ep]; exact z
          · exact q p (by omega) b
  obtain ⟨w, w1, w2, w3⟩ := run 5000 0 (by omega) (by omega)
  exact ⟨w, w1, w2, w3.trans ⟨fun q p hp => q p (by omega) hp, fun q p _ hp => q p hp⟩⟩
theorem enough_m {M : Mem} {V : Nat → Nat} {np x cl : Nat} (m10 : M 12 0 10 = nI np) (hnp : np ≤ 12) (hcl : cl < 4096) (hc : fX12_claimed M = some (nI cl)) (hV : ∀ j, j < np → M 88 0 j = nI (V j) ∧ V j < 8192) : ∃ w, w ≤ 1 ∧ fX12_areEnough (nI x) M = some (nI w) ∧ (w = 1 ↔ ∀ p, p < np → cl.testBit p = true → ¬ (V p &&& (x ||| 4096)) = 0) := by
  have run : ∀ (fuel i : Nat), i ≤ np → np - i < fuel → ∃ w, w ≤ 1 ∧ fX12_areEnough_2 fuel (nI x) (nI i) M = some (nI w) ∧ (w = 1 ↔ ∀ p, i ≤ p → p < np → cl.testBit p = true → ¬ (V p &&& (x ||| 4096)) = 0) := by
    intro fuel
    induction fuel with
    | zero => intro i _ h; omega
    | succ fuel ih =>
      intro i h1 h2
      rw [fX12_areEnough_2, m10]
      by_cases e : i = np
      · subst e
        rw [if_pos (Int32.le_refl _)]
        exact ⟨1, by omega, rfl, ⟨fun _ p a b => absurd b (by omega), fun _ => rfl⟩⟩
      · obtain ⟨g1, g2⟩ := hV i (by omega)
        have hl := and_lt13 (x := x ||| 4096) g2
        rw [if_neg (nI_ge (by omega) (by omega)), hc, bindS, ix_nI (by omega) (by omega), bindS, g1, show (4096 : Int32) = nI 4096 from rfl, nI_or, nI_and, nI_1, show (0 : Int32) = nI 0 from rfl, ifEq hl (by omega)]
        obtain ⟨w, w1, w2, w3⟩ := ih (i + 1) (by omega) (by omega)
        by_cases s : cl.testBit i = true
        · rw [if_pos ((shr_bit (by omega) hcl).mpr s)]
          by_cases z : (V i &&& (x ||| 4096)) = 0
          · rw [if_pos z]
            exact ⟨0, by omega, rfl, ⟨fun q => absurd q (by omega), fun q => absurd z (q i (Nat.le_refl _) (by omega) s)⟩⟩
          · rw [if_neg z]
            refine ⟨w, w1, w2, w3.trans ⟨fun q p a b => ?_, fun q p a b => q p (by omega) b⟩⟩
            by_cases ep : p = i
            · rw [ep]; exact fun _ => z
            · exact q p (by omega) b
        · rw [if_neg (fun q => s ((shr_bit (by omega) hcl).mp q))]
          refine ⟨w, w1, w2, w3.trans ⟨fun q p a b => ?_, fun q p a b => q p (by omega) b⟩⟩
          by_cases ep : p = i
          · rw [ep]; exact fun q => absurd q s
          · exact q p (by omega) b
  obtain ⟨w, w1, w2, w3⟩ := run 5000 0 (by omega) (by omega)
  exact ⟨w, w1, w2, w3.trans ⟨fun q p hp => q p (by omega) hp, fun q p _ hp => q p hp⟩⟩
theorem sub_iff {x lv : Nat} (hx : x < 4096) (hl : lv < 4096) : (nI x &&& (nI lv ^^^ (-1)) = 0) ↔ ∀ i, x.testBit i = true → lv.testBit i = true := by
  rw [show (-1 : Int32) = nI (2 ^ 32 - 1) by decide, nI_xor, nI_and, show (0 : Int32) = nI 0 from rfl, nI_eq (Nat.lt_of_le_of_lt Nat.and_le_left (by omega)) (by omega)]
  constructor
  · intro h i hi
    cases hb : lv.testBit i with
    | true => rfl
    | false =>
      exfalso
      have hi12 := bit_lt (n := 12) hx hi
      have : (x &&& (lv ^^^ (2 ^ 32 - 1))).testBit i = true := by
        rw [Nat.testBit_and, Nat.testBit_xor, Nat.testBit_two_pow_sub_one, hi, hb]
        simp
        omega
      rw [h, Nat.zero_testBit] at this
      cases this
  · intro h
    apply Nat.eq_of_testBit_eq
    intro i
    rw [Nat.zero_testBit, Nat.testBit_and]
    cases hb : x.testBit i with
    | false => rfl
    | true =>
      have hi12 := bit_lt (n := 12) hx hb
      rw [Nat.testBit_xor, Nat.testBit_two_pow_sub_one, h i hb]
      simp
      omega
/-- what comes behind the last set, in the reference -/
noncomputable def fin105 (x1 x2 x3 : Int32) (M : Mem) : Option (Int32 × Mem) :=
  if x1 = 0 then
    some (x3, M)
  else
    if x3 = (-1) then
      some (x3, M)
    else
      (ix x2 12).bind fun j7 =>
        if ((M 88 0 j7) &&& 4096) = 0 then
          fX12_fewest_194 5000 x2 x3 0 M
        else
          some ((-1), M)
theorem least_eq {C M : Mem} {W : Nat → Nat} {nr np lv : Nat} {x1 x2 : Int32} (c6 : C 0 0 6 = nI nr) (m3 : M 12 0 3 = nI nr) (hnr : nr ≤ 12) (hlv : lv < 4096) (hl : fX12_livingNow M = some (nI lv)) (hc : ∀ x, ∃ w, w ≤ 1 ∧ fX8_suffices (nI x) C = some (nI w) ∧ (w = 1 ↔ Sfx W np x)) (hm : ∀ x, ∃ w, w ≤ 1 ∧ fX12_areEnough (nI x) M = some (nI w) ∧ (w = 1 ↔ Sfx W np x)) (hsub : ∀ x, Sfx W np x → Sfx W np (x &&& lv)) : ∀ (fuel x : Nat) (best : Option Nat) (size : Nat), x ≤ 2 ^ nr → 2 ^ nr - x < fuel → (∀ b, best = some b → b < x ∧ size = pc b ∧ Sfx W np b) → (best = none → size = 13) → (∀ y, y < x → Sfx W np y → size ≤ pc y) → ∃ best' : Option Nat, fX8_leastSet_8 fuel (oI best) (nI size) (nI x) C = some (oI best') ∧ fX12_fewest_105 fuel x1 x2 (oI best) (nI x) M = fin105 x1 x2 (oI best') M ∧ ∀ b, best' = some b → b < 4096 ∧ Sfx W np b := by
  have h2 : 2 ^ nr ≤ 4096 := Nat.pow_le_pow_right (n := 2) (by omega) hnr
  intro fuel
  induction fuel with
  | zero => intro x best size _ h; omega
  | succ fuel ih =>
    intro x best size h1 h3 hb hn hy
    rw [fX8_leastSet_8, fX12_fewest_105, c6, m3, shl1 nr (by omega)]
    by_cases e : x = 2 ^ nr
    · rw [if_pos (nI_le (by omega) (by omega)), if_pos (nI_le (by omega) (by omega))]
      exact ⟨best, rfl, rfl, fun b hbb => ⟨by have := (hb b hbb).1; omega, (hb b hbb).2.2⟩⟩
    · have hx : x < 4096 := by omega
      have hsz : size ≤ 13 := by
        cases hbe : best with
        | none => rw [hn hbe]; omega
        | some b => rw [(hb b hbe).2.1]; have := pc_le b; omega
      have hpx := pc_le x
      rw [if_neg (nI_ge (by omega) (by omega)), if_neg (nI_ge (by omega) (by omega)), bitCount_eq hx, ifLe (by omega) (by omega), hl, bindS, nI_1]
      obtain ⟨w, w1, w2, w3⟩ := hc x
      obtain ⟨w', w1', w2', w3'⟩ := hm x
      have ww : w = w' := by
        by_cases s : Sfx W np x
        · rw [w3.mpr s, w3'.mpr s]
        · have : ¬ w = 1 := fun q => s (w3.mp q)
          have : ¬ w' = 1 := fun q => s (w3'.mp q)
          omega
      subst ww
      rw [w2, bindS]
      have stay : (Sfx W np x → size ≤ pc x) → ∃ best' : Option Nat, fX8_leastSet_8 fuel (oI best) (nI size) (nI (x + 1)) C = some (oI best') ∧ fX12_fewest_105 fuel x1 x2 (oI best) (nI (x + 1)) M = fin105 x1 x2 (oI best') M ∧ ∀ b, best' = some b → b < 4096 ∧ Sfx W np b := by
        intro hh
        refine ih (x + 1) best size (by omega) (by omega) (fun b hbb => ⟨by have := (hb b hbb).1; omega, (hb b hbb).2⟩) hn (fun y hy1 hy2 => ?_)
        by_cases ey : y = x
        · rw [ey] at hy2 ⊢; exact hh hy2
        · exact hy y (by omega) hy2
      have take : ¬ size ≤ pc x → Sfx W np x → ∃ best' : Option Nat, fX8_leastSet_8 fuel (nI x) (nI (pc x)) (nI (x + 1)) C = some (oI best') ∧ fX12_fewest_105 fuel x1 x2 (nI x) (nI (x + 1)) M = fin105 x1 x2 (oI best') M ∧ ∀ b, best' = some b → b < 4096 ∧ Sfx W np b := by
        intro hh hs
        refine ih (x + 1) (some x) (pc x) (by omega) (by omega) (fun b hbb => by cases hbb; exact ⟨by omega, rfl, hs⟩) (fun q => by cases q) (fun y hy1 hy2 => ?_)
        by_cases ey : y = x
        · rw [ey]; exact Nat.le_refl _
        · have := hy y (by omega) hy2
          omega
      by_cases sub : ∀ i, x.testBit i = true → lv.testBit i = true
      · rw [if_pos ((sub_iff hx hlv).mpr sub)]
        have key : (if oI best = -1 then (fX12_areEnough (nI x) M).bind fun r18 => if r18 = 0 then fX12_fewest_105 fuel x1 x2 (oI best) (nI (x + 1)) M else fX12_fewest_105 fuel x1 x2 (nI x) (nI (x + 1)) M else (fX12_ones (nI x)).bind fun r21 => (fX12_ones (oI best)).bind fun r23 => if r23 ≤ r21 then fX12_fewest_105 fuel x1 x2 (oI best) (nI (x + 1)) M else (fX12_areEnough (nI x) M).bind fun r26 => if r26 = 0 then fX12_fewest_105 fuel x1 x2 (oI best) (nI (x + 1)) M else fX12_fewest_105 fuel x1 x2 (nI x) (nI (x + 1)) M) = if size ≤ pc x then fX12_fewest_105 fuel x1 x2 (oI best) (nI (x + 1)) M else if nI w = 0 then fX12_fewest_105 fuel x1 x2 (oI best) (nI (x + 1)) M else fX12_fewest_105 fuel x1 x2 (nI x) (nI (x + 1)) M := by
          rw [w2', bindS]
          cases hbe : best with
          | none =>
            rw [show oI none = -1 from rfl, if_pos rfl, hn hbe, if_neg (show ¬ 13 ≤ pc x by omega)]
          | some b =>
            obtain ⟨b1, b2, b3⟩ := hb b hbe
            have := pc_le b
            rw [show oI (some b) = nI b from rfl, if_neg (nI_ne_m1 (by omega)), ones_eq hx, ones_eq (by omega), bindS, bindS, ifLe (by omega) (by omega), b2]
        rw [key]
        by_cases hsp : size ≤ pc x
        · rw [if_pos hsp, if_pos hsp]
          exact stay (fun _ => hsp)
        · rw [if_neg hsp, if_neg hsp]
          by_cases s : Sfx W np x
          · rw [w3.mpr s, if_neg (show ¬ nI 1 = 0 by decide), if_neg (show ¬ nI 1 = 0 by decide)]
            exact take hsp s
          · have w0 : w = 0 := by
              have : ¬ w = 1 := fun q => s (w3.mp q)
              omega
            rw [w0, if_pos (show nI 0 = 0 from rfl), if_pos (show nI 0 = 0 from rfl)]
            exact stay (fun q => absurd q s)
      · rw [if_neg (fun q => sub ((sub_iff hx hlv).mp q))]
        have imp : Sfx W np x → size ≤ pc x := by
          intro hs
          obtain ⟨i, hi⟩ := Classical.not_forall.mp sub
          obtain ⟨hi1, hi2⟩ := Classical.not_imp.mp hi
          have hi3 : lv.testBit i = false := by
            cases hb : lv.testBit i with
            | false => rfl
            | true => exact absurd hb hi2
          have hle : x &&& lv ≤ x := Nat.and_le_left
          have hne : x &&& lv ≠ x := fun q => by
            have : (x &&& lv).testBit i = x.testBit i := by rw [q]
            rw [Nat.testBit_and, hi1, hi3] at this
            cases this
          have h4 := hy (x &&& lv) (by omega) (hsub x hs)
          have h5 : pc (x &&& lv) ≤ pc x := (cnt_lt (P := fun i => (x &&& lv).testBit i) (Q := fun i => x.testBit i) (fun i hi => by rw [Nat.testBit_and, Bool.and_eq_true] at hi; exact hi.1) 12).1
          omega
        by_cases hsp : size ≤ pc x
        · rw [if_pos hsp]
          exact stay imp
        · rw [if_neg hsp]
          have w0 : w = 0 := by
            have : ¬ w = 1 := fun q => hsp (imp (w3.mp q))
            omega
          rw [w0, if_pos (show nI 0 = 0 from rfl)]
          exact stay imp
theorem few194 {M : Mem} {V j b f : Nat} (hj : j < 12) (hV : M 88 0 j = nI V) (hz : (V &&& b) < 4096) (hf : fs (fun i => (V &&& b).testBit i) 12 = some f) : ∀ (fuel i : Nat), i ≤ 12 → 12 - i < fuel → fs (fun i => (V &&& b).testBit i) i = none → fX12_fewest_194 fuel (nI j) (nI b) (nI i) M = some (nI f, M) := by
  intro fuel
  induction fuel with
  | zero => intro i _ h; omega
  | succ fuel ih =>
    intro i h1 h2 h3
    have hi : i < 12 := by
      rcases Nat.lt_or_ge i 12 with q | q
      · exact q
      · rw [show i = 12 by omega, hf] at h3; cases h3
    rw [fX12_fewest_194, ix_nI hj (by omega), bindS, hV, nI_and, shl1 i (by omega), nI_and, nI_1]
    have hlt : V &&& b &&& 2 ^ i < 2 ^ 31 := Nat.lt_of_le_of_lt Nat.and_le_left (by omega)
    rw [show (0 : Int32) = nI 0 from rfl, ifEq hlt (by omega)]
    cases hb : (V &&& b).testBit i with
    | true =>
      rw [if_neg]
      · have h4 : fs (fun i => (V &&& b).testBit i) (i + 1) = some i := fs_one h3 hb
        have := fs_mono h4 (12 - (i + 1))
        rw [show i + 1 + (12 - (i + 1)) = 12 by omega, hf] at this
        cases this
        rfl
      · rw [nz_bit]
        refine ⟨i, ?_⟩
        rw [Nat.testBit_and, hb, Nat.testBit_two_pow_self]
        rfl
    | false =>
      rw [if_pos]
      · exact ih (i + 1) (by omega) (by omega) (by rw [fs_no hb, h3])
      · apply Nat.eq_of_testBit_eq
        intro k
        rw [Nat.zero_testBit, Nat.testBit_and, Nat.testBit_two_pow]
        by_cases ek : i = k
        · rw [← ek, hb]; rfl
        · simp [ek]
theorem sim_fewest {C M : Mem} (h : Rel C M) (p0 : Int32) : ∃ r C' M', fX11_fewest p0 C = some (r, C') ∧ fX12_fewest p0 M = some (r, M') ∧ Rel C' M' := by
  have h0 := h.told
  unfold fX11_fewest fX12_fewest
  generalize up M 12 0 0 0 = M0 at h0 ⊢
  obtain ⟨nr, np, dy, nc, cd, ls, hE⟩ : ∃ nr np dy nc cd ls, FwE C M0 nr np dy nc cd ls := by
    obtain ⟨nr, np, dy, nl, nc, ⟨hCt, hRd, hPp, hBk, hCm, hLw⟩, hU, hT, hW, hF, hK⟩ := h0
    obtain ⟨⟨c6, m3, hnr⟩, ⟨c7, m10, hnp⟩, ⟨c8, m2, hdy⟩, ⟨c9, c10⟩, ⟨c11, m18, hnl⟩, c24, m45, hnc⟩ := hCt
    obtain ⟨cd, ls, hL⟩ := hLw
    exact ⟨nr, np, dy, nc, cd, ls, ⟨⟨c6, hnr⟩, ⟨c7, m10, hnp⟩, ⟨c8, m2, hdy⟩, hRd, hPp, hL⟩, m3, hCm, c24, m45, hnc⟩
  have hE' := hE
  obtain ⟨hA, m3, hCm, c24, m45, hnc⟩ := hE'
  have hA' := hA
  obtain ⟨⟨c6, hnr⟩, ⟨c7, m10, hnp⟩, ⟨c8, m2, hdy⟩, hRd, hPp, _⟩ := hA'
  obtain ⟨cl, hcl, hcl2, hcl3⟩ := claimed_m hE
  have unc : ∀ p, p < np → ¬ cl.testBit p = true → Nw M0 cd ls C nc p = true := by
    intro p hp hn
    unfold Nw
    rw [dcd_iff]
    intro k hk z
    exact absurd ((hcl2 p hp).mpr ⟨k, hk, z⟩) hn
  -- the class weighs
  obtain ⟨C1, g1, g2, g3⟩ := weigh_out hE 5000 0 C sc.rf (fun j hj => by omega) (by omega) (by omega)
  have hWlt : ∀ p, wc M0 cd ls C nr nc dy p < 8192 := fun p => by
    unfold wc
    split
    · omega
    · have := b12_lt (B := Bw M0 cd ls C nc dy p) hnr
      omega
  have hVlt : ∀ p, wm M0 cd ls C nr nc dy cl p < 8192 := fun p => by
    unfold wm
    have := b12_lt (B := Bw M0 cd ls C nc dy p) hnr
    split
    · refine Nat.or_lt_two_pow (n := 13) ?_ (by omega)
      split <;> omega
    · omega
  have hc1 := fun x => suff_c (C := C1) (W := wc M0 cd ls C nr nc dy) (np := np) (x := x) (hA.sc g2 sm.rf).2.1.1 hnp (fun j hj => ⟨g3 j hj, hWlt j⟩)
  have W12 : ∀ p, (wc M0 cd ls C nr nc dy p).testBit 12 = true ↔ Nw M0 cd ls C nc p = true := fun p => by
    unfold wc
    split
    · rename_i hN
      exact ⟨fun _ => hN, fun _ => by decide⟩
    · rename_i hN
      exact ⟨fun q => absurd (bit_lt (n := 12) (b12_lt (B := Bw M0 cd ls C nc dy p) hnr) q) (by omega), fun q => absurd q hN⟩
  have V12 : ∀ p, p < np → ((wm M0 cd ls C nr nc dy cl p).testBit 12 = true ↔ Nw M0 cd ls C nc p = true) := fun p hp => by
    unfold wm
    split
    · rw [Nat.testBit_or, Bool.or_eq_true]
      constructor
      · rintro (q | q)
        · split at q
          · assumption
          · rw [Nat.zero_testBit] at q; cases q
        · exact absurd (bit_lt (n := 12) (b12_lt (B := Bw M0 cd ls C nc dy p) hnr) q) (by omega)
      · intro q
        left
        rw [if_pos q]
        decide
    · rename_i hn
      exact ⟨fun _ => unc p hp hn, fun _ => by decide⟩
  have WV : ∀ p, p < np → ¬ Nw M0 cd ls C nc p = true → wc M0 cd ls C nr nc dy p = bitsOf (Bw M0 cd ls C nc dy p) nr ∧ wm M0 cd ls C nr nc dy cl p = bitsOf (Bw M0 cd ls C nc dy p) nr := fun p hp hN => by
    unfold wc wm
    rw [if_neg hN, if_neg hN, Nat.zero_or]
    refine ⟨rfl, ?_⟩
    rw [if_pos]
    cases hb : cl.testBit p with
    | true => rfl
    | false => exact absurd (unc p hp (by rw [hb]; decide)) hN
  have en_iff : ∀ x, (∀ p, p < np → cl.testBit p = true → ¬ (wm M0 cd ls C nr nc dy cl p &&& (x ||| 4096)) = 0) ↔ Sfx (wc M0 cd ls C nr nc dy) np x := by
    intro x
    constructor
    · intro q p hp
      by_cases hN : Nw M0 cd ls C nc p = true
      · rw [nz_or]
        exact ⟨12, (W12 p).mpr hN, Or.inr rfl⟩
      · obtain ⟨z1, z2⟩ := WV p hp hN
        have hcb : cl.testBit p = true := by
          cases hb : cl.testBit p with
          | true => rfl
          | false => exact absurd (unc p hp (by rw [hb]; decide)) hN
        have := q p hp hcb
        rw [z2] at this
        rw [z1]
        exact this
    · intro q p hp _
      by_cases hN : Nw M0 cd ls C nc p = true
      · rw [nz_or]
        exact ⟨12, (V12 p hp).mpr hN, Or.inr rfl⟩
      · obtain ⟨z1, z2⟩ := WV p hp hN
        have := q p hp
        rw [z1] at this
        rw [z2]
        exact this
  have hsub : ∀ x, Sfx (wc M0 cd ls C nr nc dy) np x → Sfx (wc M0 cd ls C nr nc dy) np (x &&& bitsOf (fun q => dcd (¬ fX6_livesOn q (nI dy) C = 0)) nr) := by
    intro x q p hp
    have := q p hp
    rw [nz_or] at this ⊢
    obtain ⟨i, i1, i2⟩ := this
    refine ⟨i, i1, ?_⟩
    by_cases e12 : i = 12
    · exact Or.inr e12
    · left
      have hx := i2.resolve_right e12
      by_cases hN : Nw M0 cd ls C nc p = true
      · unfold wc at i1
        rw [if_pos hN, show (4096 : Nat) = 2 ^ 12 from rfl, Nat.testBit_two_pow] at i1
        exact absurd (of_decide_eq_true i1).symm e12
      · rw [(WV p hp hN).1, bitsOf_bit] at i1
        rw [Nat.testBit_and, hx, (bitsOf_bit _ i nr).mpr ⟨i1.1, ?_⟩]
        · rfl
        · have := i1.2
          unfold Bw at this
          exact dcd_iff.mpr (dcd_iff.mp this).1
  -- both find the least set
  have both : ∀ (x1 x2 : Int32) (M1 : Mem), sm M0 M1 → (∀ j, j < np → M1 88 0 j = nI (wm M0 cd ls C nr nc dy cl j)) → ∃ best' : Option Nat, fX8_leastSet C1 = some (oI best') ∧ fX12_fewest_105 5000 x1 x2 (-1) 0 M1 = fin105 x1 x2 (oI best') M1 ∧ ∀ b, best' = some b → b < 4096 ∧ Sfx (wc M0 cd ls C nr nc dy) np b := by
    intro x1 x2 M1 hm hV
    have hA1 := hA.sc g2 hm
    have hm1 := fun x => enough_m (M := M1) (V := wm M0 cd ls C nr nc dy cl) (np := np) (x := x) hA1.2.1.2.1 hnp hcl (hcl3 M1 hm) (fun j hj => ⟨hV j hj, hVlt j⟩)
    exact least_eq (x1 := x1) (x2 := x2) (W := wc M0 cd ls C nr nc dy) hA1.1.1 (by rw [hm.2.1 0 3 (by omega)]; exact m3) hnr (b12_lt hnr) (living_m hE M1 hm) hc1 (fun x => by
      obtain ⟨w, w1, w2, w3⟩ := hm1 x
      exact ⟨w, w1, w2, w3.trans (en_iff x)⟩) hsub 5000 0 none 13 (Nat.zero_le _) (by
        have : 2 ^ nr ≤ 4096 := Nat.pow_le_pow_right (n := 2) (by omega) hnr
        omega) (fun b q => by cases q) (fun _ => rfl) (fun y q => absurd q (by omega))
  -- the calls
  have go : ∀ x : Int32, (x = 0 ∨ ∃ j, j < np ∧ x - 10 = nI j) → ∃ r C' M', fX11_fewest_17 x C = some (r, C') ∧ fX12_fewest_24 x (x - 10) M0 = some (r, M') ∧ Rel C' M' := by
    intro x hx
    unfold fX11_fewest_17 fX12_fewest_24 fX2_anyWentBy
    rw [c8]
    rcases few26 (x1 := x) (x2 := x - 10) hE 5000 0 (by omega) (by omega) with ⟨k1, k2⟩ | ⟨k1, k2⟩
    · rw [show fX2_anyWentBy_2 5000 (nI dy) 0 C = _ from k1, show fX12_fewest_26 5000 x (x - 10) 0 M0 = _ from k2, bindS, if_pos rfl]
      unfold fX8_weigh
      rw [show fX8_weigh_2 5000 0 C = _ from g1, bindS]
      obtain ⟨M1, f1, f2, f3⟩ := few57 (x1 := x) (x2 := x - 10) hE hcl hcl3 5000 0 M0 sm.rf (fun j hj => by omega) (by omega) (by omega)
      obtain ⟨best, b1, b2, b3⟩ := both x (x - 10) M1 f2 f3
      rw [show fX12_fewest_57 5000 x (x - 10) 0 M0 = _ from f1, b2, b1, bindS]
      unfold fin105
      by_cases x0 : x = 0
      · rw [if_pos x0, if_pos x0]
        exact ⟨_, _, _, rfl, rfl, h0.sc g2 f2⟩
      · rw [if_neg x0, if_neg x0]
        cases hb : best with
        | none =>
          rw [show oI none = -1 from rfl, if_pos rfl, if_pos rfl]
          exact ⟨_, _, _, rfl, rfl, h0.sc g2 f2⟩
        | some b =>
          obtain ⟨j, hj, ej⟩ := hx.resolve_left x0
          obtain ⟨hb1, hb2⟩ := b3 b hb
          rw [show oI (some b) = nI b from rfl, if_neg (nI_ne_m1 (by omega)), if_neg (nI_ne_m1 (by omega)), ej]
          unfold fX8_readerOf
          rw [(hA.sc g2 sm.rf).2.1.1, if_neg (by rw [within_in (by omega) hj]; decide), ix_nI (by omega) (by omega), bindS, bindS, g3 j hj, f3 j hj, show (4096 : Int32) = nI 4096 from rfl, nI_and, nI_and, nI_and, show (0 : Int32) = nI 0 from rfl, ifEq (and_lt13 (hWlt j)) (by omega), ifEq (and_lt13 (hVlt j)) (by omega)]
          by_cases hN : Nw M0 cd ls C nc j = true
          · rw [if_neg (and12.mpr ((W12 j).mpr hN)), if_neg (and12.mpr ((V12 j hj).mpr hN)), bindS]
            exact ⟨_, _, _, rfl, rfl, h0.sc g2 f2⟩
          · have n1 : (wc M0 cd ls C nr nc dy j &&& 4096) = 0 := Classical.byContradiction (fun q => hN ((W12 j).mp (and12.mp q)))
            have n2 : (wm M0 cd ls C nr nc dy cl j &&& 4096) = 0 := Classical.byContradiction (fun q => hN ((V12 j hj).mp (and12.mp q)))
            rw [if_pos n1, if_pos n2, bindS]
            have hs := hb2 j hj
            obtain ⟨z1, z2⟩ := WV j hj hN
            have hbl := b12_lt (B := Bw M0 cd ls C nc dy j) hnr
            rw [z1, nz_or] at hs
            obtain ⟨i, i1, i2⟩ := hs
            have hi12 := bit_lt (n := 12) hbl i1
            have hbi := i2.resolve_right (by omega)
            have hzl : (bitsOf (Bw M0 cd ls C nc dy j) nr &&& b) < 4096 := Nat.lt_of_le_of_lt Nat.and_le_left hbl
            obtain ⟨f, hf⟩ : ∃ f, fs (fun i => (bitsOf (Bw M0 cd ls C nc dy j) nr &&& b).testBit i) 12 = some f := by
              cases hq : fs (fun i => (bitsOf (Bw M0 cd ls C nc dy j) nr &&& b).testBit i) 12 with
              | some f => exact ⟨f, rfl⟩
              | none =>
                exfalso
                have hz := (fs_cnt 12).mpr hq
                have := (cnt_lt (P := fun _ => false) (Q := fun i => (bitsOf (Bw M0 cd ls C nc dy j) nr &&& b).testBit i) (fun i hi => by cases hi) 12).2 ⟨i, hi12, by
                  show (bitsOf (Bw M0 cd ls C nc dy j) nr &&& b).testBit i = true
                  rw [Nat.testBit_and, i1, hbi]; rfl, rfl⟩
                omega
            have hl := few194 (M := M1) (j := j) (V := bitsOf (Bw M0 cd ls C nc dy j) nr) (b := b) (f := f) (by omega) (by rw [f3 j hj, z2]) hzl hf 5000 0 (by omega) (by omega) rfl
            rw [z1, ntz_eq hzl hf]
            exact ⟨_, _, _, rfl, hl, h0.sc g2 f2⟩
    · rw [show fX2_anyWentBy_2 5000 (nI dy) 0 C = _ from k1, show fX12_fewest_26 5000 x (x - 10) 0 M0 = _ from k2, bindS, if_neg (by decide)]
      exact ⟨_, _, _, rfl, rfl, h0⟩
  by_cases x0 : p0 = 0
  · rw [if_pos x0, if_pos x0]
    exact go p0 (Or.inl x0)
  · rw [if_neg x0, if_neg x0]
    have hpp : (fX12_isPaper (p0 - 10) M0 = 0 ∧ ¬ ∃ j, j < np ∧ p0 - 10 = nI j) ∨ ∃ j, j < np ∧ p0 - 10 = nI j ∧ fX12_isPaper (p0 - 10) M0 = 1 := by
      rcases pk_ix (p0 - 10) (show np < 2 ^ 31 by omega) with h1 | h1 | ⟨j, hj, h1⟩
      · refine Or.inl ⟨isPaper_out m10 (Or.inl h1), fun ⟨j, hj, e⟩ => ?_⟩
        rw [e] at h1
        exact absurd h1 (nI_pos (by omega))
      · refine Or.inl ⟨isPaper_out m10 (Or.inr h1), fun ⟨j, hj, e⟩ => ?_⟩
        rw [e] at h1
        exact absurd h1 (nI_ge (by omega) (by omega))
      · refine Or.inr ⟨j, hj, h1, ?_⟩
        rw [h1]
        exact isPaper_in m10 hnp hj
    rcases hpp with ⟨e1, e2⟩ | ⟨j, hj, e1, e2⟩
    · rw [e1, if_pos rfl]
      by_cases a1 : fX11_within p0 10 21 = 0
      · rw [if_pos a1]
        exact ⟨_, _, _, rfl, rfl, h0⟩
      · rw [if_neg a1]
        -- a paper that is not there: the class weighs and answers -1
        unfold fX11_fewest_17 fX2_anyWentBy
        rw [c8]
        rcases few26 (x1 := p0) (x2 := p0 - 10) hE 5000 0 (by omega) (by omega) with ⟨k1, _⟩ | ⟨k1, _⟩
        · rw [show fX2_anyWentBy_2 5000 (nI dy) 0 C = _ from k1, bindS, if_pos rfl]
          unfold fX8_weigh
          rw [show fX8_weigh_2 5000 0 C = _ from g1, bindS]
          obtain ⟨M1, f1, f2, f3⟩ := few57 (x1 := p0) (x2 := p0 - 10) hE hcl hcl3 5000 0 M0 sm.rf (fun j hj => by omega) (by omega) (by omega)
          obtain ⟨best, b1, b2, b3⟩ := both p0 (p0 - 10) M1 f2 f3
          rw [b1, bindS, if_neg x0]
          by_cases hb : oI best = -1
          · rw [if_pos hb, hb]
            exact ⟨_, _, _, rfl, rfl, h0.sc g2 sm.rf⟩
          · rw [if_neg hb]
            unfold fX8_readerOf
            rw [(hA.sc g2 sm.rf).2.1.1]
            rcases within_sub (x := p0 - 10) (n := np) (by omega) with q | ⟨j, q1, q2, _⟩
            · rw [if_pos q, bindS]
              exact ⟨_, _, _, rfl, rfl, h0.sc g2 sm.rf⟩
            · exact absurd ⟨j, q1, q2⟩ e2
        · rw [show fX2_anyWentBy_2 5000 (nI dy) 0 C = _ from k1, bindS, if_neg (by decide)]
          exact ⟨_, _, _, rfl, rfl, h0⟩
    · have a1 : ¬ fX11_within p0 10 21 = 0 := by
        have ep : p0 = nI (j + 10) := by
          have : p0 - 10 + 10 = nI j + 10 := by rw [e1]
          rw [Int32.sub_add_cancel, show (10 : Int32) = nI 10 from rfl, nI_add] at this
          exact this
        rw [ep]
        unfold fX11_within
        rw [show (10 : Int32) = nI 10 from rfl, show (21 : Int32) = nI 21 from rfl, ifLt (by omega) (by omega), if_neg (by omega), ifLt (by omega) (by omega), if_neg (by omega)]
        decide
      rw [e2, if_neg (show ¬ (1 : Int32) = 0 by decide), if_neg a1]
      exact go p0 (Or.inr ⟨j, hj, e1⟩)
