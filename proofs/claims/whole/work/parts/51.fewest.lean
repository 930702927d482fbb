/-! ===== PURE: fewest ===== -/
theorem finds_in {C0 M0 : Mem} {nr np dy nc p n0 : Nat} {cd : List (Nat × Int32)} {ls : List (Nat × Nat × Nat)} (h : FwE C0 M0 nr np dy nc cd ls) (hp : p < np) : ∀ (fuel i : Nat) (M : Mem), sm M0 M → i ≤ nr → nr - i < fuel → ∃ M', fX12_findsStanding_23 fuel (nI p) (nI (n0 ||| bitsOf (Bw M0 cd ls C0 nc dy p) i)) (nI i) M = some (nI (n0 ||| bitsOf (Bw M0 cd ls C0 nc dy p) nr), M') ∧ sm M0 M' ∧ M' 88 0 = M 88 0 := by
  have h' := h
  obtain ⟨hA, m3, hCm, c24, m45, hnc⟩ := h'
  intro fuel
  induction fuel with
  | zero => intro i M _ _ h; omega
  | succ fuel ih =>
    intro i M hm h1 h2
    obtain ⟨⟨_, hnr⟩, ⟨c7, m10, hnp⟩, ⟨c8, m2, hdy⟩, hRd, hPp, _⟩ := hA.sc sc.rf hm
    rw [fX12_findsStanding_23, hm.2.1 0 3 (by omega), m3, m2]
    by_cases e : i = nr
    · subst e
      rw [if_pos (Int32.le_refl _)]
      exact ⟨M, rfl, hm, rfl⟩
    · rw [if_neg (nI_ge (by omega) (by omega)), lives_eq hRd hnr (show i < nr by omega), bindS, nI_1]
      have no : Bw M0 cd ls C0 nc dy p i = false → bitsOf (Bw M0 cd ls C0 nc dy p) (i + 1) = bitsOf (Bw M0 cd ls C0 nc dy p) i := by
        intro hB
        rw [show bitsOf (Bw M0 cd ls C0 nc dy p) (i + 1) = bitsOf (Bw M0 cd ls C0 nc dy p) i ||| (if Bw M0 cd ls C0 nc dy p i = true then 2 ^ i else 0) from rfl, hB, if_neg (by decide), Nat.or_zero]
      by_cases l : fX6_livesOn i (nI dy) C0 = 0
      · rw [if_pos l]
        have := ih (i + 1) M hm (by omega) (by omega)
        rw [no (by unfold Bw; exact dcd_no (fun z => z.1 l))] at this
        exact this
      · rw [if_neg l]
        obtain ⟨M1, M2, k1, k2, k3, k4, k5, k6⟩ := imagine_m (d := dy) hA hm hp (show i < nr by omega) (by omega)
        obtain ⟨r1, r2, r3, r4, r5, r6⟩ := k6
        obtain ⟨⟨p0, p1, p2, p3, p4, p5, _⟩, _⟩ := hA.2.2.2.2.1 p hp
        obtain ⟨w, M3, w1, w2, w3, w4, w5⟩ := stand_m (v := iv C0 p i (nI dy)) h hp p0 ⟨i + 1, by omega, by rw [nI_pred]; rfl⟩ 5000 0 M2 k4 (fun q z1 z2 => by
          have z3 : nI i = nI q - 1 := z1
          rw [r3, nI_succ, z3]
          apply Int32.toBitVec_inj.mp
          simp) ⟨by rw [r1]; exact p1, by rw [r2]; exact p2, by rw [r4]; rfl, by rw [r5, ← p5]; rfl, by rw [r6]; rfl⟩ (by omega) (by omega)
        unfold fX12_doStand
        rw [k1, bindS, k2, k3, bindS, show fX12_doStand_2 5000 (nI p) 0 M2 = _ from w2, bdS, w_one w1 (w5.trans Std.all)]
        have e88 : M3 88 0 = M 88 0 := by rw [w4 88 0 (by omega) (by omega), k5 88 0 (by omega)]
        by_cases s : Std M0 cd ls C0 nc p (iv C0 p i (nI dy))
        · rw [if_pos (dcd_iff.mpr s), shl1 i (by omega), nI_or, Nat.or_assoc]
          obtain ⟨M', f1, f2, f3⟩ := ih (i + 1) M3 w3 (by omega) (by omega)
          rw [show bitsOf (Bw M0 cd ls C0 nc dy p) (i + 1) = bitsOf (Bw M0 cd ls C0 nc dy p) i ||| (if Bw M0 cd ls C0 nc dy p i = true then 2 ^ i else 0) from rfl, if_pos (show Bw M0 cd ls C0 nc dy p i = true by unfold Bw; exact dcd_iff.mpr ⟨l, s⟩)] at f1
          exact ⟨M', f1, f2, f3.trans e88⟩
        · rw [dcd_no s, if_neg (by decide)]
          obtain ⟨M', f1, f2, f3⟩ := ih (i + 1) M3 w3 (by omega) (by omega)
          rw [no (by unfold Bw; exact dcd_no (fun z => s z.2))] at f1
          exact ⟨M', f1, f2, f3.trans e88⟩
theorem finds_m {C0 M0 M : Mem} {nr np dy nc p : Nat} {cd : List (Nat × Int32)} {ls : List (Nat × Nat × Nat)} (h : FwE C0 M0 nr np dy nc cd ls) (hp : p < np) (hm : sm M0 M) : ∃ M', fX12_findsStanding (nI p) M = some (nI ((if Nw M0 cd ls C0 nc p = true then 4096 else 0) ||| bitsOf (Bw M0 cd ls C0 nc dy p) nr), M') ∧ sm M0 M' ∧ M' 88 0 = M 88 0 := by
  have h' := h
  obtain ⟨hA, m3, hCm, c24, m45, hnc⟩ := h'
  have hnp : np ≤ 12 := hA.2.1.2.2
  have hnr : nr ≤ 12 := hA.1.2
  obtain ⟨M1, e1, e2, e3, e4⟩ := thinks_m (p := p) hm (by omega)
  obtain ⟨⟨p0, p1, p2, p3, p4, p5, p6, _⟩, _, ⟨q', q1, q2⟩, _⟩ := hA.2.2.2.2.1 p hp
  obtain ⟨w, M3, w1, w2, w3, w4, w5⟩ := stand_m (v := C0 5 p) h hp p0 ⟨q', q1, by rw [p3, q2]⟩ 5000 0 M1 e2 (fun q z1 z2 => by
    rw [e4 67 (by omega) (by omega), q2]
    rw [p3, q2] at z1
    have : nI q' - 1 + 1 = nI q - 1 + 1 := by rw [z1]
    rw [Int32.sub_add_cancel, Int32.sub_add_cancel] at this
    exact this) ⟨by rw [e4 65 (by omega) (by omega), p1], by rw [e4 66 (by omega) (by omega), p2], by rw [e4 68 (by omega) (by omega), p4], by rw [e4 69 (by omega) (by omega), p5], by rw [e4 70 (by omega) (by omega), p6]⟩ (by omega) (by omega)
  unfold fX12_findsStanding fX12_doStand fX12_findsStanding_20
  rw [e1, bindS, show fX12_doStand_2 5000 (nI p) 0 M1 = _ from w2, bdS, w_one w1 (w5.trans Std.all)]
  have e88 : M3 88 0 = M 88 0 := by rw [w4 88 0 (by omega) (by omega), e3 88 0 (by omega)]
  by_cases s : Nw M0 cd ls C0 nc p = true
  · have s' := s
    unfold Nw at s'
    rw [if_pos s', if_pos s]
    obtain ⟨M', f1, f2, f3⟩ := finds_in (n0 := 4096) h hp 5000 0 M3 w3 (by omega) (by omega)
    rw [show bitsOf (Bw M0 cd ls C0 nc dy p) 0 = 0 from rfl, Nat.or_zero] at f1
    exact ⟨M', f1, f2, f3.trans e88⟩
  · have s' := s
    unfold Nw at s'
    rw [if_neg s', if_neg s]
    obtain ⟨M', f1, f2, f3⟩ := finds_in (n0 := 0) h hp 5000 0 M3 w3 (by omega) (by omega)
    rw [show bitsOf (Bw M0 cd ls C0 nc dy p) 0 = 0 from rfl, Nat.or_zero] at f1
    exact ⟨M', f1, f2, f3.trans e88⟩
/-- the papers that claims speak of -/
theorem claimed_m {C0 M0 : Mem} {nr np dy nc : Nat} {cd : List (Nat × Int32)} {ls : List (Nat × Nat × Nat)} (h : FwE C0 M0 nr np dy nc cd ls) : ∃ cl, cl < 4096 ∧ (∀ p, p < np → (cl.testBit p = true ↔ ∃ k, k < nc ∧ M0 84 0 k = nI p)) ∧ ∀ M, sm M0 M → fX12_claimed M = some (nI cl) := by
  obtain ⟨hA, m3, hCm, c24, m45, hnc⟩ := h
  have hnp : np ≤ 12 := hA.2.1.2.2
  have hcp : ∃ cp : Nat → Nat, ∀ k, k < nc → cp k < np ∧ M0 84 0 k = nI (cp k) := by
    have : ∀ k, ∃ c, k < nc → c < np ∧ M0 84 0 k = nI c := by
      intro k
      by_cases hk : k < nc
      · obtain ⟨_, ⟨q, q1, q2⟩, _⟩ := hCm k hk
        exact ⟨q, fun _ => ⟨q1, q2⟩⟩
      · exact ⟨0, fun z => absurd z hk⟩
    exact Classical.axiomOfChoice this
  obtain ⟨cp, hcp⟩ := hcp
  have run : ∀ (fuel i a : Nat) (M : Mem), sm M0 M → a < 4096 → (∀ p, p < np → (a.testBit p = true ↔ ∃ k, k < i ∧ cp k = p)) → i ≤ nc → nc - i < fuel → ∃ cl, cl < 4096 ∧ (∀ p, p < np → (cl.testBit p = true ↔ ∃ k, k < nc ∧ cp k = p)) ∧ fX12_claimed_4 fuel (nI a) (nI i) M = some (nI cl) := by
    intro fuel
    induction fuel with
    | zero => intro i a M _ _ _ _ h; omega
    | succ fuel ih =>
      intro i a M hm ha hb h1 h2
      rw [fX12_claimed_4, hm.2.1 0 45 (by omega), m45]
      by_cases e : i = nc
      · subst e
        rw [if_pos (Int32.le_refl _)]
        exact ⟨a, ha, hb, rfl⟩
      · obtain ⟨g1, g2⟩ := hcp i (by omega)
        rw [if_neg (nI_ge (by omega) (by omega)), ix_nI (by omega) (by omega), bindS, hm.1 84 0 (by omega) (by omega), g2, shl1 _ (by omega), nI_or, nI_1]
        refine ih (i + 1) _ M hm ?_ (fun p hp => ?_) (by omega) (by omega)
        · exact Nat.or_lt_two_pow (n := 12) ha (Nat.pow_lt_pow_right (by omega) (by omega))
        · rw [Nat.testBit_or, Bool.or_eq_true, hb p hp, Nat.testBit_two_pow]
          constructor
          · rintro (⟨k, k1, k2⟩ | z)
            · exact ⟨k, by omega, k2⟩
            · exact ⟨i, by omega, of_decide_eq_true z⟩
          · rintro ⟨k, k1, k2⟩
            by_cases ek : k = i
            · right
              rw [← ek]
              exact decide_eq_true k2
            · exact Or.inl ⟨k, by omega, k2⟩
  obtain ⟨cl, e1, e2, e3⟩ := run 5000 0 0 M0 sm.rf (by omega) (fun p _ => by simp) (by omega) (by omega)
  refine ⟨cl, e1, fun p hp => (e2 p hp).trans ⟨fun ⟨k, k1, k2⟩ => ⟨k, k1, by rw [(hcp k k1).2, k2]⟩, fun ⟨k, k1, k2⟩ => ⟨k, k1, ?_⟩⟩, fun M hm => ?_⟩
  · have := (hcp k k1).2
    rw [k2] at this
    have hh := (hcp k k1).1
    exact ((nI_eq (by omega) (by omega)).mp this).symm
  · obtain ⟨cl', e1', e2', e3'⟩ := run 5000 0 0 M hm (by omega) (fun p _ => by simp) (by omega) (by omega)
    have : ∀ (fuel i : Nat) (a : Int32), fX12_claimed_4 fuel a (nI i) M = fX12_claimed_4 fuel a (nI i) M0 := by
      intro fuel
      induction fuel with
      | zero => intro i a; rfl
      | succ fuel ih =>
        intro i a
        rw [fX12_claimed_4, fX12_claimed_4, hm.2.1 0 45 (by omega)]
        split
        · rfl
        · cases hx : ix (nI i) 6 with
          | none => rfl
          | some j =>
            rw [bindS, bindS, nI_1, hm.1 84 0 (by omega) (by omega)]
            exact ih (i + 1) _
    unfold fX12_claimed
    rw [show fX12_claimed_4 5000 0 0 M = _ from this 5000 0 (nI 0)]
    exact e3
noncomputable def wm (M : Mem) (cd : List (Nat × Int32)) (ls : List (Nat × Nat × Nat)) (C : Mem) (nr nc dy cl p : Nat) : Nat := if cl.testBit p = true then (if Nw M cd ls C nc p = true then 4096 else 0) ||| bitsOf (Bw M cd ls C nc dy p) nr else 4096
theorem sm.up88 {M0 M : Mem} {j : Nat} {x : Int32} (h : sm M0 M) : sm M0 (up M 88 0 j x) := ⟨fun k i a b => by rw [upk (by omega), h.1 k i a b], fun i j a => by rw [upk (by omega), h.2.1 i j a], fun k i j a b c => by rw [upk (by omega), h.2.2 k i j a b c]⟩
theorem few57 {C0 M0 : Mem} {nr np dy nc cl : Nat} {cd : List (Nat × Int32)} {ls : List (Nat × Nat × Nat)} {x1 x2 : Int32} (h : FwE C0 M0 nr np dy nc cd ls) (hcl : cl < 4096) (hc : ∀ M, sm M0 M → fX12_claimed M = some (nI cl)) : ∀ (fuel i : Nat) (M : Mem), sm M0 M → (∀ j, j < i → M 88 0 j = nI (wm M0 cd ls C0 nr nc dy cl j)) → i ≤ np → np - i < fuel → ∃ M', fX12_fewest_57 fuel x1 x2 (nI i) M = fX12_fewest_105 5000 x1 x2 (-1) 0 M' ∧ sm M0 M' ∧ ∀ j, j < np → M' 88 0 j = nI (wm M0 cd ls C0 nr nc dy cl j) := by
  have h' := h
  obtain ⟨hA, m3, hCm, c24, m45, hnc⟩ := h'
  intro fuel
  induction fuel with
  | zero => intro i M _ _ _ h; omega
  | succ fuel ih =>
    intro i M hm hb h1 h2
    obtain ⟨⟨c6, hnr⟩, ⟨c7, m10, hnp⟩, ⟨c8, m2, hdy⟩, hRd, hPp, _⟩ := hA.sc sc.rf hm
    rw [fX12_fewest_57, m10]
    by_cases e : i = np
    · subst e
      rw [if_pos (Int32.le_refl _)]
      exact ⟨M, rfl, hm, hb⟩
    · rw [if_neg (nI_ge (by omega) (by omega)), hc M hm, bindS, nI_1]
      by_cases s : cl.testBit i = true
      · rw [if_pos ((shr_bit (by omega) hcl).mpr s)]
        obtain ⟨M1, f1, f2, f3⟩ := finds_m h (show i < np by omega) hm
        rw [f1, bdS, ix_nI (by omega) (by omega), bindS]
        refine ih (i + 1) _ (sm.up88 f2) (fun j hj => ?_) (by omega) (by omega)
        by_cases ej : j = i
        · subst ej
          rw [up_at]
          unfold wm
          rw [if_pos s]
        · rw [upj ej, f3, hb j (by omega)]
      · rw [if_neg (fun z => s ((shr_bit (by omega) hcl).mp z)), ix_nI (by omega) (by omega), bindS]
        refine ih (i + 1) _ (sm.up88 hm) (fun j hj => ?_) (by omega) (by omega)
        by_cases ej : j = i
        · subst ej
          rw [up_at]
          unfold wm
          rw [if_neg s]
          rfl
        · rw [upj ej, hb j (by omega)]
theorem few26 {C0 M0 : Mem} {nr np dy nc : Nat} {cd : List (Nat × Int32)} {ls : List (Nat × Nat × Nat)} {x1 x2 : Int32} (h : FwE C0 M0 nr np dy nc cd ls) : ∀ (fuel i : Nat), i ≤ nc → nc - i < fuel → (fX2_anyWentBy_2 fuel (nI dy) (nI i) C0 = some 0 ∧ fX12_fewest_26 fuel x1 x2 (nI i) M0 = fX12_fewest_57 5000 x1 x2 0 M0) ∨ (fX2_anyWentBy_2 fuel (nI dy) (nI i) C0 = some 1 ∧ fX12_fewest_26 fuel x1 x2 (nI i) M0 = some (-1, M0)) := by
  obtain ⟨hA, m3, hCm, c24, m45, hnc⟩ := h
  intro fuel
  induction fuel with
  | zero => intro i _ h; omega
  | succ fuel ih =>
    intro i h1 h2
    rw [fX2_anyWentBy_2, fX12_fewest_26, c24, m45]
    by_cases e : i = nc
    · subst e
      rw [if_pos (Int32.le_refl _), if_pos (Int32.le_refl _)]
      exact Or.inl ⟨rfl, rfl⟩
    · obtain ⟨⟨y0, y1, y2, y3⟩, _⟩ := hCm i (by omega)
      rw [if_neg (nI_ge (by omega) (by omega)), if_neg (nI_ge (by omega) (by omega)), ix_nI (by omega) (by omega), bindS, bindS, hA.2.2.1.2.1, y1, nI_1]
      by_cases s : nI dy ≤ M0 85 0 i
      · rw [if_pos s, if_pos s]
        exact ih (i + 1) (by omega) (by omega)
      · rw [if_neg s, if_neg s]
        exact Or.inr ⟨rfl, rfl⟩
theorem living_m {C0 M0 : Mem} {nr np dy nc : Nat} {cd : List (Nat × Int32)} {ls : List (Nat × Nat × Nat)} (h : FwE C0 M0 nr np dy nc cd ls) (M : Mem) (hm : sm M0 M) : fX12_livingNow M = some (nI (bitsOf (fun q => dcd (¬ fX6_livesOn q (nI dy) C0 = 0)) nr)) := by
  obtain ⟨hA, m3, hCm, c24, m45, hnc⟩ := h
  obtain ⟨⟨_, hnr⟩, _, ⟨_, m2, _⟩, hRd, _⟩ := hA.sc sc.rf hm
  have run : ∀ (fuel i : Nat), i ≤ nr → nr - i < fuel → fX12_livingNow_4 fuel (nI (bitsOf (fun q => dcd (¬ fX6_livesOn q (nI dy) C0 = 0)) i)) (nI i) M = some (nI (bitsOf (fun q => dcd (¬ fX6_livesOn q (nI dy) C0 = 0)) nr)) := by
    intro fuel
    induction fuel with
    | zero => intro i _ h; omega
    | succ fuel ih =>
      intro i h1 h2
      rw [fX12_livingNow_4, hm.2.1 0 3 (by omega), m3, m2]
      by_cases e : i = nr
      · subst e
        rw [if_pos (Int32.le_refl _)]
      · rw [if_neg (nI_ge (by omega) (by omega)), lives_eq hRd hnr (show i < nr by omega), bindS, nI_1]
        have := ih (i + 1) (by omega) (by omega)
        rw [bitsOf_succ (by omega)] at this
        by_cases l : fX6_livesOn i (nI dy) C0 = 0
        · rw [if_pos l]
          rw [show dcd (¬ fX6_livesOn i (nI dy) C0 = 0) = false from dcd_no (fun z => z l), if_neg (by decide)] at this
          exact this
        · rw [if_neg l]
          rw [show dcd (¬ fX6_livesOn i (nI dy) C0 = 0) = true from dcd_iff.mpr l, if_pos rfl] at this
          exact this
  exact run 5000 0 (by omega) (by omega)
