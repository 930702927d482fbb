/-! ===== PURE: whether claims stand; the ways of each paper ===== -/
def FwE (C M : Mem) (nr np dy nc : Nat) (cd : List (Nat × Int32)) (ls : List (Nat × Nat × Nat)) : Prop := AgE C M nr np dy cd ls ∧ M 12 0 3 = nI nr ∧ CmR C M np nc ∧ C 2 0 4 = nI nc ∧ M 12 0 45 = nI nc ∧ nc ≤ 6
def ClP (M : Mem) (cd : List (Nat × Int32)) (ls : List (Nat × Nat × Nat)) (C : Mem) (p : Nat) (v : Nat → Int32) (k : Nat) : Prop := M 84 0 k = nI p → ¬ fX11_within (agv cd ls C v (M 85 0 k)) (M 86 0 k) (M 87 0 k) = 0
def Std (M : Mem) (cd : List (Nat × Int32)) (ls : List (Nat × Nat × Nat)) (C : Mem) (nc p : Nat) (v : Nat → Int32) : Prop := ∀ k, k < nc → ClP M cd ls C p v k
theorem stand_c {C0 M0 : Mem} {nr np dy nc p b : Nat} {cd : List (Nat × Int32)} {ls : List (Nat × Nat × Nat)} {v : Nat → Int32} (h : FwE C0 M0 nr np dy nc cd ls) (hp : p < np) (hb : b ≠ 15) (hv0 : v 0 = nI p) (hv3 : ∃ q, q ≤ nr ∧ v 3 = nI q - 1) : ∀ (fuel i : Nat) (C : Mem), sc C0 C → (∀ j, j < 8 → C 5 b j = v j) → i ≤ nc → nc - i < fuel → ∃ w C', w ≤ 1 ∧ fX8_claimsStand_8 fuel b (nI i) C = some (nI w, C') ∧ sc C0 C' ∧ (∀ k i, k ≠ 15 → k ≠ 25 → C' k i = C k i) ∧ (w = 1 ↔ ∀ k, i ≤ k → k < nc → ClP M0 cd ls C0 p v k) := by
  obtain ⟨hA, m3, hCm, c24, m45, hnc⟩ := h
  intro fuel
  induction fuel with
  | zero => intro i C _ _ _ h; omega
  | succ fuel ih =>
    intro i C hc hv h1 h2
    have hnp : np ≤ 12 := hA.2.1.2.2
    rw [fX8_claimsStand_8, hc 2 0 (by omega), c24]
    by_cases e : i = nc
    · subst e
      rw [if_pos (Int32.le_refl _)]
      exact ⟨1, C, by omega, rfl, hc, fun _ _ _ _ => rfl, ⟨fun _ k a b => absurd b (by omega), fun _ => rfl⟩⟩
    · obtain ⟨⟨y0, y1, y2, y3⟩, ⟨q, q1, q2⟩, ⟨d, d1, d2⟩⟩ := hCm i (by omega)
      rw [if_neg (nI_ge (by omega) (by omega)), ix_nI (by omega) (by omega), bindS, hc 17 0 (by omega), hc 18 0 (by omega), y0, y1, hv 0 (by omega), hv0, nI_1]
      have stp : ∀ C1, sc C0 C1 → (∀ k i, k ≠ 15 → k ≠ 25 → C1 k i = C k i) → ClP M0 cd ls C0 p v i → ∃ w C', w ≤ 1 ∧ fX8_claimsStand_8 fuel b (nI (i + 1)) C1 = some (nI w, C') ∧ sc C0 C' ∧ (∀ k i, k ≠ 15 → k ≠ 25 → C' k i = C k i) ∧ (w = 1 ↔ ∀ k, i ≤ k → k < nc → ClP M0 cd ls C0 p v k) := by
        intro C1 hc1 hk hP
        obtain ⟨w, C', w1, w2, w3, w4, w5⟩ := ih (i + 1) C1 hc1 (fun j hj => by rw [hk 5 b (by omega) (by omega), hv j hj]) (by omega) (by omega)
        refine ⟨w, C', w1, w2, w3, fun k i a b => (w4 k i a b).trans (hk k i a b), w5.trans ⟨fun z k a b => ?_, fun z k a b => z k (by omega) b⟩⟩
        by_cases ek : k = i
        · rw [ek]; exact hP
        · exact z k (by omega) b
      by_cases ep : M0 84 0 i = nI p
      · rw [if_pos ep]
        obtain ⟨C1, g1, g2, g3⟩ := ag_C (b := b) (d := M0 85 0 i) hA hc (by
          obtain ⟨q', z1, z2⟩ := hv3
          exact ⟨q', z1, by rw [hv 3 (by omega), z2]⟩)
        rw [agv_v (v' := v) (fun j hj => hv j (by omega))] at g1
        rw [g1, bdS, g2 19 0 (by omega), g2 20 0 (by omega), y2, y3]
        by_cases ew : fX11_within (agv cd ls C0 v (M0 85 0 i)) (M0 86 0 i) (M0 87 0 i) = 0
        · rw [if_pos ew]
          exact ⟨0, C1, by omega, rfl, g2, g3, ⟨fun z => absurd z (by omega), fun z => absurd ew (z i (Nat.le_refl _) (by omega) ep)⟩⟩
        · rw [if_neg ew]
          exact stp C1 g2 g3 (fun _ => ew)
      · rw [if_neg ep]
        exact stp C hc (fun _ _ _ _ => rfl) (fun z => absurd z ep)
theorem stand_m {C0 M0 : Mem} {nr np dy nc p : Nat} {cd : List (Nat × Int32)} {ls : List (Nat × Nat × Nat)} {v : Nat → Int32} (h : FwE C0 M0 nr np dy nc cd ls) (hp : p < np) (hv0 : v 0 = nI p) (hv3 : ∃ q, q ≤ nr ∧ v 3 = nI q - 1) : ∀ (fuel i : Nat) (M : Mem), sm M0 M → (∀ q, v 3 = nI q - 1 → q ≤ nr → M 67 0 12 = nI q) → (v 1 = M 65 0 12 ∧ v 2 = M 66 0 12 ∧ v 4 = M 68 0 12 ∧ v 5 = M 69 0 12 ∧ v 6 = M 70 0 12) → i ≤ nc → nc - i < fuel → ∃ w M', w ≤ 1 ∧ fX12_doStand_2 fuel (nI p) (nI i) M = some (nI w, M') ∧ sm M0 M' ∧ (∀ k i, k ≠ 81 → k ≠ 82 → M' k i = M k i) ∧ (w = 1 ↔ ∀ k, i ≤ k → k < nc → ClP M0 cd ls C0 p v k) := by
  obtain ⟨hA, m3, hCm, c24, m45, hnc⟩ := h
  intro fuel
  induction fuel with
  | zero => intro i M _ _ _ _ h; omega
  | succ fuel ih =>
    intro i M hm hr hv h1 h2
    have hnp : np ≤ 12 := hA.2.1.2.2
    rw [fX12_doStand_2, hm.2.1 0 45 (by omega), m45]
    by_cases e : i = nc
    · subst e
      rw [if_pos (Int32.le_refl _)]
      exact ⟨1, M, by omega, rfl, hm, fun _ _ _ _ => rfl, ⟨fun _ k a b => absurd b (by omega), fun _ => rfl⟩⟩
    · obtain ⟨⟨y0, y1, y2, y3⟩, ⟨q, q1, q2⟩, ⟨d, d1, d2⟩⟩ := hCm i (by omega)
      rw [if_neg (nI_ge (by omega) (by omega)), ix_nI (by omega) (by omega), bindS, hm.1 84 0 (by omega) (by omega), hm.1 85 0 (by omega) (by omega), nI_1]
      have stp : ∀ M1, sm M0 M1 → (∀ k i, k ≠ 81 → k ≠ 82 → M1 k i = M k i) → ClP M0 cd ls C0 p v i → ∃ w M', w ≤ 1 ∧ fX12_doStand_2 fuel (nI p) (nI (i + 1)) M1 = some (nI w, M') ∧ sm M0 M' ∧ (∀ k i, k ≠ 81 → k ≠ 82 → M' k i = M k i) ∧ (w = 1 ↔ ∀ k, i ≤ k → k < nc → ClP M0 cd ls C0 p v k) := by
        intro M1 hm1 hk hP
        obtain ⟨w, M', w1, w2, w3, w4, w5⟩ := ih (i + 1) M1 hm1 (fun q a b => by rw [hk 67 0 (by omega) (by omega)]; exact hr q a b) (by rw [hk 65 0 (by omega) (by omega), hk 66 0 (by omega) (by omega), hk 68 0 (by omega) (by omega), hk 69 0 (by omega) (by omega), hk 70 0 (by omega) (by omega)]; exact hv) (by omega) (by omega)
        refine ⟨w, M', w1, w2, w3, fun k i a b => (w4 k i a b).trans (hk k i a b), w5.trans ⟨fun z k a b => ?_, fun z k a b => z k (by omega) b⟩⟩
        by_cases ek : k = i
        · rw [ek]; exact hP
        · exact z k (by omega) b
      by_cases ep : M0 84 0 i = nI p
      · rw [if_pos ep]
        obtain ⟨q', z1, z2⟩ := hv3
        obtain ⟨v1, v2, v4, v5, v6⟩ := hv
        obtain ⟨M1, g1, g2, g3⟩ := ag_M (v := v) (d := d) hA hm (show 12 < 13 by omega) (by omega) ⟨q', z1, hr q' z2 z1⟩ v1 v2 (by rw [hr q' z2 z1, z2]) v4 v5 v6
        rw [hv0, ← d2] at g1
        rw [show fX12_ageOf 12 (nI p) (M0 85 0 i) M = _ from g1, bdS, g2.1 86 0 (by omega) (by omega), g2.1 87 0 (by omega) (by omega), isIn_eq]
        by_cases ew : fX11_within (agv cd ls C0 v (M0 85 0 i)) (M0 86 0 i) (M0 87 0 i) = 0
        · rw [if_pos ew]
          exact ⟨0, M1, by omega, rfl, g2, g3, ⟨fun z => absurd z (by omega), fun z => absurd ew (z i (Nat.le_refl _) (by omega) ep)⟩⟩
        · rw [if_neg ew]
          exact stp M1 g2 g3 (fun _ => ew)
      · rw [if_neg ep]
        exact stp M hm (fun _ _ _ _ => rfl) (fun z => absurd z ep)
/-- who, reading the paper today, makes its claims stand -/
noncomputable def Bw (M : Mem) (cd : List (Nat × Int32)) (ls : List (Nat × Nat × Nat)) (C : Mem) (nc dy p q : Nat) : Bool := dcd (¬ fX6_livesOn q (nI dy) C = 0 ∧ Std M cd ls C nc p (iv C p q (nI dy)))
noncomputable def Nw (M : Mem) (cd : List (Nat × Int32)) (ls : List (Nat × Nat × Nat)) (C : Mem) (nc p : Nat) : Bool := dcd (Std M cd ls C nc p (C 5 p))
theorem w_one {w : Nat} {P : Prop} (h : w ≤ 1) (hw : w = 1 ↔ P) {α : Type} {x y : α} : (if nI w = 0 then x else y) = if dcd P = true then y else x := by
  rcases (show w = 0 ∨ w = 1 by omega) with rfl | rfl
  · rw [if_pos (show nI 0 = 0 from rfl), if_neg (fun q => absurd (hw.mpr (dcd_iff.mp q)) (by omega))]
  · rw [if_neg (show ¬ nI 1 = 0 by decide), if_pos (dcd_iff.mpr (hw.mp rfl))]
theorem sc.up28 {C0 C : Mem} {j : Nat} {x : Int32} (h : sc C0 C) : sc C0 (up C 28 0 j x) := fun k i q => by rw [upk (by omega), h k i q]
theorem Std.all {M : Mem} {cd : List (Nat × Int32)} {ls : List (Nat × Nat × Nat)} {C : Mem} {nc p : Nat} {v : Nat → Int32} : (∀ k, 0 ≤ k → k < nc → ClP M cd ls C p v k) ↔ Std M cd ls C nc p v := ⟨fun h k hk => h k (by omega) hk, fun h k _ hk => h k hk⟩
theorem weigh_in {C0 M0 : Mem} {nr np dy nc p : Nat} {cd : List (Nat × Int32)} {ls : List (Nat × Nat × Nat)} (h : FwE C0 M0 nr np dy nc cd ls) (hp : p < np) : ∀ (fuel i : Nat) (C : Mem), sc C0 C → C 28 0 p = nI (bitsOf (Bw M0 cd ls C0 nc dy p) i) → i ≤ nr → nr - i < fuel → ∃ C', fX8_weigh_39 fuel (nI p) (nI i) C = some C' ∧ sc C0 C' ∧ C' 28 0 p = nI (bitsOf (Bw M0 cd ls C0 nc dy p) nr) ∧ ∀ j, j ≠ p → C' 28 0 j = C 28 0 j := by
  have h' := h
  obtain ⟨hA, m3, hCm, c24, m45, hnc⟩ := h'
  intro fuel
  induction fuel with
  | zero => intro i C _ _ _ h; omega
  | succ fuel ih =>
    intro i C hc hb h1 h2
    obtain ⟨⟨c6, hnr⟩, ⟨c7, m10, hnp⟩, ⟨c8, m2, hdy⟩, hRd, hPp, _⟩ := hA.sc hc sm.rf
    rw [fX8_weigh_39, c6, c8]
    by_cases e : i = nr
    · subst e
      rw [if_pos (Int32.le_refl _)]
      exact ⟨C, rfl, hc, hb, fun _ _ => rfl⟩
    · have hbl := b12_lt (B := Bw M0 cd ls C0 nc dy p) (n := i) (by omega)
      rw [if_neg (nI_ge (by omega) (by omega)), ix_nI (by omega) (by omega), bindS, hb, if_neg (show ¬ nI (bitsOf (Bw M0 cd ls C0 nc dy p) i) = 4096 from fun q => by
        have := (nI_eq (by omega) (by omega)).mp (show nI (bitsOf (Bw M0 cd ls C0 nc dy p) i) = nI 4096 from q)
        omega), nI_1]
      obtain ⟨i1, i2⟩ := imagine_c (d := dy) hA hc hp (show i < nr by omega)
      by_cases l : fX6_livesOn i (nI dy) C0 = 0
      · rw [i1 l, bdS, mtN]
        refine ih (i + 1) C hc ?_ (by omega) (by omega)
        rw [bitsOf_succ (by omega), if_neg, hb]
        unfold Bw
        rw [dcd_no (fun z => z.1 l)]
        decide
      · obtain ⟨C1, j1, j2, j3, j4⟩ := i2 l
        have hp0 := (hA.2.2.2.2.1 p hp).1.1
        obtain ⟨w, C2, w1, w2, w3, w4, w5⟩ := stand_c (b := 24) (v := iv C0 p i (nI dy)) h hp (by omega) hp0 ⟨i + 1, by omega, by rw [nI_pred]; rfl⟩ 5000 0 C1 j2 j4 (by omega) (by omega)
        rw [j1, bdS, mtS]
        unfold fX8_claimsStand
        rw [show fX8_claimsStand_8 5000 24 0 C1 = _ from w2, bdS, w_one w1 (w5.trans Std.all)]
        have e28 : C2 28 0 = C 28 0 := by rw [w4 28 0 (by omega) (by omega), j3 28 0 (by omega)]
        by_cases s : Std M0 cd ls C0 nc p (iv C0 p i (nI dy))
        · rw [if_pos (dcd_iff.mpr s)]
          obtain ⟨C', f1, f2, f3, f4⟩ := ih (i + 1) (up C2 28 0 p (C2 28 0 p ||| (1 <<< (nI i &&& 31)))) (sc.up28 w3) (by
            rw [up_at, e28, hb, bitsOf_succ (by omega), if_pos]
            unfold Bw
            exact dcd_iff.mpr ⟨l, s⟩) (by omega) (by omega)
          exact ⟨C', f1, f2, f3, fun j hj => by rw [f4 j hj, upj hj, e28]⟩
        · rw [dcd_no s, if_neg (by decide)]
          obtain ⟨C', f1, f2, f3, f4⟩ := ih (i + 1) C2 w3 (by
            rw [e28, hb, bitsOf_succ (by omega), if_neg]
            unfold Bw
            rw [dcd_no (fun z => s z.2)]
            decide) (by omega) (by omega)
          exact ⟨C', f1, f2, f3, fun j hj => by rw [f4 j hj, e28]⟩
noncomputable def wc (M : Mem) (cd : List (Nat × Int32)) (ls : List (Nat × Nat × Nat)) (C : Mem) (nr nc dy p : Nat) : Nat := if Nw M cd ls C nc p = true then 4096 else bitsOf (Bw M cd ls C nc dy p) nr
theorem weigh_out {C0 M0 : Mem} {nr np dy nc : Nat} {cd : List (Nat × Int32)} {ls : List (Nat × Nat × Nat)} (h : FwE C0 M0 nr np dy nc cd ls) : ∀ (fuel i : Nat) (C : Mem), sc C0 C → (∀ j, j < i → C 28 0 j = nI (wc M0 cd ls C0 nr nc dy j)) → i ≤ np → np - i < fuel → ∃ C', fX8_weigh_2 fuel (nI i) C = some C' ∧ sc C0 C' ∧ ∀ j, j < np → C' 28 0 j = nI (wc M0 cd ls C0 nr nc dy j) := by
  have h' := h
  obtain ⟨hA, m3, hCm, c24, m45, hnc⟩ := h'
  intro fuel
  induction fuel with
  | zero => intro i C _ _ _ h; omega
  | succ fuel ih =>
    intro i C hc hb h1 h2
    obtain ⟨⟨c6, hnr⟩, ⟨c7, m10, hnp⟩, ⟨c8, m2, hdy⟩, hRd, hPp, _⟩ := hA.sc hc sm.rf
    rw [fX8_weigh_2, c7]
    by_cases e : i = np
    · subst e
      rw [if_pos (Int32.le_refl _)]
      exact ⟨C, rfl, hc, hb⟩
    · have hi : i < np := by omega
      obtain ⟨⟨p0, _, _, p3, _⟩, _, ⟨q', q1, q2⟩, _⟩ := hA.2.2.2.2.1 i hi
      obtain ⟨w, C2, w1, w2, w3, w4, w5⟩ := stand_c (b := i) (v := C0 5 i) h hi (by omega) p0 ⟨q', q1, by rw [p3, q2]⟩ 5000 0 C hc (fun j hj => by rw [hc 5 i (by omega)]) (by omega) (by omega)
      rw [if_neg (nI_ge (by omega) (by omega)), ix_nI (by omega) (by omega), bindS]
      unfold fX8_claimsStand
      rw [show fX8_claimsStand_8 5000 i 0 C = _ from w2, bdS, w_one w1 (w5.trans Std.all), nI_1]
      have e28 : C2 28 0 = C 28 0 := w4 28 0 (by omega) (by omega)
      by_cases s : Nw M0 cd ls C0 nc i = true
      · have s' := s
        unfold Nw at s'
        rw [if_pos s']
        have hw : fX8_weigh_39 5000 (nI i) 0 (up C2 28 0 i 4096) = some (up C2 28 0 i 4096) := by
          rw [show (5000 : Nat) = 4999 + 1 from rfl, fX8_weigh_39, ix_nI (by omega) (by omega), bindS, up_at, if_pos rfl]
          split <;> rfl
        rw [hw, bindS]
        refine ih (i + 1) (up C2 28 0 i 4096) (sc.up28 w3) (fun j hj => ?_) (by omega) (by omega)
        by_cases ej : j = i
        · subst ej
          rw [up_at]
          unfold wc
          rw [if_pos s]
          rfl
        · rw [upj ej, e28, hb j (by omega)]
      · have s' := s
        unfold Nw at s'
        rw [if_neg s']
        obtain ⟨C3, f1, f2, f3, f4⟩ := weigh_in h hi 5000 0 (up C2 28 0 i 0) (sc.up28 w3) up_at (by omega) (by omega)
        rw [show fX8_weigh_39 5000 (nI i) 0 (up C2 28 0 i 0) = _ from f1, bindS]
        refine ih (i + 1) C3 f2 (fun j hj => ?_) (by omega) (by omega)
        by_cases ej : j = i
        · subst ej
          rw [f3]
          unfold wc
          rw [if_neg s]
        · rw [f4 j ej, upj ej, e28, hb j (by omega)]
