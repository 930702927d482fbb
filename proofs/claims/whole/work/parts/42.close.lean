/-! ===== PURE: ages on a shelf; close, mean, leaps ===== -/
def asm (sh : Nat → Int32) (a : Nat → Nat) (s : Int32) : Nat → Nat
  | 0 => 0
  | n + 1 => asm sh a s n + if sh n = s then a n else 0
theorem asm_le {sh : Nat → Int32} {a : Nat → Nat} {s : Int32} {m : Nat} : ∀ n, (∀ i, i < n → a i ≤ m) → asm sh a s n ≤ m * n
  | 0, _ => by simp [asm]
  | n + 1, h => by
    have h1 := asm_le (sh := sh) (s := s) n (fun i hi => h i (by omega))
    have h2 := h n (by omega)
    unfold asm
    rw [Nat.mul_succ]
    split <;> omega
theorem agA {C0 M0 : Mem} {nr np dy d : Nat} {cd : List (Nat × Int32)} {ls : List (Nat × Nat × Nat)} (h : AgE C0 M0 nr np dy cd ls) (hd : d ≤ 20000) : ∃ a : Nat → Nat, ∀ p, p < np → a p ≤ 999 ∧ (∀ C, sc C0 C → ∃ C', fX0_ageOf p (nI d) C = some (nI (a p), C') ∧ sc C0 C') ∧ ∀ M, sm M0 M → ∃ M', fX12_ageOf (nI p) (nI p) (nI d) M = some (nI (a p), M') ∧ sm M0 M' := by
  have h1 : ∀ p, ∃ a, p < np → a ≤ 999 ∧ (∀ C, sc C0 C → ∃ C', fX0_ageOf p (nI d) C = some (nI a, C') ∧ sc C0 C') ∧ ∀ M, sm M0 M → ∃ M', fX12_ageOf (nI p) (nI p) (nI d) M = some (nI a, M') ∧ sm M0 M' := by
    intro p
    by_cases hp : p < np
    · obtain ⟨a, ha⟩ := agP (d := d) h hp hd
      exact ⟨a, fun _ => ha⟩
    · exact ⟨0, fun q => absurd q hp⟩
  exact Classical.axiomOfChoice h1
theorem agesOn_c {C0 M0 : Mem} {nr np dy : Nat} {cd : List (Nat × Int32)} {ls : List (Nat × Nat × Nat)} (h : AgE C0 M0 nr np dy cd ls) {a : Nat → Nat} (ha : ∀ p, p < np → a p ≤ 999 ∧ (∀ C, sc C0 C → ∃ C', fX0_ageOf p (nI dy) C = some (nI (a p), C') ∧ sc C0 C') ∧ ∀ M, sm M0 M → ∃ M', fX12_ageOf (nI p) (nI p) (nI dy) M = some (nI (a p), M') ∧ sm M0 M') (s : Int32) : ∀ (fuel i : Nat) (C : Mem), sc C0 C → i ≤ np → np - i < fuel → ∃ C', fX0_agesOn_4 fuel s (nI (asm (M0 65 0) a s i)) (nI i) C = some (nI (asm (M0 65 0) a s np), C') ∧ sc C0 C' := by
  intro fuel
  induction fuel with
  | zero => intro i C _ _ h; omega
  | succ fuel ih =>
    intro i C hc h1 h2
    obtain ⟨_, ⟨c7, _, hnp⟩, ⟨c8, _, hdy⟩, _, hP, _⟩ := h.sc hc sm.rf
    rw [fX0_agesOn_4, c7]
    by_cases e : i = np
    · subst e
      rw [if_pos (Int32.le_refl _)]
      exact ⟨_, rfl, hc⟩
    · have hi : i < np := by omega
      obtain ⟨g1, g2, _⟩ := ha i hi
      rw [if_neg (nI_ge (by omega) (by omega)), ix_nI (by omega) (by omega), bindS, (hP i hi).1.2.1, c8, nI_1]
      by_cases b : M0 65 0 i = s
      · rw [if_pos b]
        obtain ⟨C', f1, f2⟩ := g2 C hc
        rw [f1, bdS, nI_add]
        have := ih (i + 1) C' f2 (by omega) (by omega)
        rw [show asm (M0 65 0) a s (i + 1) = asm (M0 65 0) a s i + a i by simp [asm, b]] at this
        exact this
      · rw [if_neg b]
        have := ih (i + 1) C hc (by omega) (by omega)
        rw [show asm (M0 65 0) a s (i + 1) = asm (M0 65 0) a s i by simp [asm, b]] at this
        exact this
theorem agesOn_m {C0 M0 : Mem} {nr np dy : Nat} {cd : List (Nat × Int32)} {ls : List (Nat × Nat × Nat)} (h : AgE C0 M0 nr np dy cd ls) {a : Nat → Nat} (ha : ∀ p, p < np → a p ≤ 999 ∧ (∀ C, sc C0 C → ∃ C', fX0_ageOf p (nI dy) C = some (nI (a p), C') ∧ sc C0 C') ∧ ∀ M, sm M0 M → ∃ M', fX12_ageOf (nI p) (nI p) (nI dy) M = some (nI (a p), M') ∧ sm M0 M') (s : Int32) : ∀ (fuel i : Nat) (M : Mem), sm M0 M → i ≤ np → np - i < fuel → ∃ M', fX12_agesOn_4 fuel s (nI (asm (M0 65 0) a s i)) (nI i) M = some (nI (asm (M0 65 0) a s np), M') ∧ sm M0 M' := by
  intro fuel
  induction fuel with
  | zero => intro i M _ _ h; omega
  | succ fuel ih =>
    intro i M hm h1 h2
    obtain ⟨_, ⟨_, m10, hnp⟩, ⟨_, m2, hdy⟩, _⟩ := h.sc sc.rf hm
    rw [fX12_agesOn_4, m10]
    by_cases e : i = np
    · subst e
      rw [if_pos (Int32.le_refl _)]
      exact ⟨_, rfl, hm⟩
    · have hi : i < np := by omega
      obtain ⟨g1, _, g2⟩ := ha i hi
      rw [if_neg (nI_ge (by omega) (by omega)), ix_nI (by omega) (by omega), bindS, hm.2.2 65 0 i (by omega) (by omega) (by omega), m2, nI_1]
      by_cases b : M0 65 0 i = s
      · rw [if_pos b]
        obtain ⟨M', f1, f2⟩ := g2 M hm
        rw [f1, bdS, nI_add]
        have := ih (i + 1) M' f2 (by omega) (by omega)
        rw [show asm (M0 65 0) a s (i + 1) = asm (M0 65 0) a s i + a i by simp [asm, b]] at this
        exact this
      · rw [if_neg b]
        have := ih (i + 1) M hm (by omega) (by omega)
        rw [show asm (M0 65 0) a s (i + 1) = asm (M0 65 0) a s i by simp [asm, b]] at this
        exact this
/-- ages and papers on a shelf, on both sides -/
theorem agS {C0 M0 : Mem} {nr np dy : Nat} {cd : List (Nat × Int32)} {ls : List (Nat × Nat × Nat)} (h : AgE C0 M0 nr np dy cd ls) : ∃ A : Int32 → Nat, ∀ s, A s ≤ 11988 ∧ (∀ C, sc C0 C → ∃ C', fX0_agesOn s C = some (nI (A s), C') ∧ sc C0 C') ∧ (∀ M, sm M0 M → ∃ M', fX12_agesOn s M = some (nI (A s), M') ∧ sm M0 M') ∧ (∀ C, sc C0 C → fX0_papersOn s C = some (nI (cnt (fun q => M0 65 0 q == s) np))) ∧ (∀ M, sm M0 M → fX12_papersOn s M = some (nI (cnt (fun q => M0 65 0 q == s) np))) := by
  have h' := h
  obtain ⟨_, ⟨c7, m10, hnp⟩, ⟨c8, _, hdy⟩, _, hP, _⟩ := h'
  obtain ⟨a, ha⟩ := agA (d := dy) h (by omega)
  refine ⟨fun s => asm (M0 65 0) a s np, fun s => ⟨?_, fun C hc => ?_, fun M hm => ?_, fun C hc => ?_, fun M hm => ?_⟩⟩
  · have := asm_le (sh := M0 65 0) (s := s) (m := 999) np (fun i hi => (ha i hi).1)
    have : 999 * np ≤ 999 * 12 := Nat.mul_le_mul_left _ hnp
    show asm (M0 65 0) a s np ≤ 11988
    omega
  · exact agesOn_c h ha s 5000 0 C hc (by omega) (by omega)
  · exact agesOn_m h ha s 5000 0 M hm (by omega) (by omega)
  · obtain ⟨_, ⟨c7', _, _⟩, _, _, hP', _⟩ := h.sc hc sm.rf
    rw [papersOn_C hnp c7', cnt_congr (P := fun q => C 5 q 1 == s) (Q := fun q => M0 65 0 q == s) (n := np) (fun i hi => by rw [(hP' i hi).1.2.1])]
  · obtain ⟨_, ⟨_, m10', _⟩, _⟩ := h.sc sc.rf hm
    rw [papersOn_M hnp m10', cnt_congr (P := fun q => M 65 0 q == s) (Q := fun q => M0 65 0 q == s) (n := np) (fun i hi => by rw [hm.2.2 65 0 i (by omega) (by omega) (by omega)])]
theorem cnt_zero {P : Nat → Bool} : ∀ n, (∀ i, i < n → P i = false) → cnt P n = 0
  | 0, _ => rfl
  | n + 1, h => by
    unfold cnt
    rw [cnt_zero n (fun i hi => h i (by omega)), h n (by omega)]
    rfl
theorem sim_mean {C M : Mem} (h : Rel C M) (p0 : Int32) : ∃ r C' M', fX11_mean p0 C = some (r, C') ∧ fX12_mean p0 M = some (r, M') ∧ Rel C' M' := by
  have h0 := h.told
  unfold fX11_mean fX12_mean
  generalize up M 12 0 0 0 = M0 at h0 ⊢
  obtain ⟨nr, np, dy, cd, ls, hA⟩ := h0.agE
  obtain ⟨A, hS⟩ := agS hA
  obtain ⟨_, ⟨_, _, hnp⟩, _, _, hP, _⟩ := hA
  obtain ⟨s1, s2, s3, s4, s5⟩ := hS p0
  have hcl := cnt_le (fun q => M0 65 0 q == p0) np
  rw [s4 C sc.rf, s5 M0 sm.rf, bindS, bindS, isShelf_eq]
  by_cases a1 : fX11_isShelf p0 = 0
  · have hz : cnt (fun q => M0 65 0 q == p0) np = 0 := cnt_zero np (fun i hi => by
      have := (hP i hi).2.1.1
      by_cases e : M0 65 0 i = p0
      · rw [e] at this
        exact absurd a1 this
      · simp [e])
    rw [hz, if_pos (show nI 0 ≤ 0 from Int32.le_refl _), if_pos a1]
    exact ⟨_, _, _, rfl, rfl, h0⟩
  · rw [if_neg a1]
    generalize cnt (fun q => M0 65 0 q == p0) np = n at hcl s4 s5 ⊢
    by_cases hz : n = 0
    · subst hz
      rw [if_pos (show nI 0 ≤ 0 from Int32.le_refl _), if_pos (show nI 0 ≤ 0 from Int32.le_refl _)]
      exact ⟨_, _, _, rfl, rfl, h0⟩
    · have z1 : ¬ nI n ≤ 0 := nI_ge (a := 0) (by omega) (by omega)
      have z2 : ¬ nI n = 0 := nI_ne0 (by omega) (by omega)
      rw [if_neg z1, if_neg z1]
      obtain ⟨C', f1, f2⟩ := s2 C sc.rf
      obtain ⟨M', f3, f4⟩ := s3 M0 sm.rf
      rw [f1, f3, bdS, bdS, s5 M' f4, bindS, if_neg z2, if_neg z2]
      exact ⟨_, _, _, rfl, rfl, h0.sc f2 f4⟩
theorem sim_close {C M : Mem} (h : Rel C M) : ∃ r C' M', fX11_close C = some (r, C') ∧ fX12_close M = some (r, M') ∧ Rel C' M' := by
  have h0 := h.told
  unfold fX11_close fX12_close
  generalize up M 12 0 0 0 = M0 at h0 ⊢
  obtain ⟨nr, np, dy, cd, ls, hA⟩ := h0.agE
  obtain ⟨A, hS⟩ := agS hA
  obtain ⟨_, ⟨_, _, hnp⟩, _, _, hP, _⟩ := hA
  generalize hal : (fun i : Nat => !(cnt (fun q => M0 65 0 q == nI i) np == 0)) = al
  generalize hyr : (fun i : Nat => A (nI i)) = yr
  have hy : ∀ i, yr i ≤ 11988 := fun i => by rw [← hyr]; exact (hS (nI i)).1
  have hyA : ∀ i, A (nI i) = yr i := fun i => by rw [← hyr]
  have hc : ∀ (fuel i : Nat) (C1 : Mem), sc C C1 → i ≤ 5 → 5 - i < fuel → ∃ C', fX11_close_6 fuel (oI (nx al yr i)) (oI ((nx al yr i).map yr)) (nI i) C1 = some (oI (nx al yr 5), C') ∧ sc C C' := by
    intro fuel
    induction fuel with
    | zero => intro i C1 _ h1 h2; omega
    | succ fuel ih =>
      intro i C1 hs h1 h2
      rw [fX11_close_6]
      by_cases e : i = 5
      · subst e
        rw [if_pos (by decide)]
        exact ⟨C1, rfl, hs⟩
      · rw [if_neg (show ¬ (5 : Int32) ≤ nI i from nI_ge (b := 5) (by omega) (by omega))]
        obtain ⟨s1, s2, s3, s4, s5⟩ := hS (nI i)
        obtain ⟨C2, f1, f2⟩ := s2 C1 hs
        rw [f1, bdS, s4 C2 f2, bindS, nI_1, hyA]
        have := ih (i + 1) C2 f2 (by omega) (by omega)
        have stay : (¬ (al i = true ∧ ∀ b, nx al yr i = some b → yr b < yr i)) → ∃ C', fX11_close_6 fuel (oI (nx al yr i)) (oI ((nx al yr i).map yr)) (nI (i + 1)) C2 = some (oI (nx al yr 5), C') ∧ sc C C' := by
          intro hh
          rw [nx_succ, if_neg hh] at this
          exact this
        have hcl := cnt_le (fun q => M0 65 0 q == nI i) np
        have ha : al i = !(cnt (fun q => M0 65 0 q == nI i) np == 0) := by rw [← hal]
        generalize cnt (fun q => M0 65 0 q == nI i) np = n at hcl ha
        rw [show (0 : Int32) = nI 0 from rfl, ifLe (by omega) (by omega)]
        by_cases a1 : n ≤ 0
        · rw [if_pos a1]
          exact stay (fun q => by
            have := q.1
            rw [ha, show n = 0 by omega] at this
            cases this)
        · rw [if_neg a1]
          have hle : nI (yr i) ≤ oI ((nx al yr i).map yr) ↔ ∃ b, nx al yr i = some b ∧ yr i ≤ yr b := by
            cases hq : nx al yr i with
            | none =>
              have := hy i
              exact ⟨fun z => absurd z (m1_lt (by omega)), fun ⟨b, z, _⟩ => by cases z⟩
            | some b =>
              have y1 := hy i
              have y2 := hy b
              show nI (yr i) ≤ nI (yr b) ↔ _
              rw [nI_leI (by omega) (by omega)]
              exact ⟨fun z => ⟨b, rfl, z⟩, fun ⟨b', z1, z2⟩ => by cases z1; exact z2⟩
          by_cases a2 : nI (yr i) ≤ oI ((nx al yr i).map yr)
          · rw [if_pos a2]
            obtain ⟨b, z1, z2⟩ := hle.mp a2
            exact stay (fun q => by have := q.2 b z1; omega)
          · rw [if_neg a2]
            have hcond : al i = true ∧ ∀ b, nx al yr i = some b → yr b < yr i := by
              refine ⟨?_, fun b hb => ?_⟩
              · rw [ha]
                simp
                omega
              · rcases Nat.lt_or_ge (yr b) (yr i) with z | z
                · exact z
                · exact absurd (hle.mpr ⟨b, hb, z⟩) a2
            rw [nx_succ, if_pos hcond] at this
            exact this
  have hm : ∀ (fuel i : Nat) (M1 : Mem), sm M0 M1 → i ≤ 5 → 5 - i < fuel → ∃ M', fX12_close_9 fuel (oI (nx al yr i)) (nI i) M1 = some (oI (nx al yr 5), M') ∧ sm M0 M' := by
    intro fuel
    induction fuel with
    | zero => intro i M1 _ h1 h2; omega
    | succ fuel ih =>
      intro i M1 hs h1 h2
      rw [fX12_close_9]
      by_cases e : i = 5
      · subst e
        rw [if_pos (by decide)]
        exact ⟨M1, rfl, hs⟩
      · rw [if_neg (show ¬ (5 : Int32) ≤ nI i from nI_ge (b := 5) (by omega) (by omega))]
        obtain ⟨s1, s2, s3, s4, s5⟩ := hS (nI i)
        rw [s5 M1 hs, bindS, nI_1]
        have this := fun M2 hs => ih (i + 1) M2 hs (by omega) (by omega)
        have stay : (¬ (al i = true ∧ ∀ b, nx al yr i = some b → yr b < yr i)) → ∀ M2, sm M0 M2 → ∃ M', fX12_close_9 fuel (oI (nx al yr i)) (nI (i + 1)) M2 = some (oI (nx al yr 5), M') ∧ sm M0 M' := by
          intro hh M2 hs2
          have := this M2 hs2
          rw [nx_succ, if_neg hh] at this
          exact this
        have go : (al i = true ∧ ∀ b, nx al yr i = some b → yr b < yr i) → ∀ M2, sm M0 M2 → ∃ M', fX12_close_9 fuel (nI i) (nI (i + 1)) M2 = some (oI (nx al yr 5), M') ∧ sm M0 M' := by
          intro hh M2 hs2
          have := this M2 hs2
          rw [nx_succ, if_pos hh] at this
          exact this
        have hcl := cnt_le (fun q => M0 65 0 q == nI i) np
        have ha : al i = !(cnt (fun q => M0 65 0 q == nI i) np == 0) := by rw [← hal]
        generalize cnt (fun q => M0 65 0 q == nI i) np = n at hcl ha
        rw [show (0 : Int32) = nI 0 from rfl, ifLe (by omega) (by omega)]
        by_cases a1 : n ≤ 0
        · rw [if_pos a1]
          exact stay (fun q => by
            have := q.1
            rw [ha, show n = 0 by omega] at this
            cases this) M1 hs
        · have hai : al i = true := by
            rw [ha]
            simp
            omega
          rw [if_neg a1]
          cases hq : nx al yr i with
          | none =>
            rw [show oI none = -1 from rfl, if_pos rfl]
            exact go ⟨hai, fun b z => by rw [hq] at z; cases z⟩ M1 hs
          | some b =>
            have hb := nx_lt hq
            obtain ⟨M2, f1, f2⟩ := s3 M1 hs
            obtain ⟨t1, t2, t3, t4, t5⟩ := hS (nI b)
            obtain ⟨M3, f3, f4⟩ := t3 M2 f2
            have y1 := hy i
            have y2 := hy b
            rw [show oI (some b) = nI b from rfl, if_neg (nI_ne_m1 (by omega)), f1, bdS, f3, bdS, hyA, hyA, ifLe (by omega) (by omega)]
            by_cases a4 : yr i ≤ yr b
            · rw [if_pos a4]
              have := stay (fun q => by have := q.2 b hq; omega) M3 f4
              rw [hq] at this
              exact this
            · rw [if_neg a4]
              exact go ⟨hai, fun b' z => by rw [hq] at z; cases z; omega⟩ M3 f4
  obtain ⟨C', g1, g2⟩ := hc 5000 0 C sc.rf (by omega) (by omega)
  obtain ⟨M', g3, g4⟩ := hm 5000 0 M0 sm.rf (by omega) (by omega)
  exact ⟨_, C', M', g1, g3, h0.sc g2 g4⟩
