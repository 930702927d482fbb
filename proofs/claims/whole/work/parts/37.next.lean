/-! ===== PURE: years, leases, who is next ===== -/
theorem i_sub {a b : Int32} (h1 : -2147483648 ≤ a.toInt - b.toInt) (h2 : a.toInt - b.toInt < 2147483648) : (a - b).toInt = a.toInt - b.toInt := by
  rw [Int32.toInt_sub]
  exact Int.bmod_eq_of_le (by omega) (by omega)
theorem i_add {a b : Int32} (h1 : -2147483648 ≤ a.toInt + b.toInt) (h2 : a.toInt + b.toInt < 2147483648) : (a + b).toInt = a.toInt + b.toInt := by
  rw [Int32.toInt_add]
  exact Int.bmod_eq_of_le (by omega) (by omega)
theorem i_le {a b : Int32} : a ≤ b ↔ a.toInt ≤ b.toInt := Int32.le_iff_toInt_le
theorem i_lt {a b : Int32} : a < b ↔ a.toInt < b.toInt := Int32.lt_iff_toInt_lt
theorem i_nI {a : Int32} {n : Nat} (h : a.toInt = n) (hn : n < 2 ^ 31) : a = nI n := Int32.toInt_inj.mp (by rw [h, nI_toInt hn])
theorem yrs_eq {C M : Mem} {nr i d : Nat} (hRd : RdR C M nr) (hnr : nr ≤ 12) (hi : i < nr) (hd : d ≤ 20000) : fX12_yearsOf (nI i) (nI d) M = some (fX6_yearsOn i (nI d) C) ∧ ∃ y, y ≤ 999 ∧ fX6_yearsOn i (nI d) C = nI y := by
  obtain ⟨⟨a, -, b, -⟩, ⟨l1, l2⟩, g, -⟩ := hRd i hi
  have hx : ix (nI i) 12 = some i := ix_nI (by omega) (by omega)
  have t1 : (-36500 : Int32).toInt = -36500 := by decide
  have t2 : (9999 : Int32).toInt = 9999 := by decide
  have t0 : (0 : Int32).toInt = 0 := by decide
  rw [i_le, t1] at l1
  rw [i_le, t2] at l2
  have td : (nI d).toInt = d := nI_toInt (by omega)
  have ts : (nI d - M 60 0 i).toInt = d - (M 60 0 i).toInt := by rw [i_sub] <;> omega
  have hg : ∃ g', g' ≤ 10 ∧ 10 * M 62 0 i = nI g' := by
    rcases g with e | e <;> rw [e]
    · exact ⟨0, by omega, rfl⟩
    · exact ⟨10, by omega, rfl⟩
  obtain ⟨g', g1, g2⟩ := hg
  unfold fX12_yearsOf fX6_yearsOn fX12_yearsOf_26
  rw [hx, a, b, g2]
  by_cases hb : nI d ≤ M 60 0 i
  · have n0 : ¬ 0 < nI d - M 60 0 i := by
      rw [i_lt, ts, t0]
      rw [i_le, td] at hb
      omega
    rw [if_neg n0]
    refine ⟨?_, g', by omega, ?_⟩
    · show (if nI d ≤ M 60 0 i then _ else _) = _
      rw [if_pos hb]
      show some (0 + _) = _
      rw [g2]
      rfl
    · rw [show (0 : Int32) / 365 = nI 0 by decide, nI_add, Nat.zero_add]
  · have p0 : 0 < nI d - M 60 0 i := by
      rw [i_lt, ts, t0]
      rw [i_le, td] at hb
      omega
    rw [if_pos p0]
    have hpos : 0 < d - (M 60 0 i).toInt := by rw [i_lt, ts, t0] at p0; exact p0
    have e1 : nI d - M 60 0 i = nI (d - (M 60 0 i).toInt).toNat := i_nI (by rw [ts]; omega) (by omega)
    refine ⟨?_, (d - (M 60 0 i).toInt).toNat / 365 + g', ?_, ?_⟩
    · show (if nI d ≤ M 60 0 i then _ else _) = _
      rw [if_neg hb]
      show some (_ / 365 + _) = _
      rw [g2]
    · omega
    · rw [e1, show (365 : Int32) = nI 365 from rfl, pk_div (by omega) (by omega) (by omega), nI_add]
theorem leasesOf_c {s : Int32} {np : Nat} (hn : np ≤ 12) {C : Mem} (hc : C 0 0 7 = nI np) : ∀ (fuel i : Nat), i ≤ np → np - i < fuel → fX0_leasesOf_4 fuel s (nI (cnt (fun q => C 5 q 7 == s) i)) (nI i) C = some (nI (cnt (fun q => C 5 q 7 == s) np)) := by
  intro fuel
  induction fuel with
  | zero => intro i h2 h3; omega
  | succ fuel ih =>
    intro i h2 h3
    rw [fX0_leasesOf_4, hc]
    by_cases e : i = np
    · subst e
      rw [if_pos (nI_le (Nat.le_refl _) (by omega))]
    · rw [if_neg (nI_ge (by omega) (by omega)), ix_nI (by omega) (by omega)]
      have := ih (i + 1) (by omega) (by omega)
      show (if C 5 i 7 = s then fX0_leasesOf_4 fuel s (nI (cnt (fun q => C 5 q 7 == s) i) + 1) (nI i + 1) C else fX0_leasesOf_4 fuel s (nI (cnt (fun q => C 5 q 7 == s) i)) (nI i + 1) C) = _
      rw [nI_1, nI_1, ← this]
      by_cases b : C 5 i 7 = s
      · rw [if_pos b, show cnt (fun q => C 5 q 7 == s) (i + 1) = cnt (fun q => C 5 q 7 == s) i + 1 by simp [cnt, b]]
      · rw [if_neg b, show cnt (fun q => C 5 q 7 == s) (i + 1) = cnt (fun q => C 5 q 7 == s) i by simp [cnt, b]]
theorem leasesOf_m {s : Int32} {np : Nat} (hn : np ≤ 12) {M : Mem} (hm : M 12 0 10 = nI np) : ∀ (fuel i : Nat), i ≤ np → np - i < fuel → fX12_leasesOf_4 fuel s (nI (cnt (fun q => M 71 0 q == s) i)) (nI i) M = some (nI (cnt (fun q => M 71 0 q == s) np)) := by
  intro fuel
  induction fuel with
  | zero => intro i h2 h3; omega
  | succ fuel ih =>
    intro i h2 h3
    rw [fX12_leasesOf_4, hm]
    by_cases e : i = np
    · subst e
      rw [if_pos (nI_le (Nat.le_refl _) (by omega))]
    · rw [if_neg (nI_ge (by omega) (by omega)), ix_nI (by omega) (by omega)]
      have := ih (i + 1) (by omega) (by omega)
      show (if M 71 0 i = s then fX12_leasesOf_4 fuel s (nI (cnt (fun q => M 71 0 q == s) i) + 1) (nI i + 1) M else fX12_leasesOf_4 fuel s (nI (cnt (fun q => M 71 0 q == s) i)) (nI i + 1) M) = _
      rw [nI_1, nI_1, ← this]
      by_cases b : M 71 0 i = s
      · rw [if_pos b, show cnt (fun q => M 71 0 q == s) (i + 1) = cnt (fun q => M 71 0 q == s) i + 1 by simp [cnt, b]]
      · rw [if_neg b, show cnt (fun q => M 71 0 q == s) (i + 1) = cnt (fun q => M 71 0 q == s) i by simp [cnt, b]]
theorem leases_eq {C M : Mem} {nr np dy : Nat} {s : Int32} (hP : PpR C M nr np dy) (hn : np ≤ 12) (hc : C 0 0 7 = nI np) (hm : M 12 0 10 = nI np) : fX0_leasesOf s C = some (nI (cnt (fun q => M 71 0 q == s) np)) ∧ fX12_leasesOf s M = some (nI (cnt (fun q => M 71 0 q == s) np)) := by
  refine ⟨?_, leasesOf_m hn hm 5000 0 (by omega) (by omega)⟩
  have h1 := leasesOf_c (s := s) hn hc 5000 0 (by omega) (by omega)
  rw [cnt_congr (P := fun q => C 5 q 7 == s) (Q := fun q => M 71 0 q == s) (n := np) (fun i hi => by rw [(hP i hi).1.2.2.2.2.2.2.2])] at h1
  exact h1
/-- who is next: of those who live and have none, the one of the most years, of several the least -/
def nx (al : Nat → Bool) (yr : Nat → Nat) : Nat → Option Nat
  | 0 => none
  | n + 1 => if al n = true ∧ (∀ b, nx al yr n = some b → yr b < yr n) then some n else nx al yr n
theorem nx_lt {al : Nat → Bool} {yr : Nat → Nat} : ∀ {n b : Nat}, nx al yr n = some b → b < n := by
  intro n
  induction n with
  | zero => intro b h; cases h
  | succ n ih =>
    intro b h
    unfold nx at h
    split at h
    · cases h; omega
    · have := ih h; omega
def oI (o : Option Nat) : Int32 := match o with
  | none => -1
  | some b => nI b
theorem nI_ne_m1 {n : Nat} (h : n < 2 ^ 31) : ¬ nI n = -1 := fun e => by
  have := nI_toInt (n := n) h
  rw [e] at this
  have h1 : (-1 : Int32).toInt = -1 := by decide
  omega
theorem m1_lt {n : Nat} (h : n < 2 ^ 31) : ¬ nI n ≤ -1 := fun e => by
  rw [i_le, nI_toInt h] at e
  have h1 : (-1 : Int32).toInt = -1 := by decide
  omega
theorem nx_succ {al : Nat → Bool} {yr : Nat → Nat} {n : Nat} : nx al yr (n + 1) = if al n = true ∧ (∀ b, nx al yr n = some b → yr b < yr n) then some n else nx al yr n := rfl
theorem next_eq {C M : Mem} {nr np dy d : Nat} (hRd : RdR C M nr) (hnr : nr ≤ 12) (hP : PpR C M nr np dy) (hn : np ≤ 12) (c6 : C 0 0 6 = nI nr) (m3 : M 12 0 3 = nI nr) (c7 : C 0 0 7 = nI np) (m10 : M 12 0 10 = nI np) (c8 : C 0 0 8 = nI d) (m2 : M 12 0 2 = nI d) (hd : d ≤ 20000) : ∃ o : Option Nat, fX0_nextForLease C = some (oI o) ∧ fX12_nextOne M = some (oI o) ∧ ∀ b, o = some b → b < nr := by
  have hy : ∃ yr : Nat → Nat, ∀ i, i < nr → fX6_yearsOn i (nI d) C = nI (yr i) ∧ yr i ≤ 999 := by
    have h1 : ∀ i, ∃ y, i < nr → fX6_yearsOn i (nI d) C = nI y ∧ y ≤ 999 := by
      intro i
      by_cases hi : i < nr
      · obtain ⟨-, y, y1, y2⟩ := yrs_eq hRd hnr hi hd
        exact ⟨y, fun _ => ⟨y2, y1⟩⟩
      · exact ⟨0, fun h => absurd h hi⟩
    obtain ⟨yr, h2⟩ := Classical.axiomOfChoice h1
    exact ⟨yr, h2⟩
  obtain ⟨yr, hy⟩ := hy
  have hfree : ∀ i, ¬ nI (cnt (fun q => M 71 0 q == nI i) np) = 0 ↔ ¬ cnt (fun q => M 71 0 q == nI i) np = 0 := by
    intro i
    have := cnt_le (fun q => M 71 0 q == nI i) np
    rw [show (0 : Int32) = nI 0 from rfl, nI_eq (by omega) (by omega)]
  generalize hal : (fun i : Nat => !(fX6_livesOn i (nI d) C == 0) && cnt (fun q => M 71 0 q == nI i) np == 0) = al
  have hc : ∀ (fuel i : Nat), i ≤ nr → nr - i < fuel → fX0_nextForLease_6 fuel (oI (nx al yr i)) (oI ((nx al yr i).map yr)) (nI i) C = some (oI (nx al yr nr)) := by
    intro fuel
    induction fuel with
    | zero => intro i h1 h2; omega
    | succ fuel ih =>
      intro i h1 h2
      rw [fX0_nextForLease_6, c6]
      by_cases e : i = nr
      · subst e
        rw [if_pos (nI_le (Nat.le_refl _) (by omega))]
      · have hi : i < nr := by omega
        rw [if_neg (nI_ge (by omega) (by omega)), ix_nI (by omega) (by omega), c8]
        have := ih (i + 1) (by omega) (by omega)
        show (if fX6_livesOn i (nI d) C = 0 then fX0_nextForLease_6 fuel (oI (nx al yr i)) (oI ((nx al yr i).map yr)) (nI i + 1) C else if fX6_yearsOn i (nI d) C ≤ oI ((nx al yr i).map yr) then fX0_nextForLease_6 fuel (oI (nx al yr i)) (oI ((nx al yr i).map yr)) (nI i + 1) C else (fX0_leasesOf (nI i) C).bind fun r7 => if r7 = 0 then fX0_nextForLease_6 fuel (nI i) (fX6_yearsOn i (nI d) C) (nI i + 1) C else fX0_nextForLease_6 fuel (oI (nx al yr i)) (oI ((nx al yr i).map yr)) (nI i + 1) C) = _
        rw [nI_1, (leases_eq hP hn c7 m10).1, (hy i hi).1]
        show (if fX6_livesOn i (nI d) C = 0 then fX0_nextForLease_6 fuel (oI (nx al yr i)) (oI ((nx al yr i).map yr)) (nI (i + 1)) C else if nI (yr i) ≤ oI ((nx al yr i).map yr) then fX0_nextForLease_6 fuel (oI (nx al yr i)) (oI ((nx al yr i).map yr)) (nI (i + 1)) C else if nI (cnt (fun q => M 71 0 q == nI i) np) = 0 then fX0_nextForLease_6 fuel (nI i) (nI (yr i)) (nI (i + 1)) C else fX0_nextForLease_6 fuel (oI (nx al yr i)) (oI ((nx al yr i).map yr)) (nI (i + 1)) C) = _
        have stay : (¬ (al i = true ∧ ∀ b, nx al yr i = some b → yr b < yr i)) → fX0_nextForLease_6 fuel (oI (nx al yr i)) (oI ((nx al yr i).map yr)) (nI (i + 1)) C = some (oI (nx al yr nr)) := by
          intro hh
          rw [nx_succ, if_neg hh] at this
          exact this
        by_cases a1 : fX6_livesOn i (nI d) C = 0
        · rw [if_pos a1]
          exact stay (fun q => by have := q.1; rw [← hal] at this; simp [a1] at this)
        · rw [if_neg a1]
          have hle : nI (yr i) ≤ oI ((nx al yr i).map yr) ↔ ∃ b, nx al yr i = some b ∧ yr i ≤ yr b := by
            cases hq : nx al yr i with
            | none =>
              have := (hy i hi).2
              exact ⟨fun z => absurd z (m1_lt (by omega)), fun ⟨b, z, _⟩ => by cases z⟩
            | some b =>
              have hb := nx_lt hq
              have y1 := (hy i hi).2
              have y2 := (hy b (by omega)).2
              show nI (yr i) ≤ nI (yr b) ↔ _
              rw [nI_leI (by omega) (by omega)]
              exact ⟨fun z => ⟨b, rfl, z⟩, fun ⟨b', z1, z2⟩ => by cases z1; exact z2⟩
          by_cases a2 : nI (yr i) ≤ oI ((nx al yr i).map yr)
          · rw [if_pos a2]
            obtain ⟨b, z1, z2⟩ := hle.mp a2
            exact stay (fun q => by have := q.2 b z1; omega)
          · rw [if_neg a2]
            by_cases a3 : nI (cnt (fun q => M 71 0 q == nI i) np) = 0
            · rw [if_pos a3]
              have hcond : al i = true ∧ ∀ b, nx al yr i = some b → yr b < yr i := by
                refine ⟨?_, fun b hb => ?_⟩
                · rw [← hal]
                  have : cnt (fun q => M 71 0 q == nI i) np = 0 := Decidable.byContradiction (fun z => (hfree i).mpr z a3)
                  simp [a1, this]
                · rcases Nat.lt_or_ge (yr b) (yr i) with z | z
                  · exact z
                  · exact absurd (hle.mpr ⟨b, hb, z⟩) a2
              rw [nx_succ, if_pos hcond] at this
              exact this
            · rw [if_neg a3]
              exact stay (fun q => by
                have h9 := q.1
                rw [← hal] at h9
                have h8 := (hfree i).mp a3
                simp [h8] at h9)
  have hm : ∀ (fuel i : Nat), i ≤ nr → nr - i < fuel → fX12_nextOne_4 fuel (oI (nx al yr i)) (nI i) M = some (oI (nx al yr nr)) := by
    intro fuel
    induction fuel with
    | zero => intro i h1 h2; omega
    | succ fuel ih =>
      intro i h1 h2
      rw [fX12_nextOne_4, m3]
      by_cases e : i = nr
      · subst e
        rw [if_pos (nI_le (Nat.le_refl _) (by omega))]
      · have hi : i < nr := by omega
        have := ih (i + 1) (by omega) (by omega)
        rw [if_neg (nI_ge (by omega) (by omega)), m2, lives_eq hRd hnr hi, nI_1]
        show (if fX6_livesOn i (nI d) C = 0 then fX12_nextOne_4 fuel (oI (nx al yr i)) (nI (i + 1)) M else (fX12_leasesOf (nI i) M).bind fun r6 => if r6 = 0 then if oI (nx al yr i) = -1 then fX12_nextOne_4 fuel (nI i) (nI (i + 1)) M else (fX12_yearsOf (nI i) (nI d) M).bind fun r10 => (fX12_yearsOf (oI (nx al yr i)) (nI d) M).bind fun r12 => if r10 ≤ r12 then fX12_nextOne_4 fuel (oI (nx al yr i)) (nI (i + 1)) M else fX12_nextOne_4 fuel (nI i) (nI (i + 1)) M else fX12_nextOne_4 fuel (oI (nx al yr i)) (nI (i + 1)) M) = _
        have stay : (¬ (al i = true ∧ ∀ b, nx al yr i = some b → yr b < yr i)) → fX12_nextOne_4 fuel (oI (nx al yr i)) (nI (i + 1)) M = some (oI (nx al yr nr)) := by
          intro hh
          rw [nx_succ, if_neg hh] at this
          exact this
        have go : (al i = true ∧ ∀ b, nx al yr i = some b → yr b < yr i) → fX12_nextOne_4 fuel (nI i) (nI (i + 1)) M = some (oI (nx al yr nr)) := by
          intro hh
          rw [nx_succ, if_pos hh] at this
          exact this
        by_cases a1 : fX6_livesOn i (nI d) C = 0
        · rw [if_pos a1]
          exact stay (fun q => by have := q.1; rw [← hal] at this; simp [a1] at this)
        · rw [if_neg a1, (leases_eq hP hn c7 m10).2]
          show (if nI (cnt (fun q => M 71 0 q == nI i) np) = 0 then _ else _) = _
          by_cases a3 : nI (cnt (fun q => M 71 0 q == nI i) np) = 0
          · rw [if_pos a3]
            have hai : al i = true := by
              rw [← hal]
              have : cnt (fun q => M 71 0 q == nI i) np = 0 := Decidable.byContradiction (fun z => (hfree i).mpr z a3)
              simp [a1, this]
            cases hq : nx al yr i with
            | none =>
              rw [show oI none = -1 from rfl, if_pos rfl]
              exact go ⟨hai, fun b z => by rw [hq] at z; cases z⟩
            | some b =>
              have hb := nx_lt hq
              have y1 := (hy i hi).2
              have y2 := (hy b (by omega)).2
              rw [show oI (some b) = nI b from rfl, if_neg (nI_ne_m1 (by omega)), (yrs_eq hRd hnr hi hd).1, (yrs_eq hRd hnr (show b < nr by omega) hd).1, (hy i hi).1, (hy b (by omega)).1]
              show (if nI (yr i) ≤ nI (yr b) then fX12_nextOne_4 fuel (nI b) (nI (i + 1)) M else fX12_nextOne_4 fuel (nI i) (nI (i + 1)) M) = _
              rw [ifLe (by omega) (by omega)]
              by_cases a4 : yr i ≤ yr b
              · rw [if_pos a4]
                have := stay (fun q => by have := q.2 b hq; omega)
                rw [hq] at this
                exact this
              · rw [if_neg a4]
                exact go ⟨hai, fun b' z => by rw [hq] at z; cases z; omega⟩
          · rw [if_neg a3]
            exact stay (fun q => by
              have h9 := q.1
              rw [← hal] at h9
              have h8 := (hfree i).mp a3
              simp [h8] at h9)
  exact ⟨nx al yr nr, hc 5000 0 (by omega) (by omega), hm 5000 0 (by omega) (by omega), fun b hb => nx_lt hb⟩
theorem sim_next {C M : Mem} (h : Rel C M) : ∃ r M', fX11_next C = some r ∧ fX12_next M = some (r, M') ∧ Rel C M' := by
  have h0 := h.told
  unfold fX11_next fX12_next
  generalize up M 12 0 0 0 = M0 at h0 ⊢
  have h' := h0
  obtain ⟨nr, np, dy, nl, nc, ⟨hCt, hRd, hPp, hBk, hCm, hLw⟩, hU, hT, hW, hF, hK⟩ := h'
  obtain ⟨⟨c6, m3, hnr⟩, ⟨c7, m10, hnp⟩, ⟨c8, m2, hdy⟩, _⟩ := hCt
  obtain ⟨o, e1, e2, _⟩ := next_eq hRd hnr hPp hnp c6 m3 c7 m10 c8 m2 (by omega)
  rw [e1, e2]
  exact ⟨_, _, rfl, rfl, h0⟩
theorem sim_who {C M : Mem} (h : Rel C M) (p0 p1 : Int32) : ∃ r M', fX11_who p0 p1 C = some r ∧ fX12_who p0 p1 M = some (r, M') ∧ Rel C M' := by
  have h0 := h.told
  unfold fX11_who fX12_who
  generalize up M 12 0 0 0 = M0 at h0 ⊢
  have h' := h0
  obtain ⟨nr, np, dy, nl, nc, ⟨hCt, hRd, hPp, hBk, hCm, hLw⟩, hU, hT, hW, hF, hK⟩ := h'
  obtain ⟨⟨c6, m3, hnr⟩, ⟨c7, m10, hnp⟩, ⟨c8, m2, hdy⟩, _⟩ := hCt
  rcases readerAt_spec (x := p0) c6 hnr with ⟨e, ho⟩ | ⟨j, hj, rfl, e⟩
  · rw [e, isReader_out m3 ho, if_pos rfl]
    exact ⟨_, _, rfl, rfl, h0⟩
  · have hx : ix (nI j) 12 = some j := ix_nI (by omega) (by omega)
    obtain ⟨⟨a1, a2, a3, a4, a5⟩, _⟩ := hRd j hj
    rw [e, isReader_in m3 hnr hj, if_neg (show ¬ (1 : Int32) = 0 by decide), hx, m2, lives_eq hRd hnr hj, (yrs_eq hRd hnr hj (by omega)).1, (leases_eq hPp hnp c7 m10).2, (leases_eq hPp hnp c7 m10).1, c8]
    show ∃ r M', (if p1 = 0 then some (C 6 j 0) else if p1 = 1 then some (C 6 j 1) else if p1 = 2 then some (C 6 j 2) else if p1 = 3 then some (C 6 j 3) else if p1 = 4 then some (C 6 j 4) else if p1 = 5 then (if fX6_livesOn j (nI dy) C = 0 then some (0 : Int32) else some 1) else if p1 = 6 then some (fX6_yearsOn j (nI dy) C) else if p1 = 7 then some (nI (cnt (fun q => M0 71 0 q == nI j) np)) else some (-100000)) = some r ∧ (if p1 = 0 then some (M0 60 0 j, M0) else if p1 = 1 then some (M0 61 0 j, M0) else if p1 = 2 then some (M0 62 0 j, M0) else if p1 = 3 then some (M0 63 0 j, M0) else if p1 = 4 then some (M0 64 0 j, M0) else if p1 = 5 then (if fX6_livesOn j (nI dy) C = 0 then some ((0 : Int32), M0) else some (1, M0)) else if p1 = 6 then some (fX6_yearsOn j (nI dy) C, M0) else if p1 = 7 then some (nI (cnt (fun q => M0 71 0 q == nI j) np), M0) else some (-100000, M0)) = some (r, M') ∧ _
    rw [a1, a2, a3, a4, a5]
    (repeat' split) <;> exact ⟨_, _, rfl, rfl, h0⟩
