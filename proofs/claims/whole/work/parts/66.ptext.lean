/-! ===== PURE: the lines of a law ===== -/
def LnM (M : Mem) (ls : List (Nat × Nat × Nat)) : Prop := ∀ (l : Nat) (q : Nat × Nat × Nat), ls[l]? = some q → M 76 0 (16 + l) = nI q.1 ∧ M 75 0 (16 + l) = nI q.2.1 ∧ M 77 0 (16 + l) = nI q.2.2
def Gd (cd : List (Nat × Int32)) (ls : List (Nat × Nat × Nat)) : Prop := ∀ (l : Nat) (q : Nat × Nat × Nat), ls[l]? = some q → q.1 ≤ q.2.1 ∧ q.2.1 ≤ q.2.2 ∧ q.2.2 ≤ cd.length ∧ wseg cd q.1 q.2.1 ∧ (q.2.1 = q.2.2 ∨ wseg cd q.2.1 q.2.2)
theorem seg_app {cd l : List (Nat × Int32)} {a b : Nat} (h : b ≤ cd.length) : seg (cd ++ l) a b = seg cd a b := by
  unfold seg
  by_cases e : a ≤ b
  · rw [List.drop_append_of_le_length (by omega), List.take_append_of_le_length (by rw [List.length_drop]; omega)]
  · rw [show b - a = 0 by omega, List.take_zero, List.take_zero]
theorem seg_end {cd l : List (Nat × Int32)} : seg (cd ++ l) cd.length (cd ++ l).length = l := by
  unfold seg
  rw [List.drop_left, List.length_append, show cd.length + l.length - cd.length = l.length by omega, List.take_length]
theorem Gd.app {cd l : List (Nat × Int32)} {ls : List (Nat × Nat × Nat)} (h : Gd cd ls) : Gd (cd ++ l) ls := by
  intro i q hq
  obtain ⟨a, b, c, d, e⟩ := h i q hq
  refine ⟨a, b, by rw [List.length_append]; omega, ?_, ?_⟩
  · unfold wseg
    rw [seg_app (by omega)]
    exact d
  · rcases e with e | e
    · exact Or.inl e
    · right
      unfold wseg
      rw [seg_app c]
      exact e
theorem MA.ul {bb : Nat → Nat} {n a k j : Nat} {v : Int32} {M0 M : Mem} {cd : List (Nat × Int32)} (h : MA bb n M0 M a cd) (hk : 75 ≤ k ∧ k ≤ 77) (hj : 16 ≤ j) : MA bb n M0 (up M k 0 j v) a cd := by
  obtain ⟨h1, ⟨h2, h3, h4⟩, h5, h6⟩ := h
  have fk : ∀ k', ¬ (75 ≤ k' ∧ k' ≤ 77) → up M k 0 j v k' 0 = M k' 0 := fun k' q => by rw [upf (by omega)]
  refine ⟨⟨by rw [fk 12 (by omega)]; exact h1.1, fun j hj => by rw [fk 73 (by omega)]; exact h1.2.1 j hj, h1.2.2.cg (fk 74 (by omega))⟩, ⟨by rw [fk 12 (by omega)]; exact h2, by rw [fk 12 (by omega)]; exact h3, by unfold TkM; rw [fk 12 (by omega)]; exact h4⟩, ⟨by rw [fk 12 (by omega)]; exact h5.1, fun k q hk => ?_⟩, fun k' i j' q1 q2 q3 q4 => ?_⟩
  · rw [fk 78 (by omega), fk 79 (by omega)]
    exact h5.2 k q hk
  · simp only [up]
    rw [if_neg (by omega)]
    exact h6 k' i j' q1 q2 q3 q4
theorem LnM.b {M M' : Mem} {ls : List (Nat × Nat × Nat)} (h : LnM M ls) (hb : frB M M') : LnM M' ls := fun l q hq => by
  rw [hb 76 0 _ (by omega) (by omega) (by omega), hb 75 0 _ (by omega) (by omega) (by omega), hb 77 0 _ (by omega) (by omega) (by omega)]
  exact h l q hq
theorem LnM.u {M : Mem} {ls : List (Nat × Nat × Nat)} {k : Nat} {v : Int32} (h : LnM M ls) : LnM (up M k 0 (16 + ls.length) v) ls := fun l q hq => by
  have hlt : l < ls.length := by
    rcases Nat.lt_or_ge l ls.length with z | z
    · exact z
    · rw [List.getElem?_eq_none z] at hq; cases hq
  have f : ∀ k', up M k 0 (16 + ls.length) v k' 0 (16 + l) = M k' 0 (16 + l) := fun k' => by
    simp only [up]
    rw [if_neg (by omega)]
  rw [f, f, f]
  exact h l q hq
theorem LnM.add {M : Mem} {ls : List (Nat × Nat × Nat)} {q : Nat × Nat × Nat} (h : LnM M ls) (h1 : M 76 0 (16 + ls.length) = nI q.1) (h2 : M 75 0 (16 + ls.length) = nI q.2.1) (h3 : M 77 0 (16 + ls.length) = nI q.2.2) : LnM M (ls ++ [q]) := by
  intro l q' hq
  rcases app_get hq with ⟨e1, e2⟩ | ⟨e1, e2⟩
  · rw [e1, e2]; exact ⟨h1, h2, h3⟩
  · exact h l q' e2
theorem Gd.add {cd : List (Nat × Int32)} {ls : List (Nat × Nat × Nat)} {q : Nat × Nat × Nat} (h : Gd cd ls) (h1 : q.1 ≤ q.2.1 ∧ q.2.1 ≤ q.2.2 ∧ q.2.2 ≤ cd.length ∧ wseg cd q.1 q.2.1 ∧ (q.2.1 = q.2.2 ∨ wseg cd q.2.1 q.2.2)) : Gd cd (ls ++ [q]) := by
  intro l q' hq
  rcases app_get hq with ⟨e1, e2⟩ | ⟨e1, e2⟩
  · rw [e2]; exact h1
  · exact h l q' e2
/-- all comes out -/
theorem out_c {bb : Nat → Nat} {n a wt sd : Nat} {C0 C : Mem} {sg : List Nat} {cd cd' : List (Nat × Int32)} {ls : List (Nat × Nat × Nat)} {X Y : Int32} (h : CS bb n C0 C a sg wt sd cd ls X Y) (hv : ∀ s, s ∈ sg → VSg s) (h22 : cntL 22 sg = 0) (hl : cd.length + sg.length ≤ 400) (h40 : sg.length ≤ 40) (hr : rls 0 cd sg = (cd', [])) : ∃ C', fX4_releaseFrom 0 C = some C' ∧ CS bb n C0 C' a [] wt sd cd' ls X Y := by
  have no22 : ∀ s, s ∈ sg → s ≠ 22 := by
    intro s hs
    have : ∀ (t : List Nat), cntL 22 t = 0 → ∀ s, s ∈ t → s ≠ 22 := by
      intro t
      induction t with
      | nil => intro _ s h; cases h
      | cons u t ih =>
        intro h0 s hs
        simp only [cntL] at h0
        rcases List.mem_cons.mp hs with e | e
        · intro z
          rw [← e, if_pos z] at h0
          omega
        · exact ih (by omega) s e
    exact this sg h22 s hs
  obtain ⟨C', r1, r2, r3⟩ := CS.rel (β := 0) (by omega) sg 5000 cd C h hv (fun _ => no22) hl h40 (by omega)
  rw [hr] at r2
  exact ⟨C', r1, r2⟩
theorem rls_nil {β : Nat} : ∀ {cd : List (Nat × Int32)} {sg : List Nat}, 1 ≤ β → (rls β cd sg).2 = [] → cntL 22 sg = 0 := by
  intro cd sg hβ h
  have := cnt_rls hβ (cd := cd) (sg := sg)
  rw [h] at this
  exact this.symm
def Fin (C0 M0 C M : Mem) (cd : List (Nat × Int32)) (ls : List (Nat × Nat × Nat)) : Prop := CdC C cd ∧ LnC C ls ∧ frP C0 C ∧ (C 4 0 7 = 0 ∧ C 4 0 8 = -1) ∧ CdM M cd ∧ LnM M ls ∧ frQ M0 M ∧ Gd cd ls ∧ ls.length ≤ 16 ∧ cd.length ≤ 400
theorem line_eq {bb : Nat → Nat} {n a x sd : Nat} {C0 M0 C M : Mem} {ls : List (Nat × Nat × Nat)} {X Y : Int32} {cd : List (Nat × Int32)} {G : Mem → Option (Int32 × Mem)} (hn : n ≤ 400) (hb : ∀ j, j < n → bb j < 256) (hC : CS bb n C0 C a [] 0 sd cd ls X Y) (hM : MA bb n M0 M a cd) (h34 : M 12 0 34 = 0) (hL : LnM M ls) (hG : Gd cd ls) (hl : cd.length ≤ a) (h16 : ls.length < 16) (hx : x ≤ a) (ha : a ≤ n) (hk : TK bb n a = 3) {R : Option (Int32 × Mem)} (hR : R = (fX12_reads M).bind fun S5 =>
          (ix (16 + nI ls.length) 32).bind fun j6 =>
            bd (fX12_readSum (up S5 76 0 j6 (S5 12 0 33))) fun r10 S9 =>
              if r10 = (-1) then
                some ((-1), S9)
              else
                if (fX12_isWord 1 (up S9 75 0 j6 (S9 12 0 33))) = 0 then
                  if (fX12_isSign 59 (up (up S9 75 0 j6 (S9 12 0 33)) 77 0 j6 ((up S9 75 0 j6 (S9 12 0 33)) 12 0 33))) = 0 then
                    some ((fX12_errs 1 (up (up S9 75 0 j6 (S9 12 0 33)) 77 0 j6 ((up S9 75 0 j6 (S9 12 0 33)) 12 0 33))).1, (fX12_errs 1 (up (up S9 75 0 j6 (S9 12 0 33)) 77 0 j6 ((up S9 75 0 j6 (S9 12 0 33)) 12 0 33))).2)
                  else
                    (fX12_reads (up (up S9 75 0 j6 (S9 12 0 33)) 77 0 j6 ((up S9 75 0 j6 (S9 12 0 33)) 12 0 33))).bind fun S15 =>
                      G S15
                else
                  (fX12_reads (up S9 75 0 j6 (S9 12 0 33))).bind fun S17 =>
                    bd (fX12_readAny S17) fun r20 S19 =>
                      if r20 = (-1) then
                        some ((-1), S19)
                      else
                        if (fX12_isSign 59 (up S19 77 0 j6 (S19 12 0 33))) = 0 then
                          some ((fX12_errs 1 (up S19 77 0 j6 (S19 12 0 33))).1, (fX12_errs 1 (up S19 77 0 j6 (S19 12 0 33))).2)
                        else
                          (fX12_reads (up S19 77 0 j6 (S19 12 0 33))).bind fun S24 =>
                            G S24) :
    (∃ C' M' a' x' cd' ls' X' Y' sd', R = G M' ∧ KR C x = KR C' x' ∧ CS bb n C0 C' a' [] 0 sd' cd' ls' X' Y' ∧ MA bb n M0 M' a' cd' ∧ M' 12 0 34 = 0 ∧ LnM M' ls' ∧ Gd cd' ls' ∧ cd'.length ≤ a' ∧ ls'.length = ls.length + 1 ∧ x' ≤ a' ∧ a' ≤ n ∧ a < a') ∨ Bad C0 M0 (KR C x) R := by
  obtain ⟨f1, f2, f3, f4, f5, f6⟩ := T_fact (n := n) hb ha
  have lt := f2 (by omega)
  obtain ⟨C5, a1, a2, a3⟩ := hC.adv hn hb ha
  obtain ⟨M1, g1, g2, g3⟩ := hM.reads hn hb ha
  obtain ⟨C6, s1, s2⟩ := a2.start h16
  have hd : dsp C5 = some (up (up C6 4 0 5 (nI 0)) 4 0 4 (nI 1)) := by
    rw [dsp_1 a2.2.2.2.1.1 (by omega), if_pos rfl, a3.2.1, hk]
    unfold fX4_takeLine
    rw [if_neg (show ¬ nI 3 = 0 by decide), if_pos (show nI 3 = 3 from rfl), a2.full (by omega), if_pos h16, if_pos rfl, s1, bindS]
    rfl
  have k1 := KR_step (x := x) (by omega) hC.2.2.2.2.1.1 a1 hd
  have c7 := (s2.sd 0).wt 1
  rw [k1]
  rw [g1, bindS, show (16 : Int32) = nI 16 from rfl, nI_add, ix_nI (by omega) (by omega), bindS, g2.2.2.1.1] at hR
  have m2 := g2.ul (k := 76) (j := 16 + ls.length) (v := nI cd.length) (by omega) (by omega)
  have L2 : LnM (up M1 76 0 (16 + ls.length) (nI cd.length)) ls := (hL.b g3.b).u
  have q76 : up M1 76 0 (16 + ls.length) (nI cd.length) 76 0 (16 + ls.length) = nI cd.length := up_at
  have q34 : up M1 76 0 (16 + ls.length) (nI cd.length) 12 0 34 = 0 := by rw [upk (by omega), g3 12 0 34 (by omega) (by omega)]; exact h34
  generalize up M1 76 0 (16 + ls.length) (nI cd.length) = M2 at hR m2 L2 q76 q34
  rcases sum_eq (x := x + 1) (sd' := 0) (sg0 := []) hn hb True.intro (by simp) (fun s hs => by cases hs) c7 m2 (Or.inl ⟨rfl, rfl⟩) f1 (by omega) (by simp; omega) with ⟨C8, M3, b, y, t, u1, u2, u3, u4, u5, u6⟩ | ⟨why, pl, C', M', b1, b2, b3⟩
  · rw [u1, bdS, if_neg (by decide)] at hR
    rw [u2]
    obtain ⟨sgC, cdC, cdR, l, kC, kM, kr, kl, kx, ka, kv, k40, kcd, kty⟩ := u3
    have hlenD := rls_len (β := 5) (cd := cdC) (sg := sgC)
    rw [kr] at hlenD
    simp only [List.length_nil] at hlenD
    have kr0 : rls 0 cdC sgC = (cdR, []) := by
      have := rls_rls (β := 0) (γ := 5) (cd := cdC) (sg := sgC) (by omega)
      rw [kr] at this
      rw [← this]
      rfl
    have k22 : cntL 22 sgC = 0 := rls_nil (β := 5) (cd := cdC) (by omega) (by rw [kr])
    have kwf : wf [] l = some [t] := kty [] (by simp)
    have hle : cd.length ≤ cdR.length := by rw [kcd, List.length_append]; omega
    have hGd : Gd cdR ls := by rw [kcd]; exact hG.app
    have hsg : wseg cdR cd.length cdR.length := by
      rw [kcd]
      exact ⟨t, by rw [seg_end]; exact kwf⟩
    obtain ⟨e1, e2, e3, e4, e5, e6⟩ := T_fact (n := n) hb ka
    rw [kM.2.2.1.1] at hR
    have m4 := kM.ul (k := 75) (j := 16 + ls.length) (v := nI cdR.length) (by omega) (by omega)
    have L4 : LnM (up M3 75 0 (16 + ls.length) (nI cdR.length)) ls := (L2.b u4.b).u
    have w76 : up M3 75 0 (16 + ls.length) (nI cdR.length) 76 0 (16 + ls.length) = nI cd.length := by rw [upk (by omega), u4 76 0 _ (by omega) (by omega)]; exact q76
    have w75 : up M3 75 0 (16 + ls.length) (nI cdR.length) 75 0 (16 + ls.length) = nI cdR.length := up_at
    have w34 : up M3 75 0 (16 + ls.length) (nI cdR.length) 12 0 34 = 0 := by rw [upk (by omega), u4 12 0 34 (by omega) (by omega)]; exact q34
    generalize up M3 75 0 (16 + ls.length) (nI cdR.length) = M4 at hR m4 L4 w76 w75 w34
    rw [show fX12_isWord 1 M4 = _ from isWord_eq (w := 1) m4.2.1.2.2 e3 (by omega)] at hR
    obtain ⟨D5, d1, d2, d3⟩ := kC.adv hn hb ka
    have ne : ∀ m, m < 100 → TK bb n b ≠ m → ¬ nI (TK bb n b) = nI m := fun m hm e q => e ((nI_eq (by omega) (by omega)).mp q)
    have hdp4 : dsp D5 = fX4_takeOperator_63 (nI (TK bb n b)) D5 := by
      rw [dsp_1 d2.2.2.2.1.1 (by omega), if_neg (by decide), if_neg (by decide), if_neg (by decide), if_neg (by decide), if_pos rfl, d3.2.1]
      unfold fX4_takeOperator
      rw [(fact_all _ (by omega)).2.1, if_neg u6, if_pos (show (0 : Int32) = 0 from rfl), d2.2.2.2.1.2, if_neg (show ¬ nI 0 = 1 by decide)]
    by_cases e4' : TK bb n b = 4
    · have lt2 := e2 (by omega)
      rw [if_pos e4', if_neg (show ¬ (1 : Int32) = 0 by decide)] at hR
      obtain ⟨M5, h1, h2, h3⟩ := m4.reads hn hb ka
      rw [h1, bindS] at hR
      obtain ⟨D6, o1, o2⟩ := out_c d2 kv k22 (by omega) k40 kr0
      obtain ⟨D7, o3, o4⟩ := o2.endAge h16
      have hd2 : dsp D5 = some (up D7 4 0 4 (nI 3)) := by
        rw [hdp4, e4']
        unfold fX4_takeOperator_63 fX4_takeEndOfAge
        rw [d2.2.2.2.1.2, if_pos (show nI 0 = 0 from rfl), if_pos (show nI 4 = 4 from rfl), o1, bindS, o3, bindS, bindS]
        rfl
      rw [KR_step (x := y) (by omega) kC.2.2.2.2.1.1 d1 hd2]
      have L5 := L4.b h3.b
      have z76 : M5 76 0 (16 + ls.length) = nI cd.length := by rw [h3 76 0 _ (by omega) (by omega)]; exact w76
      have z75 : M5 75 0 (16 + ls.length) = nI cdR.length := by rw [h3 75 0 _ (by omega) (by omega)]; exact w75
      have z34 : M5 12 0 34 = 0 := by rw [h3 12 0 34 (by omega) (by omega)]; exact w34
      rcases any_eq (x := y + 1) hn hb (o4.wt 3) h2 z34 e1 (by omega) (by omega) with ⟨C9, M6, b2, y2, i1, i2, i3, i4, i5⟩ | ⟨why, pl, C', M', b1, b2, b3⟩
      · rw [i1, bdS, if_neg (by decide)] at hR
        rw [i2]
        obtain ⟨sgE, cdE, cdS, l2, wt, jC, jw, jM, j34, jr, j22, j5, j6, jl, jx, ja, jv, j40, jcd, jwf⟩ := i3
        have hlenE := rls_len (β := 1) (cd := cdE) (sg := sgE)
        rw [jr] at hlenE
        simp only [List.length_nil] at hlenE
        have jr0 : rls 0 cdE sgE = (cdS, []) := by
          have := rls_rls (β := 0) (γ := 1) (cd := cdE) (sg := sgE) (by omega)
          rw [jr] at this
          rw [← this]
          rfl
        obtain ⟨v1, v2, v3, v4, v5, v6⟩ := T_fact (n := n) hb ja
        rw [jM.2.2.1.1] at hR
        have m7 := jM.ul (k := 77) (j := 16 + ls.length) (v := nI cdS.length) (by omega) (by omega)
        have L7 : LnM (up M6 77 0 (16 + ls.length) (nI cdS.length)) ls := (L5.b i4).u
        have r76 : up M6 77 0 (16 + ls.length) (nI cdS.length) 76 0 (16 + ls.length) = nI cd.length := by rw [upk (by omega), i4 76 0 _ (by omega) (by omega) (by omega)]; exact z76
        have r75 : up M6 77 0 (16 + ls.length) (nI cdS.length) 75 0 (16 + ls.length) = nI cdR.length := by rw [upk (by omega), i4 75 0 _ (by omega) (by omega) (by omega)]; exact z75
        have r77 : up M6 77 0 (16 + ls.length) (nI cdS.length) 77 0 (16 + ls.length) = nI cdS.length := up_at
        have r34 : up M6 77 0 (16 + ls.length) (nI cdS.length) 12 0 34 = 0 := by rw [upk (by omega)]; exact j34
        generalize up M6 77 0 (16 + ls.length) (nI cdS.length) = M7 at hR m7 L7 r76 r75 r77 r34
        rw [show fX12_isSign 59 M7 = _ from isSign_eq (s := 17) m7.2.1.2.2 v3 (by omega)] at hR
        obtain ⟨E5, n1, n2, n3⟩ := jC.adv hn hb ja
        by_cases e17 : TK bb n b2 = 17
        · have lt3 := v2 (by omega)
          rw [if_pos e17, if_neg (show ¬ (1 : Int32) = 0 by decide)] at hR
          obtain ⟨M8, p1, p2, p3⟩ := m7.reads hn hb ja
          rw [p1, bindS] at hR
          obtain ⟨E6, o5, o6⟩ := out_c n2 jv j22 (by omega) j40 jr0
          obtain ⟨E7, X', Y', o7, o8⟩ := o6.endLine h16
          have hd3 : dsp E5 = some (up E7 4 0 4 (nI 0)) := by
            rw [joint_d n2 n3.2.1 v3 jw jv j40, if_pos j22, e17]
            unfold fX4_takeJoint_14 fX4_takeJoint_72 fX4_takeEndOfLine
            rw [if_neg (show ¬ nI 17 = 6 by decide), if_neg (show ¬ nI 17 = 5 by decide), if_neg (show ¬ nI 17 = 23 by decide), if_pos (show nI 17 = 17 from rfl), if_pos (show (0 : Int32) = 0 from rfl), o5, bindS, o7, bindS, bindS]
            rfl
          rw [KR_step (x := y2) (by omega) jC.2.2.2.2.1.1 n1 hd3]
          left
          have hle2 : cdR.length ≤ cdS.length := by rw [jcd, List.length_append]; omega
          refine ⟨_, M8, TE bb n b2, y2 + 1, cdS, _, X', Y', 2, hR, rfl, o8.wt 0, p2, by rw [p3 12 0 34 (by omega) (by omega)]; exact r34, (L7.b p3.b).add (by rw [p3 76 0 _ (by omega) (by omega)]; exact r76) (by rw [p3 75 0 _ (by omega) (by omega)]; exact r75) (by rw [p3 77 0 _ (by omega) (by omega)]; exact r77), ?_, by omega, by simp, by omega, v1, by omega⟩
          refine Gd.add ?_ ⟨hle, hle2, Nat.le_refl _, ?_, Or.inr ?_⟩
          · rw [jcd]; exact hGd.app
          · show wseg cdS cd.length cdR.length
            rw [jcd]
            unfold wseg
            rw [seg_app (Nat.le_refl _)]
            exact hsg
          · show wseg cdS cdR.length cdS.length
            rw [jcd]
            exact ⟨2, by rw [seg_end]; exact jwf⟩
        · rw [if_neg e17, if_pos (show (0 : Int32) = 0 from rfl)] at hR
          right
          obtain ⟨z1, z2⟩ := m7.errs (why := 1)
          have hd3 := bad_c n2 n3.2.1 v3 jw jv j40 j5 j6 (Or.inr ⟨j22, e17⟩)
          obtain ⟨C', t1, t2⟩ := KR_bad (bb := bb) (n := n) (a := b2) (C0 := C0) (why := 1) (x := y2) (by omega) jC.2.2.2.2.1.1 n1 hd3 n3.1 n2.2.2.2.2.2.2.2.2 (by decide) (by decide)
          exact ⟨1, TP bb n b2, C', (fX12_errs 1 M7).2, hR, t1, ⟨by decide, by decide⟩, t2, z2⟩
      · right
        rw [b1, bdS, if_pos rfl] at hR
        rw [b2, hR]
        exact ⟨why, pl, C', M', rfl, rfl, b3⟩
    · rw [if_neg e4', if_pos (show (0 : Int32) = 0 from rfl), m4.2.2.1.1] at hR
      have m7 := m4.ul (k := 77) (j := 16 + ls.length) (v := nI cdR.length) (by omega) (by omega)
      have L7 : LnM (up M4 77 0 (16 + ls.length) (nI cdR.length)) ls := L4.u
      have r76 : up M4 77 0 (16 + ls.length) (nI cdR.length) 76 0 (16 + ls.length) = nI cd.length := by rw [upk (by omega)]; exact w76
      have r75 : up M4 77 0 (16 + ls.length) (nI cdR.length) 75 0 (16 + ls.length) = nI cdR.length := by rw [upk (by omega)]; exact w75
      have r77 : up M4 77 0 (16 + ls.length) (nI cdR.length) 77 0 (16 + ls.length) = nI cdR.length := up_at
      have r34 : up M4 77 0 (16 + ls.length) (nI cdR.length) 12 0 34 = 0 := by rw [upk (by omega)]; exact w34
      generalize up M4 77 0 (16 + ls.length) (nI cdR.length) = M7 at hR m7 L7 r76 r75 r77 r34
      rw [show fX12_isSign 59 M7 = _ from isSign_eq (s := 17) m7.2.1.2.2 e3 (by omega)] at hR
      by_cases e17 : TK bb n b = 17
      · have lt3 := e2 (by omega)
        rw [if_pos e17, if_neg (show ¬ (1 : Int32) = 0 by decide)] at hR
        obtain ⟨M8, p1, p2, p3⟩ := m7.reads hn hb ka
        rw [p1, bindS] at hR
        obtain ⟨D6, o1, o2⟩ := out_c d2 kv k22 (by omega) k40 kr0
        obtain ⟨D7, o3, o4⟩ := o2.endAge h16
        obtain ⟨E6, o5, o6⟩ := out_c o4 (fun s hs => by cases hs) rfl (by simp; omega) (by simp) rfl
        obtain ⟨E7, X', Y', o7, o8⟩ := o6.endLine h16
        have hd3 : dsp D5 = some (up E7 4 0 4 (nI 0)) := by
          rw [hdp4, e17]
          unfold fX4_takeOperator_63 fX4_takeOperator_87 fX4_takeEndOfAge fX4_takeEndOfLine
          rw [d2.2.2.2.1.2, if_pos (show nI 0 = 0 from rfl), if_neg (show ¬ nI 17 = 4 by decide), if_pos (show nI 0 = 0 from rfl), if_pos (show nI 17 = 17 from rfl), o1, bindS, o3, bindS, bindS, o5, bindS, o7, bindS, bindS]
          rfl
        rw [KR_step (x := y) (by omega) kC.2.2.2.2.1.1 d1 hd3]
        left
        refine ⟨_, M8, TE bb n b, y + 1, cdR, _, X', Y', 0, hR, rfl, o8.wt 0, p2, by rw [p3 12 0 34 (by omega) (by omega)]; exact r34, (L7.b p3.b).add (by rw [p3 76 0 _ (by omega) (by omega)]; exact r76) (by rw [p3 75 0 _ (by omega) (by omega)]; exact r75) (by rw [p3 77 0 _ (by omega) (by omega)]; exact r77), hGd.add ⟨hle, Nat.le_refl _, Nat.le_refl _, hsg, Or.inl rfl⟩, by omega, by simp, by omega, e1, by omega⟩
      · rw [if_neg e17, if_pos (show (0 : Int32) = 0 from rfl)] at hR
        right
        obtain ⟨z1, z2⟩ := m7.errs (why := 1)
        have hd3 : dsp D5 = some (fX4_refuse (nI 1) D5) := by
          rw [hdp4]
          unfold fX4_takeOperator_63 fX4_takeOperator_87 fX4_takeOperator_111
          rw [d2.2.2.2.1.2, if_pos (show nI 0 = 0 from rfl), if_neg (show ¬ nI (TK bb n b) = 4 from ne 4 (by omega) e4'), if_pos (show nI 0 = 0 from rfl), if_neg (show ¬ nI (TK bb n b) = 17 from ne 17 (by omega) e17), if_neg (show ¬ nI 0 = 2 by decide)]
          rfl
        obtain ⟨C', t1, t2⟩ := KR_bad (bb := bb) (n := n) (a := b) (C0 := C0) (why := 1) (x := y) (by omega) kC.2.2.2.2.1.1 d1 hd3 d3.1 d2.2.2.2.2.2.2.2.2 (by decide) (by decide)
        exact ⟨1, TP bb n b, C', (fX12_errs 1 M7).2, hR, t1, ⟨by decide, by decide⟩, t2, z2⟩
  · right
    rw [b1, bdS, if_pos rfl] at hR
    rw [b2, hR]
    exact ⟨why, pl, C', M', rfl, rfl, b3⟩
theorem text_loop {bb : Nat → Nat} {n : Nat} {C0 M0 : Mem} (hn : n ≤ 400) (hb : ∀ j, j < n → bb j < 256) : ∀ (fuel : Nat) (C M : Mem) (a x sd : Nat) (cd : List (Nat × Int32)) (ls : List (Nat × Nat × Nat)) (X Y x1 : Int32), x1 = nI ls.length → CS bb n C0 C a [] 0 sd cd ls X Y → MA bb n M0 M a cd → M 12 0 34 = 0 → LnM M ls → Gd cd ls → cd.length ≤ a → ls.length ≤ 16 → x ≤ a → a ≤ n → n - a < fuel → (∃ C' M' cd' ls', fX12_readText_2 fuel x1 M = some (nI ls'.length, M') ∧ KR C x = some (1, C') ∧ Fin C0 M0 C' M' cd' ls') ∨ Bad C0 M0 (KR C x) (fX12_readText_2 fuel x1 M) := by
  intro fuel
  induction fuel with
  | zero => intro C M a x sd cd ls X Y x1 _ _ _ _ _ _ _ _ _ _ h; omega
  | succ fuel ih =>
    intro C M a x sd cd ls X Y x1 hx1 hC hM h34 hL hG hl h16 hx ha hf
    obtain ⟨f1, f2, f3, f4, f5, f6⟩ := T_fact (n := n) hb ha
    have k0 := (tok24 hM.2.1.2.2 f3).2.2
    rw [fX12_readText_2, show fX12_isWord 0 M = _ from isWord_eq (w := 0) hM.2.1.2.2 f3 (by omega)]
    obtain ⟨C5, a1, a2, a3⟩ := hC.adv hn hb ha
    have ne : ∀ m, m < 100 → TK bb n a ≠ m → ¬ nI (TK bb n a) = nI m := fun m hm e q => e ((nI_eq (by omega) (by omega)).mp q)
    have hd : dsp C5 = fX4_takeLine (nI (TK bb n a)) C5 := by rw [dsp_1 a2.2.2.2.1.1 (by omega), if_pos rfl, a3.2.1]
    unfold fX4_takeLine at hd
    have bad : ∀ why, why ≠ 0 → why < 10 → dsp C5 = some (fX4_refuse (nI why) C5) → Bad C0 M0 (KR C x) (some ((fX12_errs (nI why) M).1, (fX12_errs (nI why) M).2)) := by
      intro why w0 w10 e1
      obtain ⟨b1, b2⟩ := hM.errs (why := why)
      obtain ⟨C', g1, g2⟩ := KR_bad (bb := bb) (n := n) (a := a) (C0 := C0) (why := why) (x := x) (by omega) hC.2.2.2.2.1.1 a1 e1 a3.1 a2.2.2.2.2.2.2.2.2 w0 w10
      exact ⟨why, TP bb n a, C', _, by rw [b1], g1, ⟨w0, w10⟩, g2, b2⟩
    by_cases e3 : TK bb n a = 3
    · rw [if_pos e3, if_neg (show ¬ (1 : Int32) = 0 by decide), hx1]
      rw [e3, if_neg (show ¬ nI 3 = 0 by decide), if_pos (show nI 3 = 3 from rfl), a2.full h16] at hd
      by_cases e16 : ls.length = 16
      · rw [if_pos (show nI ls.length = 16 by rw [e16]; rfl)]
        rw [if_neg (show ¬ ls.length < 16 by omega), if_neg (show ¬ (1 : Int32) = 0 by decide)] at hd
        exact Or.inr (bad 3 (by decide) (by decide) hd)
      · rw [if_neg (show ¬ nI ls.length = 16 from fun q => e16 ((nI_eq (by omega) (by omega)).mp (show nI ls.length = nI 16 from q)))]
        rcases line_eq (G := fun S => fX12_readText_2 fuel (nI ls.length + 1) S) hn hb hC hM h34 hL hG hl (by omega) hx ha e3 rfl with ⟨C', M', a', x', cd', ls', X', Y', sd', r1, r2, r3, r4, r5, r6, r7, r8, r9, r10, r11, r12⟩ | hbad
        · rw [r1, r2]
          exact ih C' M' a' x' sd' cd' ls' X' Y' _ (by rw [nI_1, r9]) r3 r4 r5 r6 r7 r8 (by omega) r10 r11 (by omega)
        · exact Or.inr hbad
    · rw [if_neg e3, if_pos (show (0 : Int32) = 0 from rfl)]
      by_cases e0 : TK bb n a = 0
      · rw [if_pos (k0.mpr e0)]
        rw [e0, if_pos (show nI 0 = 0 from rfl)] at hd
        left
        rw [KR_step (x := x) (by omega) hC.2.2.2.2.1.1 a1 hd, KR_over (by omega) up_at, upj (by omega), a2.2.2.2.2.1.2.1, if_pos rfl]
        refine ⟨_, M, cd, ls, by rw [hx1], rfl, ?_, ?_, a2.2.2.2.2.2.2.2.2.u (by omega), ⟨?_, ?_⟩, hM.2.2.1, hL, hM.2.2.2, hG, h16, by omega⟩
        · unfold CdC
          rw [upk (by omega), upk (by omega)]; exact a2.2.2.2.2.2.1
        · unfold LnC
          rw [upk (by omega), upk (by omega), upk (by omega), upk (by omega)]; exact a2.2.2.2.2.2.2.1
        · rw [upj (by omega)]; exact a2.2.2.2.2.1.2.1
        · rw [upj (by omega)]; exact a2.2.2.2.2.1.2.2
      · rw [if_neg (fun q => e0 (k0.mp q))]
        rw [if_neg (show ¬ nI (TK bb n a) = 0 from ne 0 (by omega) e0), if_neg (show ¬ nI (TK bb n a) = 3 from ne 3 (by omega) e3)] at hd
        exact Or.inr (bad 1 (by decide) (by decide) hd)
