/-! ===== PURE: what stands behind when ===== -/
def D1 (bb : Nat → Nat) (n : Nat) (C0 M0 : Mem) (ls : List (Nat × Nat × Nat)) (X Y : Int32) (cd0 : List (Nat × Int32)) (pd : List Nat) (C M : Mem) (a x : Nat) : Prop := ∃ cd l sd, CS bb n C0 C a (pd.map sgp) 3 sd cd ls X Y ∧ MA bb n M0 M a cd ∧ PdM M pd ∧ cd.length + pd.length ≤ a ∧ x ≤ a ∧ a ≤ n ∧ cd = cd0 ++ l ∧ wf [] l = some (List.replicate (jn pd) 2) ∧ Pok pd ∧ opq pd ≤ 8
def D0 (bb : Nat → Nat) (n : Nat) (C0 M0 : Mem) (ls : List (Nat × Nat × Nat)) (X Y : Int32) (cd0 : List (Nat × Int32)) (pd : List Nat) (C M : Mem) (a x : Nat) : Prop := ∃ sgC cdC cdR l wt, CS bb n C0 C a sgC wt 2 cdC ls X Y ∧ ((wt = 4 ∧ ¬ (18 ≤ TK bb n a ∧ TK bb n a ≤ 21)) ∨ wt = 5) ∧ MA bb n M0 M a cdR ∧ PdM M pd ∧ rls 3 cdC sgC = (cdR, pd.map sgp) ∧ cdC.length + sgC.length ≤ a ∧ x ≤ a ∧ a ≤ n ∧ (∀ s, s ∈ sgC → VSg s) ∧ sgC.length ≤ 40 ∧ cdR = cd0 ++ l ∧ wf [] l = some (List.replicate (jn pd + 1) 2) ∧ Pok pd ∧ hdp pd ≠ 9 ∧ opq pd ≤ 8
def EX (bb : Nat → Nat) (n : Nat) (C0 M0 : Mem) (ls : List (Nat × Nat × Nat)) (X Y : Int32) (cd0 : List (Nat × Int32)) (C M : Mem) (a x : Nat) : Prop := ∃ sgC cdC cdR l wt, CS bb n C0 C a sgC wt 2 cdC ls X Y ∧ ((wt = 4 ∧ ¬ (18 ≤ TK bb n a ∧ TK bb n a ≤ 21)) ∨ wt = 5) ∧ MA bb n M0 M a cdR ∧ M 12 0 34 = 0 ∧ rls 1 cdC sgC = (cdR, []) ∧ cntL 22 sgC = 0 ∧ TK bb n a ≠ 5 ∧ TK bb n a ≠ 6 ∧ cdC.length + sgC.length ≤ a ∧ x ≤ a ∧ a ≤ n ∧ (∀ s, s ∈ sgC → VSg s) ∧ sgC.length ≤ 40 ∧ cdR = cd0 ++ l ∧ wf [] l = some [2]
theorem any_loop {bb : Nat → Nat} {n : Nat} {C0 M0 : Mem} {ls : List (Nat × Nat × Nat)} {X Y : Int32} {cd0 : List (Nat × Int32)} (hn : n ≤ 400) (hb : ∀ j, j < n → bb j < 256) : ∀ (fuel : Nat) (C M : Mem) (a x : Nat) (pd : List Nat) (x1 y : Int32), x1 = nI (cntL 12 pd) → (y = 1 ∧ D1 bb n C0 M0 ls X Y cd0 pd C M a x) ∨ (y = 0 ∧ D0 bb n C0 M0 ls X Y cd0 pd C M a x) → n - a < fuel → (∃ C' M' a' x', fX12_readAny_9 fuel x1 y M = some (0, M') ∧ KR C x = KR C' x' ∧ EX bb n C0 M0 ls X Y cd0 C' M' a' x' ∧ frB M M' ∧ a ≤ a') ∨ Bad C0 M0 (KR C x) (fX12_readAny_9 fuel x1 y M) := by
  intro fuel
  induction fuel with
  | zero => intro C M a x pd x1 y _ _ h; omega
  | succ fuel ih =>
    intro C M a x pd x1 y hx1 hD hf
    rw [fX12_readAny_9]
    rcases hD with ⟨rfl, cd, l, sd, hC, hM, hP, hl, hx, ha, hcd, hty, hok, ho8⟩ | ⟨rfl, sgC, cdC, cdR, l, wt, hC, hw, hM, hP, hr, hl, hx, ha, hv, h40, hcd, hty, hok, h9, ho8⟩
    · obtain ⟨f1, f2, f3, f4, f5, f6⟩ := T_fact (n := n) hb ha
      have hlen := hok.len.1
      have hc := cnt_map hok
      rw [if_neg (show ¬ (1 : Int32) = 0 by decide), show fX12_isWord 4 M = _ from isWord_eq (w := 4) hM.2.1.2.2 f3 (by omega), show fX12_isSign 40 M = _ from isSign_eq (s := 22) hM.2.1.2.2 f3 (by omega), hP.2.2, show (8 : Int32) = nI 8 from rfl, ifEq (by omega) (by omega), ifEq (by omega) (by omega)]
      have bad : TK bb n a = 7 ∨ TK bb n a = 22 → opq pd = 8 → Bad C0 M0 (KR C x) (some ((fX12_errs 3 M).1, (fX12_errs 3 M).2)) := by
        intro hk e8
        obtain ⟨C5, a1, a2, a3⟩ := hC.adv hn hb ha
        obtain ⟨b1, b2⟩ := hM.errs (why := 3)
        have := (test_c a2 a3.2.1 hk hok.v (by simp; omega)).2 (by rw [hc.1, hc.2]; unfold opq at e8; omega)
        obtain ⟨C', k1, k2⟩ := KR_bad (bb := bb) (n := n) (a := a) (C0 := C0) (why := 3) (x := x) (by omega) hC.2.2.2.2.1.1 a1 this a3.1 a2.2.2.2.2.2.2.2.2 (by decide) (by decide)
        exact ⟨3, TP bb n a, C', (fX12_errs 3 M).2, rfl, k1, ⟨by decide, by decide⟩, k2, b2⟩
      have go : ∀ p, (p = 9 ∧ TK bb n a = 7) ∨ (p = 12 ∧ TK bb n a = 22) → opq pd ≠ 8 → ∃ C' M', ((fX12_waits (nI p) (up M 12 0 34 (M 12 0 34 + 1))).bind fun S43 => (fX12_reads S43).bind fun S45 => fX12_readAny_9 fuel (nI (cntL 12 (p :: pd))) 1 S45) = fX12_readAny_9 fuel (nI (cntL 12 (p :: pd))) 1 M' ∧ KR C x = KR C' (x + 1) ∧ D1 bb n C0 M0 ls X Y cd0 (p :: pd) C' M' (TE bb n a) (x + 1) ∧ frB M M' ∧ a < TE bb n a := by
        intro p hp e8
        have lt := f2 (by omega)
        obtain ⟨C5, a1, a2, a3⟩ := hC.adv hn hb ha
        obtain ⟨C6, t1, t2⟩ := (test_c a2 a3.2.1 (by omega) hok.v (by simp; omega)).1 (by rw [hc.1, hc.2]; unfold opq at e8 ho8; omega)
        have hop : opq (p :: pd) = opq pd + 1 := by
          rw [opq_c]
          rcases hp with ⟨rfl, _⟩ | ⟨rfl, _⟩ <;> simp <;> omega
        have hjn : jn (p :: pd) = jn pd := by
          rcases hp with ⟨rfl, _⟩ | ⟨rfl, _⟩ <;> simp [jn]
        rw [hP.2.2, nI_1]
        obtain ⟨M1, w1, w2, w3, w4⟩ := waits_m (p := p) (pd := pd) (hM.u (k := 12) (j := 34) (v := nI (opq pd + 1)) (by omega)) (by rw [upj (by omega)]; exact hP.1) (by rw [upk (by omega)]; exact hP.2.1) (by rw [up_at, hop]) (by omega)
        obtain ⟨M2, g5, g6, g7⟩ := w2.reads hn hb ha
        rw [w1, bindS, g5, bindS]
        refine ⟨C6, M2, rfl, KR_step (by omega) hC.2.2.2.2.1.1 a1 t1, ⟨cd, l, sd, ?_, g6, w3.a g7, by simp; omega, by omega, f1, hcd, by rw [hjn]; exact hty, ⟨by omega, hok⟩, by omega⟩, ((frB.u (by omega)).tr w4).tr g7.b, lt⟩
        rw [List.map_cons, show sgp p = TK bb n a by rcases hp with ⟨rfl, e⟩ | ⟨rfl, e⟩ <;> rw [e] <;> rfl]
        exact t2
      by_cases e7 : TK bb n a = 7
      · rw [if_pos e7, if_neg (show ¬ (1 : Int32) = 0 by decide)]
        by_cases e8 : opq pd = 8
        · rw [if_pos e8]
          exact Or.inr (bad (Or.inl e7) e8)
        · rw [if_neg e8]
          obtain ⟨C', M', g1, g2, g3, g4, g5⟩ := go 9 (Or.inl ⟨rfl, e7⟩) e8
          have hx2 : cntL 12 (9 :: pd) = cntL 12 pd := by simp [cntL]
          rw [hx2, hP.2.2] at g1
          rw [hx1, show fX12_waits 9 (up M 12 0 34 (nI (opq pd) + 1)) = fX12_waits (nI 9) (up M 12 0 34 (nI (opq pd) + 1)) from rfl, g1, g2]
          rcases ih C' M' (TE bb n a) (x + 1) (9 :: pd) (nI (cntL 12 pd)) 1 (by rw [hx2]) (Or.inl ⟨rfl, g3⟩) (by omega) with ⟨C2, M2, a2, x2, i1, i2, i3, i4, i5⟩ | hbad
          · exact Or.inl ⟨C2, M2, a2, x2, i1, i2, i3, g4.tr i4, by omega⟩
          · exact Or.inr hbad
      · rw [if_neg e7, if_pos (show (0 : Int32) = 0 from rfl)]
        by_cases e22 : TK bb n a = 22
        · rw [if_pos e22, if_neg (show ¬ (1 : Int32) = 0 by decide)]
          by_cases e8 : opq pd = 8
          · rw [if_pos e8]
            exact Or.inr (bad (Or.inr e22) e8)
          · rw [if_neg e8]
            obtain ⟨C', M', g1, g2, g3, g4, g5⟩ := go 12 (Or.inr ⟨rfl, e22⟩) e8
            have hx2 : cntL 12 (12 :: pd) = cntL 12 pd + 1 := by simp [cntL]; omega
            rw [hx2, hP.2.2] at g1
            rw [hx1, @nI_1 (cntL 12 pd), show fX12_waits 12 (up M 12 0 34 (nI (opq pd) + 1)) = fX12_waits (nI 12) (up M 12 0 34 (nI (opq pd) + 1)) from rfl, g1, g2]
            rcases ih C' M' (TE bb n a) (x + 1) (12 :: pd) (nI (cntL 12 pd + 1)) 1 (by rw [hx2]) (Or.inl ⟨rfl, g3⟩) (by omega) with ⟨C2, M2, a2, x2, i1, i2, i3, i4, i5⟩ | hbad
            · exact Or.inl ⟨C2, M2, a2, x2, i1, i2, i3, g4.tr i4, by omega⟩
            · exact Or.inr hbad
        · rw [if_neg e22, if_pos (show (0 : Int32) = 0 from rfl)]
          have hb4 : bnd (sgp (hdp pd)) < 4 := by
            cases pd with
            | nil => decide
            | cons p t =>
              rw [show hdp (p :: t) = p from rfl]
              rcases hok.mem p (List.mem_cons_self ..) with rfl | rfl | rfl | rfl <;> decide
          rcases cmp_eq (x := x) hn hb (Hd.map hb4) (by simp; omega) hok.v hC hM e7 e22 ha hx (by simp; omega) with ⟨C2, M2, a2, x2, u1, u2, u3, u4, u5, u6⟩ | ⟨why, pl, C', M', b1, b2, b3⟩
          · rw [u1, bdS, if_neg (by decide), u2]
            obtain ⟨sgC, cdC, cdR, l2, kC, kM, kr, kl, kx, ka, kv, k40, kcd, kty⟩ := u3
            have hlenD := rls_len (β := 4) (cd := cdC) (sg := sgC)
            rw [kr] at hlenD
            simp only [List.length_map] at hlenD
            have hP2 := hP.a u4
            obtain ⟨M3, s1, s2, s3, s4⟩ := settles_m (k := 9) (by omega) pd 5000 cdR M2 kM hP2 hok (by omega) (by omega) (by omega)
            unfold fX12_settles
            rw [show fX12_settles_0 5000 9 M2 = _ from s1, bindS]
            obtain ⟨q1, q2, q3, q4, q5, q6⟩ := set9 (cd := cdR) hok
            have hjl := jn_le pd
            have kty2 : wf [] (l ++ l2) = some (List.replicate (jn pd + 1) 2) := by
              rw [wf_app, hty, bindS, kty _ (by rw [List.length_replicate]; omega), List.replicate_succ]
            obtain ⟨l', r1, r2⟩ := q6 cd0 (l ++ l2) (by rw [kcd, hcd]; simp) kty2
            have hD0 : D0 bb n C0 M0 ls X Y cd0 (stl 9 cdR pd).2 C2 M3 a2 x2 := by
              refine ⟨sgC, cdC, (stl 9 cdR pd).1, l', 4, kC, Or.inl ⟨rfl, u6⟩, s2, s3, ?_, kl, kx, ka, kv, k40, r1, r2, q3, q2, by omega⟩
              have := rls_rls (β := 3) (γ := 4) (cd := cdC) (sg := sgC) (by omega)
              rw [kr] at this
              rw [← this, q1]
            rcases ih C2 M3 a2 x2 _ x1 0 (by rw [q5]; exact hx1) (Or.inr ⟨rfl, hD0⟩) (by omega) with ⟨C2, M2, a2, x2, i1, i2, i3, i4, i5⟩ | hbad
            · exact Or.inl ⟨C2, M2, a2, x2, i1, i2, i3, (u4.b.tr s4).tr i4, by omega⟩
            · exact Or.inr hbad
          · right
            rw [b1, bdS, if_pos rfl, b2]
            exact ⟨why, pl, C', M', rfl, rfl, b3⟩
    · obtain ⟨f1, f2, f3, f4, f5, f6⟩ := T_fact (n := n) hb ha
      have hlen := hok.len.1
      have hlenD := rls_len (β := 3) (cd := cdC) (sg := sgC)
      rw [hr] at hlenD
      simp only [List.length_map] at hlenD
      have hc22 : cntL 22 sgC = cntL 12 pd := by
        have := cnt_rls (β := 3) (by omega) (cd := cdC) (sg := sgC)
        rw [hr] at this
        rw [← this]
        exact (cnt_map hok).1
      rw [if_pos (show (0 : Int32) = 0 from rfl), show fX12_isWord 3 M = _ from isWord_eq (w := 3) hM.2.1.2.2 f3 (by omega), show fX12_isWord 2 M = _ from isWord_eq (w := 2) hM.2.1.2.2 f3 (by omega)]
      obtain ⟨M1, s1, s2, s3, s4⟩ := settles_m (k := 10) (by omega) pd 5000 cdR M hM hP hok (by omega) (by omega) (by omega)
      obtain ⟨q1, q2, q3, q4, q5, q6⟩ := set10 (cd := cdR) hok h9
      obtain ⟨l1, t1, t2⟩ := q6 cd0 l hcd hty
      have hr2 : rls 2 cdC sgC = ((stl 10 cdR pd).1, (stl 10 cdR pd).2.map sgp) := by
        have := rls_rls (β := 2) (γ := 3) (cd := cdC) (sg := sgC) (by omega)
        rw [hr] at this
        rw [← this, q1]
      have hln1 := stl_len (k := 10) (cd := cdR) (pd := pd)
      have hlen1 := q3.len.1
      unfold fX12_settles
      by_cases e6 : TK bb n a = 6
      · have lt := f2 (by omega)
        rw [if_pos e6, if_neg (show ¬ (1 : Int32) = 0 by decide), show fX12_settles_0 5000 10 M = _ from s1, bindS]
        obtain ⟨M2, w1, w2, w3, w4⟩ := waits_m (p := 10) (pd := (stl 10 cdR pd).2) s2 s3.1 s3.2.1 (by rw [s3.2.2, opq_c]; simp) (by omega)
        obtain ⟨M3, g5, g6, g7⟩ := w2.reads hn hb ha
        rw [show fX12_waits 10 M1 = _ from w1, bindS, g5, bindS]
        obtain ⟨C1, c1, c2⟩ := join_c (k := 6) hn hb hC hw hv h40 ha hx hl e6 (by omega) hr2 (by simp; omega)
        rw [c1]
        have hD1 : D1 bb n C0 M0 ls X Y cd0 (10 :: (stl 10 cdR pd).2) C1 M3 (TE bb n a) (x + 1) := by
          refine ⟨(stl 10 cdR pd).1, l1, 2, ?_, g6, w3.a g7, by simp; omega, by omega, f1, t1, ?_, ⟨by omega, q3⟩, ?_⟩
          · rw [List.map_cons]
            exact c2
          · rw [t2]
            rw [show jn (10 :: (stl 10 cdR pd).2) = jn (stl 10 cdR pd).2 + 1 by simp [jn]; omega]
          · rw [opq_c]; simp; omega
        rcases ih C1 M3 (TE bb n a) (x + 1) _ x1 1 (by rw [hx1, ← q5]; simp [cntL]) (Or.inl ⟨rfl, hD1⟩) (by omega) with ⟨C2, M2, a2, x2, i1, i2, i3, i4, i5⟩ | hbad
        · exact Or.inl ⟨C2, M2, a2, x2, i1, i2, i3, ((s4.tr w4).tr g7.b).tr i4, by omega⟩
        · exact Or.inr hbad
      · rw [if_neg e6, if_pos (show (0 : Int32) = 0 from rfl)]
        obtain ⟨M2, s5, s6, s7, s8⟩ := settles_m (k := 11) (by omega) (stl 10 cdR pd).2 5000 (stl 10 cdR pd).1 M1 s2 s3 q3 (by omega) (by omega) (by omega)
        obtain ⟨p1, p2, p3, p4, p5, p6⟩ := set11 (cd := (stl 10 cdR pd).1) q3 q2
        obtain ⟨l2, t3, t4⟩ := p6 cd0 l1 t1 t2
        have hr1 : rls 1 cdC sgC = ((stl 11 (stl 10 cdR pd).1 (stl 10 cdR pd).2).1, (stl 11 (stl 10 cdR pd).1 (stl 10 cdR pd).2).2.map sgp) := by
          have := rls_rls (β := 1) (γ := 2) (cd := cdC) (sg := sgC) (by omega)
          rw [hr2] at this
          rw [← this, p1]
        have hln2 := stl_len (k := 11) (cd := (stl 10 cdR pd).1) (pd := (stl 10 cdR pd).2)
        rw [show fX12_settles_0 5000 10 M = _ from s1, bindS, bindS, show fX12_settles_0 5000 11 M1 = _ from s5, bindS, bindS]
        revert s6 s7 p2 p3 p4 p5 t3 t4 hr1 hln2
        generalize (stl 11 (stl 10 cdR pd).1 (stl 10 cdR pd).2).2 = pe
        generalize (stl 11 (stl 10 cdR pd).1 (stl 10 cdR pd).2).1 = ce
        intro s6 s7 p2 p3 p4 p5 t3 t4 hr1 hln2
        have hlen2 := p3.len.1
        have hcp : cntL 12 pe = cntL 12 pd := p5.trans q5
        by_cases e5 : TK bb n a = 5
        · have lt := f2 (by omega)
          rw [if_pos e5, if_neg (show ¬ (1 : Int32) = 0 by decide)]
          obtain ⟨M3, w1, w2, w3, w4⟩ := waits_m (p := 11) (pd := pe) s6 s7.1 s7.2.1 (by rw [s7.2.2, opq_c]; simp) (by omega)
          obtain ⟨M4, g5, g6, g7⟩ := w2.reads hn hb ha
          rw [show fX12_waits 11 M2 = _ from w1, bindS, g5, bindS]
          obtain ⟨C1, c1, c2⟩ := join_c (k := 5) hn hb hC hw hv h40 ha hx hl e5 (by omega) hr1 (by simp; omega)
          rw [c1]
          have hD1 : D1 bb n C0 M0 ls X Y cd0 (11 :: pe) C1 M4 (TE bb n a) (x + 1) := by
            refine ⟨ce, l2, 2, ?_, g6, w3.a g7, by simp; omega, by omega, f1, t3, ?_, ⟨by omega, p3⟩, ?_⟩
            · rw [List.map_cons]
              exact c2
            · rw [t4]
              rw [show jn (11 :: pe) = jn pe + 1 by simp [jn]; omega]
            · rw [opq_c]; simp; omega
          rcases ih C1 M4 (TE bb n a) (x + 1) _ x1 1 (by rw [hx1, ← hcp]; simp [cntL]) (Or.inl ⟨rfl, hD1⟩) (by omega) with ⟨C2, M2, a2, x2, i1, i2, i3, i4, i5⟩ | hbad
          · exact Or.inl ⟨C2, M2, a2, x2, i1, i2, i3, (((s4.tr s8).tr w4).tr g7.b).tr i4, by omega⟩
          · exact Or.inr hbad
        · have hcl := cntL_le (k := 12) pd
          rw [if_neg e5, if_pos (show (0 : Int32) = 0 from rfl), hx1, show (0 : Int32) = nI 0 from rfl, ifEq (by omega) (by omega)]
          by_cases e0 : cntL 12 pd = 0
          · rw [if_pos e0]
            have hpe : pe = [] := by
              cases pe with
              | nil => rfl
              | cons p t =>
                have hp : p = 12 := p2
                rw [e0, hp] at hcp
                simp [cntL] at hcp
            subst hpe
            exact Or.inl ⟨C, M2, a, x, rfl, rfl, ⟨sgC, cdC, ce, l2, wt, hC, hw, s6, s7.2.2, hr1, by rw [hc22, e0], e5, e6, hl, hx, ha, hv, h40, t3, t4⟩, s4.tr s8, Nat.le_refl _⟩
          · rw [if_neg e0, show fX12_isSign 41 M2 = _ from isSign_eq (s := 23) s6.2.1.2.2 f3 (by omega)]
            by_cases e23 : TK bb n a = 23
            · have lt := f2 (by omega)
              rw [if_pos e23, if_neg (show ¬ (1 : Int32) = nI 0 by decide)]
              obtain ⟨t, rfl⟩ : ∃ t, pe = 12 :: t := by
                cases pe with
                | nil => exact absurd hcp.symm e0
                | cons p t =>
                  have hp : p = 12 := p2
                  exact ⟨t, by rw [hp]⟩
              have h36 : M2 12 0 36 = nI (t.length + 1) := s7.1
              have hop : opq (12 :: t) = opq t + 1 := by rw [opq_c]; simp; omega
              have h34 : M2 12 0 34 = nI (opq t + 1) := by rw [s7.2.2, hop]
              rw [h36, nI_pred, upj (show (34 : Nat) ≠ 36 by omega), h34, nI_pred]
              simp only [List.length_cons] at hln2 hlen2
              obtain ⟨M3, v1, v2, v3, v4⟩ := settles_m (k := 9) (by omega) t 5000 ce _ ((s6.u (k := 12) (j := 36) (v := nI t.length) (by omega)).u (k := 12) (j := 34) (v := nI (opq t)) (by omega)) ⟨by rw [upj (by omega), up_at], by rw [upk (by omega), upk (by omega)]; exact s7.2.1.2, up_at⟩ p3.2 (by omega) (by omega) (by omega)
              obtain ⟨M4, g5, g6, g7⟩ := v2.reads hn hb ha
              rw [show fX12_settles_0 5000 9 _ = _ from v1, bindS, g5, bindS]
              obtain ⟨C1, c1, c2⟩ := close_c hn hb hC hw hv h40 ha hx hl e23 (by rw [hc22]; exact e0) hr1
              rw [c1]
              obtain ⟨z1, z2, z3, z4, z5, z6⟩ := set9 (cd := ce) p3.2
              obtain ⟨l3, t5, t6⟩ := z6 cd0 l2 t3 (by rw [t4]; simp [jn])
              have hcq : cntL 12 pd = cntL 12 t + 1 := by rw [← hcp]; simp [cntL]; omega
              have hD0 : D0 bb n C0 M0 ls X Y cd0 (stl 9 ce t).2 C1 M4 (TE bb n a) (x + 1) := by
                refine ⟨t.map sgp, ce, (stl 9 ce t).1, l3, 5, c2, Or.inr rfl, g6, v3.a g7, z1, by simp; omega, by omega, f1, p3.2.v, by simp; omega, t5, t6, z3, z2, by omega⟩
              rcases ih C1 M4 (TE bb n a) (x + 1) _ (nI (cntL 12 pd) - 1) 0 (by rw [hcq, nI_pred, z5]) (Or.inr ⟨rfl, hD0⟩) (by omega) with ⟨C2, M5, a2, x2, i1, i2, i3, i4, i5⟩ | hbad
              · exact Or.inl ⟨C2, M5, a2, x2, i1, i2, i3, (((s4.tr s8).tr ((frB.u (by omega)).tr (frB.u (by omega)))).tr (v4.tr g7.b)).tr i4, by omega⟩
              · exact Or.inr hbad
            · rw [if_neg e23, if_pos (show (0 : Int32) = nI 0 from rfl)]
              right
              obtain ⟨C5, a1, a2, a3⟩ := hC.adv hn hb ha
              obtain ⟨b1, b2⟩ := s6.errs (why := 1)
              have hd := bad_c a2 a3.2.1 f3 hw hv h40 e5 e6 (Or.inl ⟨by rw [hc22]; exact e0, e23⟩)
              obtain ⟨C', k1, k2⟩ := KR_bad (bb := bb) (n := n) (a := a) (C0 := C0) (why := 1) (x := x) (by omega) hC.2.2.2.2.1.1 a1 hd a3.1 a2.2.2.2.2.2.2.2.2 (by decide) (by decide)
              exact ⟨1, TP bb n a, C', (fX12_errs 1 M2).2, rfl, k1, ⟨by decide, by decide⟩, k2, b2⟩
theorem any_eq {bb : Nat → Nat} {n a x sd : Nat} {C0 M0 C M : Mem} {cd : List (Nat × Int32)} {ls : List (Nat × Nat × Nat)} {X Y : Int32} (hn : n ≤ 400) (hb : ∀ j, j < n → bb j < 256) (hC : CS bb n C0 C a [] 3 sd cd ls X Y) (hM : MA bb n M0 M a cd) (h34 : M 12 0 34 = 0) (ha : a ≤ n) (hx : x ≤ a) (hl : cd.length ≤ a) : (∃ C' M' a' x', fX12_readAny M = some (0, M') ∧ KR C x = KR C' x' ∧ EX bb n C0 M0 ls X Y cd C' M' a' x' ∧ frB M M' ∧ a ≤ a') ∨ Bad C0 M0 (KR C x) (fX12_readAny M) := by
  unfold fX12_readAny
  have hD : D1 bb n C0 M0 ls X Y cd [] C (up M 12 0 36 0) a x := ⟨cd, [], sd, hC, hM.u (by omega), ⟨up_at, True.intro, by rw [upj (by omega)]; exact h34⟩, by simp; omega, hx, ha, by simp, rfl, True.intro, by show (0 : Nat) ≤ 8; omega⟩
  rcases any_loop hn hb 5000 C (up M 12 0 36 0) a x [] 0 1 rfl (Or.inl ⟨rfl, hD⟩) (by omega) with ⟨C2, M2, a2, x2, i1, i2, i3, i4, i5⟩ | hbad
  · exact Or.inl ⟨C2, M2, a2, x2, i1, i2, i3, (frB.u (by omega)).tr i4, i5⟩
  · exact Or.inr hbad
