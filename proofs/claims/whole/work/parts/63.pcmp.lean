/-! ===== PURE: comparisons ===== -/
theorem cmp_c {bb : Nat → Nat} {n a x k : Nat} {C0 C : Mem} {sgC sg0 : List Nat} {cdC cdR : List (Nat × Int32)} {ls : List (Nat × Nat × Nat)} {X Y : Int32} (hn : n ≤ 400) (hb : ∀ j, j < n → bb j < 256) (hC : CS bb n C0 C a sgC 4 1 cdC ls X Y) (ha : a ≤ n) (hx : x ≤ a) (hk : TK bb n a = k) (hkv : 24 ≤ k ∧ k ≤ 26) (hr : rls 4 cdC sgC = (cdR, sg0)) (hl : cdC.length + sgC.length ≤ a) (hv : ∀ s, s ∈ sgC → VSg s) (h40 : sgC.length ≤ 40) (h0 : sg0.length < 40) : ∃ C', KR C x = KR C' (x + 1) ∧ CS bb n C0 C' (TE bb n a) (k :: sg0) 1 2 cdR ls X Y := by
  obtain ⟨C5, a1, a2, a3⟩ := hC.adv hn hb ha
  have hbb := bnd_all k (by omega)
  have hβ : bnd k = 4 := by rcases (show k = 24 ∨ k = 25 ∨ k = 26 by omega) with rfl | rfl | rfl <;> rfl
  obtain ⟨C6, r1, r2, r3⟩ := CS.rel (β := 4) (by omega) sgC 5000 cdC C5 a2 hv (fun b0 => by omega) (by omega) h40 (by omega)
  rw [hr] at r2
  obtain ⟨C7, p1, p2⟩ := r2.put h0 k
  refine ⟨up (up C7 4 0 5 (nI 2)) 4 0 4 (nI 1), KR_step (by omega) hC.2.2.2.2.1.1 a1 ?_, (p2.sd 2).wt 1⟩
  rw [dsp_1 a2.2.2.2.1.1 (by omega), if_neg (by decide), if_neg (by decide), if_neg (by decide), if_neg (by decide), if_pos rfl, a3.2.1, hk]
  unfold fX4_takeOperator fX4_putBinding fX4_releaseFrom
  rw [(fact_all k (by omega)).2.1, if_neg (show ¬ (18 ≤ k ∧ k ≤ 21) by omega), if_pos (show (0 : Int32) = 0 from rfl), a2.2.2.2.1.2, if_pos (show nI 1 = 1 from rfl), (fact_all k (by omega)).2.2, if_pos hkv, if_neg (show ¬ (1 : Int32) = 0 by decide), hbb.1, hβ, r1, bindS, p1, bindS, bindS]
  rfl
theorem cmp_eq {bb : Nat → Nat} {n a x sd : Nat} {C0 M0 C M : Mem} {sg0 : List Nat} {cd : List (Nat × Int32)} {ls : List (Nat × Nat × Nat)} {X Y : Int32} (hn : n ≤ 400) (hb : ∀ j, j < n → bb j < 256) (h4 : Hd 4 sg0) (h35 : sg0.length ≤ 36) (hv0 : ∀ s, s ∈ sg0 → VSg s) (hC : CS bb n C0 C a sg0 3 sd cd ls X Y) (hM : MA bb n M0 M a cd) (n7 : TK bb n a ≠ 7) (n22 : TK bb n a ≠ 22) (ha : a ≤ n) (hx : x ≤ a) (hl : cd.length + sg0.length ≤ a) :
    (∃ C' M' a' x', fX12_readCompared M = some (0, M') ∧ KR C x = KR C' x' ∧ AB bb n C0 M0 4 sg0 2 ls X Y 4 cd 2 C' M' a' x' ∧ frA M M' ∧ a < a' ∧ ¬ (18 ≤ TK bb n a' ∧ TK bb n a' ≤ 21)) ∨ Bad C0 M0 (KR C x) (fX12_readCompared M) := by
  unfold fX12_readCompared
  rcases sum_eq (x := x) (sd' := 1) hn hb (h4.mono (by omega)) (by omega) hv0 hC hM (Or.inr ⟨rfl, rfl, n7, n22⟩) ha hx hl with ⟨C2, M2, a2, x2, t2, u1, u2, u3, u4, u5, u6⟩ | ⟨why, pl, C', M', b1, b2, b3⟩
  · rw [u1, bdS, if_neg (by decide), u2]
    have hlow := u3.lower (β := 4) (by omega) h4 (e := 4) (by omega)
    obtain ⟨sgC, cdC, cdR, l, kC, kM, kr, kl, kx, ka, kv, k40, kcd, kty⟩ := hlow
    obtain ⟨f1, f2, f3, f4, f5, f6⟩ := T_fact (n := n) hb ka
    have s60 := isSign_eq (s := 24) kM.2.1.2.2 f3 (by omega)
    have s61 := isSign_eq (s := 25) kM.2.1.2.2 f3 (by omega)
    have s62 := isSign_eq (s := 26) kM.2.1.2.2 f3 (by omega)
    rw [show fX12_isSign 60 M2 = _ from s60, show fX12_isSign 61 M2 = _ from s61, show fX12_isSign 62 M2 = _ from s62]
    have hlen := rls_len (β := 4) (cd := cdC) (sg := sgC)
    rw [kr] at hlen
    simp only at hlen
    have go : 24 ≤ TK bb n a2 ∧ TK bb n a2 ≤ 26 → (∃ C' M' a' x', fX12_readCompared_43 M2 = some (0, M') ∧ KR C2 x2 = KR C' x' ∧ AB bb n C0 M0 4 sg0 2 ls X Y 4 cd 2 C' M' a' x' ∧ frA M M' ∧ a < a' ∧ ¬ (18 ≤ TK bb n a' ∧ TK bb n a' ≤ 21)) ∨ Bad C0 M0 (KR C2 x2) (fX12_readCompared_43 M2) := by
      intro hk
      obtain ⟨o, ho, e43⟩ : ∃ o, opk (TK bb n a2) = o ∧ fX12_readCompared_43 M2 = fX12_readCompared_73 (nI o) M2 := by
        unfold fX12_readCompared_43
        have h25 := (kM.2.1.2.2.2.2.2.2 (by omega)).2
        rw [h25]
        rcases (show TK bb n a2 = 24 ∨ TK bb n a2 = 25 ∨ TK bb n a2 = 26 by omega) with e | e | e
        · rw [e]; exact ⟨6, rfl, by rw [if_pos (show nI (sgc 24) = 60 from rfl)]; rfl⟩
        · rw [e]; exact ⟨7, rfl, by rw [if_neg (show ¬ nI (sgc 25) = 60 by decide), if_pos (show nI (sgc 25) = 61 from rfl)]; rfl⟩
        · rw [e]; exact ⟨8, rfl, by rw [if_neg (show ¬ nI (sgc 26) = 60 by decide), if_neg (show ¬ nI (sgc 26) = 61 by decide)]; rfl⟩
      have ho3 : o = 6 ∨ o = 7 ∨ o = 8 := by
        rw [← ho]
        rcases (show TK bb n a2 = 24 ∨ TK bb n a2 = 25 ∨ TK bb n a2 = 26 by omega) with e | e | e <;> rw [e] <;> decide
      have hb4 : bnd (TK bb n a2) = 4 := by
        rcases (show TK bb n a2 = 24 ∨ TK bb n a2 = 25 ∨ TK bb n a2 = 26 by omega) with e | e | e <;> rw [e] <;> rfl
      rw [e43]
      unfold fX12_readCompared_73
      have lt := f2 (by omega)
      obtain ⟨M3, g5, g6, g7⟩ := kM.reads hn hb ka
      obtain ⟨C3, c1, c2⟩ := cmp_c hn hb kC ka kx rfl hk kr kl kv k40 (by omega)
      rw [g5, bindS, c1]
      have hv1 : ∀ s, s ∈ TK bb n a2 :: sg0 → VSg s := fun s hs => by
        rcases List.mem_cons.mp hs with e | e
        · rw [e]; unfold VSg; omega
        · exact hv0 s e
      rcases sum_eq (x := x2 + 1) (sd' := 2) hn hb (show Hd 5 (TK bb n a2 :: sg0) by show bnd _ < 5; omega) (by simp; omega) hv1 c2 g6 (Or.inl ⟨rfl, rfl⟩) f1 (by omega) (by simp; omega) with ⟨C4, M4, a4, x4, t4, v1, v2, v3, v4, v5, v6⟩ | ⟨why, pl, C', M', b1, b2, b3⟩
      · obtain ⟨sgD, cdD, cdS, l2, hD, hN, hrD, hlD, hxD, haD, hvD, h40D, hcdD, htyD⟩ := v3
        have hlenD := rls_len (β := 5) (cd := cdD) (sg := sgD)
        rw [hrD] at hlenD
        simp only [List.length_cons] at hlenD
        obtain ⟨M5, e1, e2, e3, e4⟩ := hN.emits (o := o) (v := 0) (by omega)
        rw [v1, bdS, if_neg (by decide), e1, bindS, v2]
        refine Or.inl ⟨C4, M5, a4, x4, rfl, rfl, ⟨sgD, cdD, cdS ++ [(o, 0)], l ++ (l2 ++ [(o, 0)]), hD, e2, ?_, hlD, hxD, haD, hvD, h40D, by rw [hcdD, kcd]; simp, cmp_ty kty htyD (by omega) ho3⟩, ((u4.tr g7).tr v4).tr e3, by omega, v6⟩
        have := rls_rls (β := 4) (γ := 5) (cd := cdD) (sg := sgD) (by omega)
        rw [hrD] at this
        rw [← this, rls_no (by omega), ho]
        exact rls_hd h4
      · right
        rw [b1, bdS, if_pos rfl, b2]
        exact ⟨why, pl, C', M', rfl, rfl, b3⟩
    by_cases e24 : TK bb n a2 = 24
    · rw [if_pos e24, if_neg (by decide)]
      exact go (by omega)
    · rw [if_neg e24, if_pos rfl]
      by_cases e25 : TK bb n a2 = 25
      · rw [if_pos e25, if_neg (by decide)]
        exact go (by omega)
      · rw [if_neg e25, if_pos rfl]
        by_cases e26 : TK bb n a2 = 26
        · rw [if_pos e26, if_neg (by decide)]
          exact go (by omega)
        · rw [if_neg e26, if_pos rfl]
          right
          obtain ⟨C5, a5, a6, a7⟩ := kC.adv hn hb ka
          obtain ⟨b1, b2⟩ := kM.errs (why := 1)
          have hd : dsp C5 = some (fX4_refuse (nI 1) C5) := by
            rw [dsp_1 a6.2.2.2.1.1 (by omega), if_neg (by decide), if_neg (by decide), if_neg (by decide), if_neg (by decide), if_pos rfl, a7.2.1]
            unfold fX4_takeOperator fX4_takeOperator_63 fX4_takeOperator_87 fX4_takeOperator_111
            rw [(fact_all _ (by omega)).2.1, if_neg u6, if_pos (show (0 : Int32) = 0 from rfl), a6.2.2.2.1.2, if_pos (show nI 1 = 1 from rfl), (fact_all _ (by omega)).2.2, if_neg (show ¬ (24 ≤ TK bb n a2 ∧ TK bb n a2 ≤ 26) by omega), if_pos (show (0 : Int32) = 0 from rfl), if_neg (show ¬ nI 1 = 0 by decide), if_neg (show ¬ nI 1 = 0 by decide), if_neg (show ¬ nI 1 = 2 by decide)]
            rfl
          obtain ⟨C', k1, k2⟩ := KR_bad (bb := bb) (n := n) (a := a2) (C0 := C0) (why := 1) (x := x2) (by omega) kC.2.2.2.2.1.1 a5 hd a7.1 a6.2.2.2.2.2.2.2.2 (by decide) (by decide)
          exact ⟨1, TP bb n a2, C', (fX12_errs 1 M2).2, rfl, k1, ⟨by decide, by decide⟩, k2, b2⟩
  · right
    rw [b1, bdS, if_pos rfl, b2]
    exact ⟨why, pl, C', M', rfl, rfl, b3⟩
