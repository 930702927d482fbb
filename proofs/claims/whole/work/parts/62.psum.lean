/-! ===== PURE: products and sums ===== -/
/-- a boundary behind a unit: what the class lets out from some binding on is what the reference has written -/
def AB (bb : Nat → Nat) (n : Nat) (C0 M0 : Mem) (β : Nat) (sg0 : List Nat) (sd : Nat) (ls : List (Nat × Nat × Nat)) (X Y : Int32) (d : Nat) (cd0 : List (Nat × Int32)) (t : Nat) (C M : Mem) (a x : Nat) : Prop := ∃ sgC cdC cdR l, CS bb n C0 C a sgC 4 sd cdC ls X Y ∧ MA bb n M0 M a cdR ∧ rls β cdC sgC = (cdR, sg0) ∧ cdC.length + sgC.length ≤ a ∧ x ≤ a ∧ a ≤ n ∧ (∀ s, s ∈ sgC → VSg s) ∧ sgC.length ≤ 40 ∧ cdR = cd0 ++ l ∧ TyE d l t
def Hd (β : Nat) : List Nat → Prop
  | [] => True
  | s :: _ => bnd s < β
theorem rls_hd {β : Nat} {cd : List (Nat × Int32)} : ∀ {sg : List Nat}, Hd β sg → rls β cd sg = (cd, sg)
  | [], _ => rfl
  | s :: t, h => rls_id h
theorem Hd.mono {β γ : Nat} (h : β ≤ γ) : ∀ {sg : List Nat}, Hd β sg → Hd γ sg
  | [], _ => True.intro
  | s :: t, q => by have : bnd s < β := q; exact Nat.lt_of_lt_of_le this h
theorem AB.lower {bb : Nat → Nat} {n β γ sd d t a x : Nat} {C0 M0 C M : Mem} {sg0 : List Nat} {ls : List (Nat × Nat × Nat)} {X Y : Int32} {cd0 : List (Nat × Int32)} (h : AB bb n C0 M0 γ sg0 sd ls X Y d cd0 t C M a x) (hb : β ≤ γ) (h0 : Hd β sg0) {e : Nat} (hde : d ≤ e) : AB bb n C0 M0 β sg0 sd ls X Y e cd0 t C M a x := by
  obtain ⟨sgC, cdC, cdR, l, h1, h2, h3, h4, h5, h6, h7, h8, h9, h10⟩ := h
  refine ⟨sgC, cdC, cdR, l, h1, h2, ?_, h4, h5, h6, h7, h8, h9, h10.mono hde⟩
  have := rls_rls (cd := cdC) (sg := sgC) hb
  rw [h3] at this
  rw [← this]
  exact rls_hd h0
/-- an operator: the class lets out what binds so tightly at least, and keeps it -/
theorem op_c {bb : Nat → Nat} {n a x sd k β w : Nat} {C0 C : Mem} {sgC sg0 : List Nat} {cdC cdR : List (Nat × Int32)} {ls : List (Nat × Nat × Nat)} {X Y : Int32} (hn : n ≤ 400) (hb : ∀ j, j < n → bb j < 256) (hC : CS bb n C0 C a sgC 4 sd cdC ls X Y) (ha : a ≤ n) (hx : x ≤ a) (hk : TK bb n a = k) (hkv : k = 18 ∨ k = 19 ∨ k = 20 ∨ k = 21) (hβ : bnd k = β) (hr : rls β cdC sgC = (cdR, sg0)) (hl : cdC.length + sgC.length ≤ a) (hv : ∀ s, s ∈ sgC → VSg s) (h40 : sgC.length ≤ 40) (h0 : sg0.length < 40) (hw : w = if k = 21 then 2 else 1) : ∃ C', KR C x = KR C' (x + 1) ∧ CS bb n C0 C' (TE bb n a) (k :: sg0) w sd cdR ls X Y := by
  obtain ⟨C5, a1, a2, a3⟩ := hC.adv hn hb ha
  have hbb := bnd_all k (by omega)
  obtain ⟨C6, r1, r2, r3⟩ := CS.rel (β := β) (by omega) sgC 5000 cdC C5 a2 hv (fun b0 => by
    have : bnd k ≠ 0 := by rcases hkv with rfl | rfl | rfl | rfl <;> decide
    omega) (by omega) h40 (by omega)
  rw [hr] at r2
  obtain ⟨C7, p1, p2⟩ := r2.put h0 k
  refine ⟨up C7 4 0 4 (nI w), KR_step (by omega) hC.2.2.2.2.1.1 a1 ?_, p2.wt w⟩
  rw [dsp_1 a2.2.2.2.1.1 (by omega), if_neg (by decide), if_neg (by decide), if_neg (by decide), if_neg (by decide), if_pos rfl, a3.2.1, hk]
  unfold fX4_takeOperator fX4_putBinding fX4_releaseFrom
  rw [(fact_all k (by omega)).2.1, if_pos (show 18 ≤ k ∧ k ≤ 21 by omega), if_neg (show ¬ (1 : Int32) = 0 by decide), hbb.1, hβ, r1, bindS, p1, bindS, bindS, hw]
  by_cases e : k = 21
  · rw [if_pos (show nI k = 21 by rw [e]; rfl), if_pos e]
    rfl
  · rw [if_neg (show ¬ nI k = 21 from fun q => e ((nI_eq (by omega) (by omega)).mp (show nI k = nI 21 from q))), if_neg e]
    rfl
theorem div_eq {bb : Nat → Nat} {n a x sd : Nat} {C0 M0 C M : Mem} {sg : List Nat} {cdC cdR : List (Nat × Int32)} {ls : List (Nat × Nat × Nat)} {X Y : Int32} (hn : n ≤ 400) (hb : ∀ j, j < n → bb j < 256) (hC : CS bb n C0 C a sg 2 sd cdC ls X Y) (hM : MA bb n M0 M a cdR) (ha : a ≤ n) (hx : x ≤ a) (hlC : cdC.length ≤ a) (hlR : cdR.length ≤ a) {R : Option (Int32 × Mem)} {G : Mem → Option (Int32 × Mem)} (hR : R = if (M 12 0 24) = 3 then if (M 12 0 25) = 0 then some ((fX12_errs 2 M).1, (fX12_errs 2 M).2) else bd (fX12_readUnit M) fun r13 S12 => if r13 = (-1) then some ((-1), S12) else G S12 else some ((fX12_errs 1 M).1, (fX12_errs 1 M).2)) :
    (∃ v C' M', v ≠ 0 ∧ v ≤ 9999 ∧ R = G M' ∧ KR C x = KR C' (x + 1) ∧ CS bb n C0 C' (TE bb n a) sg 4 sd (cdC ++ [(0, nI v)]) ls X Y ∧ MA bb n M0 M' (TE bb n a) (cdR ++ [(0, nI v)]) ∧ frA M M' ∧ a < TE bb n a) ∨ Bad C0 M0 (KR C x) R := by
  obtain ⟨f1, f2, f3, f4, f5, f6⟩ := T_fact (n := n) hb ha
  obtain ⟨k3, k2, k0⟩ := tok24 hM.2.1.2.2 f3
  obtain ⟨C5, a1, a2, a3⟩ := hC.adv hn hb ha
  have h6 : C 4 0 6 = 0 := hC.2.2.2.2.1.1
  have hd : dsp C5 = fX4_takeDivisor (nI (TK bb n a)) C5 := by
    rw [dsp_1 a2.2.2.2.1.1 (by omega), a3.2.1, if_neg (by decide), if_neg (by decide), if_pos rfl]
  unfold fX4_takeDivisor at hd
  have hk2 : nI (TK bb n a) = 2 ↔ TK bb n a = 2 := nI_eq (b := 2) (by omega) (by omega)
  have bad : ∀ why, why ≠ 0 → why < 10 → dsp C5 = some (fX4_refuse (nI why) C5) → R = some ((fX12_errs (nI why) M).1, (fX12_errs (nI why) M).2) → Bad C0 M0 (KR C x) R := by
    intro why w0 w10 e1 e2
    obtain ⟨b1, b2⟩ := hM.errs (why := why)
    obtain ⟨C', g1, g2⟩ := KR_bad (bb := bb) (n := n) (a := a) (C0 := C0) (why := why) (x := x) (by omega) h6 a1 e1 a3.1 a2.2.2.2.2.2.2.2.2 w0 w10
    exact ⟨why, TP bb n a, C', _, by rw [e2, b1], g1, ⟨w0, w10⟩, g2, b2⟩
  by_cases e2 : TK bb n a = 2
  · rw [if_pos (hk2.mpr e2), a3.2.2 e2] at hd
    rw [if_pos (k3.mpr e2), (hM.2.1.2.2.2.2.1 e2).2] at hR
    have hv := f4 e2
    by_cases v0 : TV bb n a = 0
    · rw [v0, if_pos (show nI 0 = 0 from rfl)] at hd hR
      exact Or.inr (bad 2 (by decide) (by decide) hd hR)
    · have v0' : ¬ nI (TV bb n a) = 0 := nI_ne0 (by omega) (by omega)
      rw [if_neg v0'] at hd hR
      have := f2 (by omega)
      obtain ⟨C6, g1, g2, g3⟩ := a2.add (by omega) (0, nI (TV bb n a))
      rw [enc0] at g1
      rw [g1, bindS] at hd
      obtain ⟨m1, m2⟩ := unit_m hM hn hb ha (fun q => by omega)
      obtain ⟨M', q, r1, r2, r3, r4⟩ := m1 (Or.inl e2)
      rw [if_pos e2] at r4
      rw [r1, bdS, if_neg (by decide)] at hR
      rw [r4] at r2
      exact Or.inl ⟨TV bb n a, up C6 4 0 4 (nI 4), M', v0, hv, hR, KR_step (by omega) h6 a1 hd, g2.wt 4, r2, r3, this⟩
  · rw [if_neg (fun q => e2 (hk2.mp q))] at hd
    rw [if_neg (fun q => e2 (k3.mp q))] at hR
    exact Or.inr (bad 1 (by decide) (by decide) hd hR)
theorem prod_loop {bb : Nat → Nat} {n sd : Nat} {C0 M0 : Mem} {sg0 : List Nat} {ls : List (Nat × Nat × Nat)} {X Y : Int32} {cd0 : List (Nat × Int32)} (hn : n ≤ 400) (hb : ∀ j, j < n → bb j < 256) (h6 : Hd 6 sg0) (h37 : sg0.length ≤ 38) (hv0 : ∀ s, s ∈ sg0 → VSg s) : ∀ (fuel : Nat) (C M : Mem) (a x t : Nat), AB bb n C0 M0 6 sg0 sd ls X Y 2 cd0 t C M a x → n - a < fuel → (∃ C' M' a' x' t', fX12_readProduct_10 fuel M = some (0, M') ∧ KR C x = KR C' x' ∧ AB bb n C0 M0 6 sg0 sd ls X Y 2 cd0 t' C' M' a' x' ∧ frA M M' ∧ a ≤ a' ∧ TK bb n a' ≠ 20 ∧ TK bb n a' ≠ 21) ∨ Bad C0 M0 (KR C x) (fX12_readProduct_10 fuel M) := by
  intro fuel
  induction fuel with
  | zero => intro C M a x t _ h; omega
  | succ fuel ih =>
    intro C M a x t h hf
    have h' := h
    obtain ⟨sgC, cdC, cdR, l, hC, hM, hr, hl, hx, ha, hv, h40, hcd, hty⟩ := h'
    obtain ⟨f1, f2, f3, f4, f5, f6⟩ := T_fact (n := n) hb ha
    have hlen := rls_len (β := 6) (cd := cdC) (sg := sgC)
    rw [hr] at hlen
    simp only at hlen
    have s42 := isSign_eq (s := 20) hM.2.1.2.2 f3 (by omega)
    have s47 := isSign_eq (s := 21) hM.2.1.2.2 f3 (by omega)
    rw [fX12_readProduct_10, show (42 : Int32) = nI (sgc 20) from rfl, show (47 : Int32) = nI (sgc 21) from rfl, s42, s47]
    by_cases e20 : TK bb n a = 20
    · have lt := f2 (by omega)
      obtain ⟨M1, g5, g6, g7⟩ := hM.reads hn hb ha
      obtain ⟨C1, c1, c2⟩ := op_c (w := 1) hn hb hC ha hx e20 (by omega) (show bnd 20 = 6 from rfl) hr hl hv h40 (by omega) rfl
      rw [if_pos e20, if_neg (by decide), g5, bindS, c1]
      rcases unit_eq (x := x + 1) (sd' := sd) hn hb c2 g6 (Or.inl ⟨rfl, rfl⟩) f1 (by omega) (by omega) (by omega) with ⟨q, C2, M2, u1, u2, u3, u4, u5, u6, u7, u8⟩ | ⟨why, pl, C', M', b1, b2, b3⟩
      · obtain ⟨f1', _⟩ := T_fact (n := n) hb f1
        obtain ⟨M3, e1, e2, e3, e4⟩ := u4.emits (o := 4) (v := 0) (by simp; omega)
        rw [u1, bdS, if_neg (by decide), show fX12_emits 4 0 M2 = _ from e1, bindS, u2]
        obtain ⟨t2, ht2⟩ := u6.ty
        have hAB : AB bb n C0 M0 6 sg0 sd ls X Y 2 cd0 0 C2 M3 (TE bb n (TE bb n a)) (x + 1 + 1) := by
          refine ⟨20 :: sg0, cdR ++ [q], cdR ++ [q] ++ [(4, 0)], l ++ ([q] ++ [(4, 0)]), u3, e2, ?_, by simp; omega, by omega, f1', fun s hs => ?_, by simp; omega, by rw [hcd]; simp, bin_ty hty ht2 (by omega) (by omega)⟩
          · rw [rls_no (by decide)]
            exact rls_hd h6
          · rcases List.mem_cons.mp hs with e | e
            · rw [e]; unfold VSg; omega
            · exact hv0 s e
        rcases ih C2 M3 (TE bb n (TE bb n a)) (x + 1 + 1) 0 hAB (by omega) with ⟨C', M', a', x', t', i1, i2, i3, i4, i5, i6⟩ | hbad
        · exact Or.inl ⟨C', M', a', x', t', i1, i2, i3, ((g7.tr u5).tr e3).tr i4, by omega, i6⟩
        · exact Or.inr hbad
      · right
        rw [b1, bdS, if_pos rfl, b2]
        exact ⟨why, pl, C', M', rfl, rfl, b3⟩
    · rw [if_neg e20, if_pos rfl]
      by_cases e21 : TK bb n a = 21
      · have lt := f2 (by omega)
        obtain ⟨M1, g5, g6, g7⟩ := hM.reads hn hb ha
        obtain ⟨C1, c1, c2⟩ := op_c (w := 2) hn hb hC ha hx e21 (by omega) (show bnd 21 = 6 from rfl) hr hl hv h40 (by omega) rfl
        rw [if_pos e21, if_neg (by decide), g5, bindS, c1]
        rcases div_eq (x := x + 1) hn hb c2 g6 f1 (by omega) (by omega) (by omega) rfl (G := fun S12 => (fX12_emits 5 0 S12).bind fun S16 => fX12_readProduct_10 fuel S16) with ⟨v, C2, M2, u0, u9, u1, u2, u3, u4, u5, u7⟩ | hbad
        · obtain ⟨f1', _⟩ := T_fact (n := n) hb f1
          obtain ⟨M3, e1, e2, e3, e4⟩ := u4.emits (o := 5) (v := 0) (by simp; omega)
          rw [u1, show fX12_emits 5 0 M2 = _ from e1, bindS, u2]
          have hAB : AB bb n C0 M0 6 sg0 sd ls X Y 2 cd0 0 C2 M3 (TE bb n (TE bb n a)) (x + 1 + 1) := by
            refine ⟨21 :: sg0, cdR ++ [(0, nI v)], cdR ++ [(0, nI v)] ++ [(5, 0)], l ++ ([(0, nI v)] ++ [(5, 0)]), u3, e2, ?_, by simp; omega, by omega, f1', fun s hs => ?_, by simp; omega, by rw [hcd]; simp, bin_ty hty (num_ty u9 u0) (by omega) (by omega)⟩
            · rw [rls_no (by decide)]
              exact rls_hd h6
            · rcases List.mem_cons.mp hs with e | e
              · rw [e]; unfold VSg; omega
              · exact hv0 s e
          rcases ih C2 M3 (TE bb n (TE bb n a)) (x + 1 + 1) 0 hAB (by omega) with ⟨C', M', a', x', t', i1, i2, i3, i4, i5, i6⟩ | hbad
          · exact Or.inl ⟨C', M', a', x', t', i1, i2, i3, ((g7.tr u5).tr e3).tr i4, by omega, i6⟩
          · exact Or.inr hbad
        · exact Or.inr hbad
      · rw [if_neg e21, if_pos rfl]
        exact Or.inl ⟨C, M, a, x, t, rfl, rfl, h, frA.rf, Nat.le_refl _, e20, e21⟩
theorem prod_eq {bb : Nat → Nat} {n a x wt sd sd' : Nat} {C0 M0 C M : Mem} {sg0 : List Nat} {cd : List (Nat × Int32)} {ls : List (Nat × Nat × Nat)} {X Y : Int32} (hn : n ≤ 400) (hb : ∀ j, j < n → bb j < 256) (h6 : Hd 6 sg0) (h37 : sg0.length ≤ 38) (hv0 : ∀ s, s ∈ sg0 → VSg s) (hC : CS bb n C0 C a sg0 wt sd cd ls X Y) (hM : MA bb n M0 M a cd) (hw : (wt = 1 ∧ sd' = sd) ∨ (wt = 3 ∧ sd' = 1 ∧ TK bb n a ≠ 7 ∧ TK bb n a ≠ 22)) (ha : a ≤ n) (hx : x ≤ a) (hl : cd.length + sg0.length ≤ a) :
    (∃ C' M' a' x' t', fX12_readProduct M = some (0, M') ∧ KR C x = KR C' x' ∧ AB bb n C0 M0 6 sg0 sd' ls X Y 2 cd t' C' M' a' x' ∧ frA M M' ∧ a < a' ∧ TK bb n a' ≠ 20 ∧ TK bb n a' ≠ 21) ∨ Bad C0 M0 (KR C x) (fX12_readProduct M) := by
  unfold fX12_readProduct
  rcases unit_eq (x := x) hn hb hC hM hw ha hx (by omega) (by omega) with ⟨q, C2, M2, u1, u2, u3, u4, u5, u6, u7, u8⟩ | ⟨why, pl, C', M', b1, b2, b3⟩
  · obtain ⟨f1, _⟩ := T_fact (n := n) hb ha
    obtain ⟨t2, ht2⟩ := u6.ty
    rw [u1, bdS, if_neg (by decide), u2]
    have hAB : AB bb n C0 M0 6 sg0 sd' ls X Y 2 cd t2 C2 M2 (TE bb n a) (x + 1) := ⟨sg0, cd ++ [q], cd ++ [q], [q], u3, u4, rls_hd h6, by simp; omega, by omega, f1, hv0, by omega, rfl, ht2.mono (by omega)⟩
    rcases prod_loop hn hb h6 h37 hv0 5000 C2 M2 (TE bb n a) (x + 1) t2 hAB (by omega) with ⟨C', M', a', x', t', i1, i2, i3, i4, i5, i6⟩ | hbad
    · exact Or.inl ⟨C', M', a', x', t', i1, i2, i3, u5.tr i4, by omega, i6⟩
    · exact Or.inr hbad
  · right
    rw [b1, bdS, if_pos rfl, b2]
    exact ⟨why, pl, C', M', rfl, rfl, b3⟩
theorem sum_loop {bb : Nat → Nat} {n sd : Nat} {C0 M0 : Mem} {sg0 : List Nat} {ls : List (Nat × Nat × Nat)} {X Y : Int32} {cd0 : List (Nat × Int32)} (hn : n ≤ 400) (hb : ∀ j, j < n → bb j < 256) (h5 : Hd 5 sg0) (h36 : sg0.length ≤ 37) (hv0 : ∀ s, s ∈ sg0 → VSg s) : ∀ (fuel : Nat) (C M : Mem) (a x t : Nat), AB bb n C0 M0 5 sg0 sd ls X Y 3 cd0 t C M a x → TK bb n a ≠ 20 → TK bb n a ≠ 21 → n - a < fuel → (∃ C' M' a' x' t', fX12_readSum_10 fuel M = some (0, M') ∧ KR C x = KR C' x' ∧ AB bb n C0 M0 5 sg0 sd ls X Y 3 cd0 t' C' M' a' x' ∧ frA M M' ∧ a ≤ a' ∧ ¬ (18 ≤ TK bb n a' ∧ TK bb n a' ≤ 21)) ∨ Bad C0 M0 (KR C x) (fX12_readSum_10 fuel M) := by
  intro fuel
  induction fuel with
  | zero => intro C M a x t _ _ _ h; omega
  | succ fuel ih =>
    intro C M a x t h n20 n21 hf
    have h' := h
    obtain ⟨sgC, cdC, cdR, l, hC, hM, hr, hl, hx, ha, hv, h40, hcd, hty⟩ := h'
    obtain ⟨f1, f2, f3, f4, f5, f6⟩ := T_fact (n := n) hb ha
    have hlen := rls_len (β := 5) (cd := cdC) (sg := sgC)
    rw [hr] at hlen
    simp only at hlen
    have s43 := isSign_eq (s := 18) hM.2.1.2.2 f3 (by omega)
    have s45 := isSign_eq (s := 19) hM.2.1.2.2 f3 (by omega)
    rw [fX12_readSum_10, show fX12_isSign 43 M = _ from s43, show fX12_isSign 45 M = _ from s45]
    have go : ∀ k o, (k = 18 ∧ o = 2) ∨ (k = 19 ∧ o = 3) → TK bb n a = k → (∃ C' M' a' x' t', ((fX12_reads M).bind fun S9 => bd (fX12_readProduct S9) fun r12 S11 => if r12 = (-1) then some ((-1), S11) else (fX12_emits (nI o) 0 S11).bind fun S15 => fX12_readSum_10 fuel S15) = some (0, M') ∧ KR C x = KR C' x' ∧ AB bb n C0 M0 5 sg0 sd ls X Y 3 cd0 t' C' M' a' x' ∧ frA M M' ∧ a ≤ a' ∧ ¬ (18 ≤ TK bb n a' ∧ TK bb n a' ≤ 21)) ∨ Bad C0 M0 (KR C x) ((fX12_reads M).bind fun S9 => bd (fX12_readProduct S9) fun r12 S11 => if r12 = (-1) then some ((-1), S11) else (fX12_emits (nI o) 0 S11).bind fun S15 => fX12_readSum_10 fuel S15) := by
      intro k o hko hk
      have hbk : bnd k = 5 := by rcases hko with ⟨rfl, _⟩ | ⟨rfl, _⟩ <;> rfl
      have hok : opk k = o := by rcases hko with ⟨rfl, rfl⟩ | ⟨rfl, rfl⟩ <;> rfl
      have lt := f2 (by omega)
      obtain ⟨M1, g5, g6, g7⟩ := hM.reads hn hb ha
      obtain ⟨C1, c1, c2⟩ := op_c (w := 1) hn hb hC ha hx hk (by omega) hbk hr hl hv h40 (by omega) (by rw [if_neg (by omega)])
      rw [g5, bindS, c1]
      have hv1 : ∀ s, s ∈ k :: sg0 → VSg s := fun s hs => by
        rcases List.mem_cons.mp hs with e | e
        · rw [e]; unfold VSg; omega
        · exact hv0 s e
      rcases prod_eq (x := x + 1) (sd' := sd) hn hb (show Hd 6 (k :: sg0) by show bnd k < 6; omega) (by simp; omega) hv1 c2 g6 (Or.inl ⟨rfl, rfl⟩) f1 (by omega) (by simp; omega) with ⟨C2, M2, a2, x2, t2, u1, u2, u3, u4, u5, u6, u7⟩ | ⟨why, pl, C', M', b1, b2, b3⟩
      · obtain ⟨sgD, cdD, cdS, l2, hD, hN, hrD, hlD, hxD, haD, hvD, h40D, hcdD, htyD⟩ := u3
        have hlenD := rls_len (β := 6) (cd := cdD) (sg := sgD)
        rw [hrD] at hlenD
        simp only [List.length_cons] at hlenD
        obtain ⟨M3, e1, e2, e3, e4⟩ := hN.emits (o := o) (v := 0) (by omega)
        rw [u1, bdS, if_neg (by decide), e1, bindS, u2]
        have hAB : AB bb n C0 M0 5 sg0 sd ls X Y 3 cd0 0 C2 M3 a2 x2 := by
          refine ⟨sgD, cdD, cdS ++ [(o, 0)], l ++ (l2 ++ [(o, 0)]), hD, e2, ?_, hlD, hxD, haD, hvD, h40D, by rw [hcdD, hcd]; simp, bin_ty hty htyD (by omega) (by omega)⟩
          have := rls_rls (β := 5) (γ := 6) (cd := cdD) (sg := sgD) (by omega)
          rw [hrD] at this
          rw [← this, rls_no (by omega), hok]
          exact rls_hd h5
        rcases ih C2 M3 a2 x2 0 hAB u6 u7 (by omega) with ⟨C', M', a', x', t', i1, i2, i3, i4, i5, i6⟩ | hbad
        · exact Or.inl ⟨C', M', a', x', t', i1, i2, i3, ((g7.tr u4).tr e3).tr i4, by omega, i6⟩
        · exact Or.inr hbad
      · right
        rw [b1, bdS, if_pos rfl, b2]
        exact ⟨why, pl, C', M', rfl, rfl, b3⟩
    by_cases e18 : TK bb n a = 18
    · have h25 : M 12 0 25 = 43 := (hM.2.1.2.2.2.2.2.2 (by omega)).2.trans (by rw [e18]; rfl)
      rw [if_pos e18, if_neg (by decide), if_pos h25]
      exact go 18 2 (Or.inl ⟨rfl, rfl⟩) e18
    · rw [if_neg e18, if_pos rfl]
      by_cases e19 : TK bb n a = 19
      · have h25 : M 12 0 25 = 45 := (hM.2.1.2.2.2.2.2.2 (by omega)).2.trans (by rw [e19]; rfl)
        rw [if_pos e19, if_neg (by decide), h25, if_neg (by decide)]
        exact go 19 3 (Or.inr ⟨rfl, rfl⟩) e19
      · rw [if_neg e19, if_pos rfl]
        exact Or.inl ⟨C, M, a, x, t, rfl, rfl, h, frA.rf, Nat.le_refl _, by omega⟩
theorem sum_eq {bb : Nat → Nat} {n a x wt sd sd' : Nat} {C0 M0 C M : Mem} {sg0 : List Nat} {cd : List (Nat × Int32)} {ls : List (Nat × Nat × Nat)} {X Y : Int32} (hn : n ≤ 400) (hb : ∀ j, j < n → bb j < 256) (h5 : Hd 5 sg0) (h36 : sg0.length ≤ 37) (hv0 : ∀ s, s ∈ sg0 → VSg s) (hC : CS bb n C0 C a sg0 wt sd cd ls X Y) (hM : MA bb n M0 M a cd) (hw : (wt = 1 ∧ sd' = sd) ∨ (wt = 3 ∧ sd' = 1 ∧ TK bb n a ≠ 7 ∧ TK bb n a ≠ 22)) (ha : a ≤ n) (hx : x ≤ a) (hl : cd.length + sg0.length ≤ a) :
    (∃ C' M' a' x' t', fX12_readSum M = some (0, M') ∧ KR C x = KR C' x' ∧ AB bb n C0 M0 5 sg0 sd' ls X Y 3 cd t' C' M' a' x' ∧ frA M M' ∧ a < a' ∧ ¬ (18 ≤ TK bb n a' ∧ TK bb n a' ≤ 21)) ∨ Bad C0 M0 (KR C x) (fX12_readSum M) := by
  unfold fX12_readSum
  rcases prod_eq (x := x) hn hb (h5.mono (by omega)) (by omega) hv0 hC hM hw ha hx hl with ⟨C2, M2, a2, x2, t2, u1, u2, u3, u4, u5, u6, u7⟩ | ⟨why, pl, C', M', b1, b2, b3⟩
  · rw [u1, bdS, if_neg (by decide), u2]
    rcases sum_loop hn hb h5 h36 hv0 5000 C2 M2 a2 x2 t2 (u3.lower (by omega) h5 (by omega)) u6 u7 (by omega) with ⟨C', M', a', x', t', i1, i2, i3, i4, i5, i6⟩ | hbad
    · exact Or.inl ⟨C', M', a', x', t', i1, i2, i3, u4.tr i4, by omega, i6⟩
    · exact Or.inr hbad
  · right
    rw [b1, bdS, if_pos rfl, b2]
    exact ⟨why, pl, C', M', rfl, rfl, b3⟩
