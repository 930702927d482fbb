/-! ===== PURE: sums, on both sides ===== -/
def Bad (C0 M0 : Mem) (K R : Option (Int32 × Mem)) : Prop := ∃ why pl C' M', R = some (-1, M') ∧ K = some (0, C') ∧ (why ≠ 0 ∧ why < 10) ∧ ErC C0 why pl C' ∧ ErM M0 why pl M'
theorem sgc_all : ∀ s, s < 27 → ∀ k, k < 27 → 17 ≤ s → 17 ≤ k → (nI (sgc k) = nI (sgc s)) = (k = s) := by
  intro s hs k hk h1 h2
  have : ∀ s, s < 27 → ∀ k, k < 27 → 17 ≤ s → 17 ≤ k → (sgc k = sgc s ↔ k = s) ∧ sgc k < 256 := by decide +kernel
  have h3 := this s hs k hk h1 h2
  have h4 := this s hs s hs h1 h1
  rw [← propext h3.1]
  exact propext (nI_eq (by omega) (by omega))
theorem isSign_eq {k v s : Nat} {M : Mem} (h : TkM k v M) (hk : k ≤ 26) (hs : 17 ≤ s ∧ s ≤ 26) : fX12_isSign (nI (sgc s)) M = if k = s then 1 else 0 := by
  obtain ⟨h0, h1, h2, h3, h4⟩ := h
  unfold fX12_isSign
  rcases (show k = 0 ∨ k = 1 ∨ k = 2 ∨ (3 ≤ k ∧ k ≤ 16) ∨ (17 ≤ k ∧ k ≤ 26) by omega) with e | e | e | e | e
  · rw [h0 e, if_neg (by decide), if_neg (by omega)]
  · rw [h1 e, if_neg (by decide), if_neg (by omega)]
  · rw [(h2 e).1, if_neg (by decide), if_neg (by omega)]
  · rw [(h3 e).1, if_neg (by decide), if_neg (by omega)]
  · rw [(h4 e).1, if_pos rfl, (h4 e).2]
    by_cases ks : k = s
    · rw [if_pos ks, ks, if_pos rfl]
    · rw [if_neg ks, if_neg]
      rw [sgc_all s (by omega) k (by omega) hs.1 e.1]
      exact ks
theorem isWord_eq {k v w : Nat} {M : Mem} (h : TkM k v M) (hk : k ≤ 26) (hw : w ≤ 13) : fX12_isWord (nI w) M = if k = w + 3 then 1 else 0 := by
  obtain ⟨h0, h1, h2, h3, h4⟩ := h
  unfold fX12_isWord
  rcases (show k = 0 ∨ k = 1 ∨ k = 2 ∨ (3 ≤ k ∧ k ≤ 16) ∨ (17 ≤ k ∧ k ≤ 26) by omega) with e | e | e | e | e
  · rw [h0 e, if_neg (by decide), if_neg (by omega)]
  · rw [h1 e, if_neg (by decide), if_neg (by omega)]
  · rw [(h2 e).1, if_neg (by decide), if_neg (by omega)]
  · rw [(h3 e).1, if_pos rfl, (h3 e).2, ifEq (by omega) (by omega)]
    by_cases kw : k = w + 3
    · rw [if_pos kw, if_pos (by omega)]
    · rw [if_neg kw, if_neg (by omega)]
  · rw [(h4 e).1, if_neg (by decide), if_neg (by omega)]
theorem tok24 {k v : Nat} {M : Mem} (h : TkM k v M) (hk : k ≤ 26) : (M 12 0 24 = 3 ↔ k = 2) ∧ (M 12 0 24 = 2 ↔ 3 ≤ k ∧ k ≤ 16) ∧ (M 12 0 24 = 0 ↔ k = 0) := by
  obtain ⟨h0, h1, h2, h3, h4⟩ := h
  rcases (show k = 0 ∨ k = 1 ∨ k = 2 ∨ (3 ≤ k ∧ k ≤ 16) ∨ (17 ≤ k ∧ k ≤ 26) by omega) with e | e | e | e | e
  · rw [h0 e]; exact ⟨⟨fun q => absurd q (by decide), fun q => by omega⟩, ⟨fun q => absurd q (by decide), fun q => by omega⟩, ⟨fun _ => e, fun _ => rfl⟩⟩
  · rw [h1 e]; exact ⟨⟨fun q => absurd q (by decide), fun q => by omega⟩, ⟨fun q => absurd q (by decide), fun q => by omega⟩, ⟨fun q => absurd q (by decide), fun q => by omega⟩⟩
  · rw [(h2 e).1]; exact ⟨⟨fun _ => e, fun _ => rfl⟩, ⟨fun q => absurd q (by decide), fun q => by omega⟩, ⟨fun q => absurd q (by decide), fun q => by omega⟩⟩
  · rw [(h3 e).1]; exact ⟨⟨fun q => absurd q (by decide), fun q => by omega⟩, ⟨fun _ => e, fun _ => rfl⟩, ⟨fun q => absurd q (by decide), fun q => by omega⟩⟩
  · rw [(h4 e).1]; exact ⟨⟨fun q => absurd q (by decide), fun q => by omega⟩, ⟨fun q => absurd q (by decide), fun q => by omega⟩, ⟨fun q => absurd q (by decide), fun q => by omega⟩⟩
/-! what a code does to the kinds of values -/
def TyE (d : Nat) (l : List (Nat × Int32)) (t : Nat) : Prop := ∀ ty : List Nat, ty.length + d ≤ 40 → wf ty l = some (t :: ty)
theorem wf_app : ∀ {l1 l2 : List (Nat × Int32)} {ty : List Nat}, wf ty (l1 ++ l2) = (wf ty l1).bind fun t => wf t l2
  | [], _, _ => rfl
  | q :: l, l2, ty => by
    show (wfs ty q).bind (fun s' => wf s' (l ++ l2)) = ((wfs ty q).bind fun s' => wf s' l).bind fun t => wf t l2
    cases wfs ty q with
    | none => rfl
    | some s => exact wf_app
theorem wf_one {ty : List Nat} {q : Nat × Int32} : wf ty [q] = wfs ty q := by
  show (wfs ty q).bind (fun s => some s) = _
  cases wfs ty q <;> rfl
def UQ (q : Nat × Int32) : Prop := (∃ m, m ≤ 9999 ∧ q = (0, nI m)) ∨ ∃ m, m < 9 ∧ q = (1, nI m)
theorem UQ.ty {q : Nat × Int32} (h : UQ q) : ∃ t, TyE 1 [q] t := by
  rcases h with ⟨m, m1, rfl⟩ | ⟨m, m1, rfl⟩
  · refine ⟨if nI m = 0 then 0 else 1, fun ty hty => ?_⟩
    rw [wf_one]
    unfold wfs
    rw [if_pos rfl, if_pos ⟨by omega, nI_pos' (by omega), nI_le (b := 9999) m1 (by omega)⟩]
  · refine ⟨0, fun ty hty => ?_⟩
    rw [wf_one]
    unfold wfs
    rw [if_neg (by simp), if_pos rfl, if_pos ⟨by omega, nI_pos' (by omega), nI_lt (b := 9) m1 (by omega)⟩]
theorem num_ty {m : Nat} (h : m ≤ 9999) (h0 : m ≠ 0) : TyE 1 [(0, nI m)] 1 := by
  intro ty hty
  rw [wf_one]
  unfold wfs
  rw [if_pos rfl, if_pos ⟨by omega, nI_pos' (by omega), nI_le (b := 9999) h (by omega)⟩, if_neg (nI_ne0 (by omega) (by omega))]
/-- two values become one -/
theorem bin_ty {d e o t1 t2 : Nat} {l1 l2 : List (Nat × Int32)} (h1 : TyE d l1 t1) (h2 : TyE e l2 t2) (hde : e + 1 ≤ d) (ho : o = 2 ∨ o = 3 ∨ o = 4 ∨ (o = 5 ∧ t2 = 1)) : TyE d (l1 ++ (l2 ++ [(o, 0)])) 0 := by
  intro ty hty
  rw [wf_app, h1 ty hty, bindS, wf_app, h2 (t1 :: ty) (by simp; omega), bindS, wf_one]
  unfold wfs
  rcases ho with rfl | rfl | rfl | ⟨rfl, rfl⟩ <;> simp
theorem cmp_ty {d e o t1 t2 : Nat} {l1 l2 : List (Nat × Int32)} (h1 : TyE d l1 t1) (h2 : TyE e l2 t2) (hde : e + 1 ≤ d) (ho : o = 6 ∨ o = 7 ∨ o = 8) : TyE d (l1 ++ (l2 ++ [(o, 0)])) 2 := by
  intro ty hty
  rw [wf_app, h1 ty hty, bindS, wf_app, h2 (t1 :: ty) (by simp; omega), bindS, wf_one]
  unfold wfs
  rcases ho with rfl | rfl | rfl <;> simp
theorem TyE.mono {d e t : Nat} {l : List (Nat × Int32)} (h : TyE d l t) (hde : d ≤ e) : TyE e l t := fun ty hty => h ty (by omega)
/-! a unit -/
theorem dsp_1 {S : Mem} {w : Nat} (h : S 4 0 4 = nI w) (hw : w ≤ 5) : dsp S = if w = 0 then fX4_takeLine (S 9 0 2) S else if w = 1 then fX4_takeUnit (S 9 0 2) S else if w = 2 then fX4_takeDivisor (S 9 0 2) S else if w = 3 then fX4_takeTest (S 9 0 2) S else if w = 4 then fX4_takeOperator (S 9 0 2) S else fX4_takeJoint (S 9 0 2) S := by
  unfold dsp
  rw [h]
  rcases (show w = 0 ∨ w = 1 ∨ w = 2 ∨ w = 3 ∨ w = 4 ∨ w = 5 by omega) with rfl | rfl | rfl | rfl | rfl | rfl <;> rfl
theorem fact_all : ∀ k, k < 27 → fX9_isFact (nI k) = (if 8 ≤ k ∧ k ≤ 16 then 1 else 0) ∧ fX9_isArithmetic (nI k) = (if 18 ≤ k ∧ k ≤ 21 then 1 else 0) ∧ fX9_isComparison (nI k) = (if 24 ≤ k ∧ k ≤ 26 then 1 else 0) := by decide +kernel
theorem unit_c {bb : Nat → Nat} {n a a' wt sd : Nat} {C0 C : Mem} {sg : List Nat} {cd : List (Nat × Int32)} {ls : List (Nat × Nat × Nat)} {x y : Int32} (h : CS bb n C0 C a' sg wt sd cd ls x y) (ht : TkC bb n a C) (hk : TK bb n a ≤ 26) (hc : TK bb n a ≠ 0 → cd.length < 400) : ((TK bb n a = 2 ∨ (8 ≤ TK bb n a ∧ TK bb n a ≤ 16)) → ∃ C' q, fX4_takeUnit (nI (TK bb n a)) C = some C' ∧ CS bb n C0 C' a' sg 4 sd (cd ++ [q]) ls x y ∧ q = (if TK bb n a = 2 then (0, nI (TV bb n a)) else (1, nI (TK bb n a - 8)))) ∧ (¬ (TK bb n a = 2 ∨ (8 ≤ TK bb n a ∧ TK bb n a ≤ 16)) → fX4_takeUnit (nI (TK bb n a)) C = some (fX4_refuse 1 (up C 4 0 4 4))) := by
  unfold fX4_takeUnit
  have h4 := h.wt 4
  obtain ⟨t1, t2, t3⟩ := ht
  rw [(fact_all _ (by omega)).1]
  have hk2 : nI (TK bb n a) = 2 ↔ TK bb n a = 2 := nI_eq (b := 2) (by omega) (by omega)
  refine ⟨fun hh => ?_, fun hh => ?_⟩
  · by_cases e2 : TK bb n a = 2
    · rw [if_pos (hk2.mpr e2), if_pos e2, upk (show (9 : Nat) ≠ 4 by omega), t3 e2]
      obtain ⟨C', g1, g2, g3⟩ := h4.add (hc (by omega)) (0, nI (TV bb n a))
      rw [enc0] at g1
      rw [show fX3_add (nI (TV bb n a)) (up C 4 0 4 4) = _ from g1, bindS]
      exact ⟨C', _, rfl, g2, rfl⟩
    · have h8 := hh.resolve_left e2
      rw [if_neg (fun q => e2 (hk2.mp q)), if_pos h8, if_neg (by decide), if_neg e2]
      unfold fX3_addFact
      obtain ⟨C', g1, g2, g3⟩ := h4.add (hc (by omega)) (1, nI (TK bb n a - 8))
      rw [enc1] at g1
      have e10 : 10000 + nI (TK bb n a) - 8 = nI (10000 + (TK bb n a - 8)) := by
        rw [show (10000 : Int32) = nI 10000 from rfl, show (8 : Int32) = nI 8 from rfl, nI_add, nI_sub' (by omega) (by omega), show 10000 + TK bb n a - 8 = 10000 + (TK bb n a - 8) by omega]
      rw [e10, show fX3_add (nI (10000 + (TK bb n a - 8))) (up C 4 0 4 4) = _ from g1, bindS, bindS]
      exact ⟨C', _, rfl, g2, rfl⟩
  · rw [if_neg (fun q => hh (Or.inl (hk2.mp q))), if_neg (fun q => hh (Or.inr q)), if_pos rfl]
theorem unit_m {bb : Nat → Nat} {n a : Nat} {M0 M : Mem} {cd : List (Nat × Int32)} (h : MA bb n M0 M a cd) (hn : n ≤ 400) (hb : ∀ j, j < n → bb j < 256) (ha : a ≤ n) (hc : TK bb n a ≠ 0 → cd.length < 400) : ((TK bb n a = 2 ∨ (8 ≤ TK bb n a ∧ TK bb n a ≤ 16)) → ∃ M' q, fX12_readUnit M = some (0, M') ∧ MA bb n M0 M' (TE bb n a) (cd ++ [q]) ∧ frA M M' ∧ q = (if TK bb n a = 2 then (0, nI (TV bb n a)) else (1, nI (TK bb n a - 8)))) ∧ (¬ (TK bb n a = 2 ∨ (8 ≤ TK bb n a ∧ TK bb n a ≤ 16)) → fX12_readUnit M = some ((fX12_errs 1 M).1, (fX12_errs 1 M).2)) := by
  obtain ⟨f1, f2, f3, f4, f5, f6⟩ := T_fact (n := n) hb ha
  have h' := h
  obtain ⟨h1, ⟨h2, h3, h4⟩, h5, h6⟩ := h'
  obtain ⟨k3, k2, k0⟩ := tok24 h4 f3
  obtain ⟨t0, t1, t2, t3, t4⟩ := h4
  unfold fX12_readUnit fX12_readUnit_20 fX12_readUnit_21 fX12_readUnit_40 fX12_readUnit_50
  refine ⟨fun hh => ?_, fun hh => ?_⟩
  · by_cases e2 : TK bb n a = 2
    · obtain ⟨M1, g1, g2, g3, g4⟩ := h.emits (o := 0) (v := nI (TV bb n a)) (hc (by omega))
      obtain ⟨M2, g5, g6, g7⟩ := g2.reads hn hb ha
      rw [if_neg (fun q => by have := k2.mp q; omega), if_pos rfl, if_pos (k3.mpr e2), if_pos rfl, if_pos rfl, (t2 e2).2, show fX12_emits 0 (nI (TV bb n a)) M = _ from g1, bindS, g5, bindS, if_pos e2]
      exact ⟨M2, _, rfl, g6, g3.tr g7, rfl⟩
    · have h8 := hh.resolve_left e2
      obtain ⟨M1, g1, g2, g3, g4⟩ := h.emits (o := 1) (v := nI (TK bb n a - 8)) (hc (by omega))
      obtain ⟨M2, g5, g6, g7⟩ := g2.reads hn hb ha
      rw [if_pos (k2.mpr (by omega)), (t3 (by omega)).2, if_neg (show ¬ nI (TK bb n a - 3) < 5 from nI_nlt (b := 5) (by omega) (by omega)), if_neg (show ¬ (1 : Int32) = 0 by decide), if_neg (show ¬ (1 : Int32) = 0 by decide), if_neg (show ¬ (1 : Int32) = 0 by decide), show (5 : Int32) = nI 5 from rfl, nI_sub' (by omega) (by omega), show TK bb n a - 3 - 5 = TK bb n a - 8 by omega, show fX12_emits 1 (nI (TK bb n a - 8)) M = _ from g1, bindS, g5, bindS, if_neg e2]
      exact ⟨M2, _, rfl, g6, g3.tr g7, rfl⟩
  · have n3 : ¬ M 12 0 24 = 3 := fun q => hh (Or.inl (k3.mp q))
    by_cases e : M 12 0 24 = 2
    · have hk := k2.mp e
      rw [if_pos e, (t3 hk).2, if_pos (show nI (TK bb n a - 3) < 5 from nI_lt (b := 5) (by omega) (by omega)), if_pos rfl, if_neg n3]
    · rw [if_neg e, if_pos rfl, if_neg n3]
theorem unit_eq {bb : Nat → Nat} {n a x wt sd sd' : Nat} {C0 M0 C M : Mem} {sg : List Nat} {cdC cdR : List (Nat × Int32)} {ls : List (Nat × Nat × Nat)} {X Y : Int32} (hn : n ≤ 400) (hb : ∀ j, j < n → bb j < 256) (hC : CS bb n C0 C a sg wt sd cdC ls X Y) (hM : MA bb n M0 M a cdR) (hw : (wt = 1 ∧ sd' = sd) ∨ (wt = 3 ∧ sd' = 1 ∧ TK bb n a ≠ 7 ∧ TK bb n a ≠ 22)) (ha : a ≤ n) (hx : x ≤ a) (hlC : cdC.length ≤ a) (hlR : cdR.length ≤ a) :
    (∃ q C' M', fX12_readUnit M = some (0, M') ∧ KR C x = KR C' (x + 1) ∧ CS bb n C0 C' (TE bb n a) sg 4 sd' (cdC ++ [q]) ls X Y ∧ MA bb n M0 M' (TE bb n a) (cdR ++ [q]) ∧ frA M M' ∧ UQ q ∧ a < TE bb n a ∧ (TK bb n a = 2 → q = (0, nI (TV bb n a)))) ∨ Bad C0 M0 (KR C x) (fX12_readUnit M) := by
  obtain ⟨f1, f2, f3, f4, f5, f6⟩ := T_fact (n := n) hb ha
  have hlt : TK bb n a ≠ 0 → a < n := fun q => by have := f2 q; omega
  obtain ⟨C5, a1, a2, a3⟩ := hC.adv hn hb ha
  obtain ⟨m1, m2⟩ := unit_m hM hn hb ha (fun q => by have := hlt q; omega)
  have h6 : C 4 0 6 = 0 := hC.2.2.2.2.1.1
  have hd : ∃ S, dsp C5 = fX4_takeUnit (nI (TK bb n a)) S ∧ CS bb n C0 S (TE bb n a) sg wt sd' cdC ls X Y ∧ TkC bb n a S := by
    rw [dsp_1 a2.2.2.2.1.1 (by omega), a3.2.1]
    rcases hw with ⟨rfl, rfl⟩ | ⟨rfl, rfl, n7, n22⟩
    · rw [if_neg (by decide), if_pos rfl]
      exact ⟨C5, rfl, a2, a3⟩
    · rw [if_neg (by decide), if_neg (by decide), if_neg (by decide), if_pos rfl]
      unfold fX4_takeTest
      rw [if_neg (show ¬ nI (TK bb n a) = 7 from fun q => n7 ((nI_eq (by omega) (by omega)).mp (show nI (TK bb n a) = nI 7 from q))), if_neg (show ¬ nI (TK bb n a) = 22 from fun q => n22 ((nI_eq (by omega) (by omega)).mp (show nI (TK bb n a) = nI 22 from q)))]
      refine ⟨up C5 4 0 5 1, ?_, a2.sd 1, by rw [upk (by omega)]; exact a3.1, by rw [upk (by omega)]; exact a3.2.1, fun q => by rw [upk (by omega)]; exact a3.2.2 q⟩
      cases fX4_takeUnit (nI (TK bb n a)) (up C5 4 0 5 1) <;> rfl
  obtain ⟨S, d1, d2, d3⟩ := hd
  obtain ⟨u1, u2⟩ := unit_c d2 d3 f3 (fun q => by have := hlt q; omega)
  by_cases hu : TK bb n a = 2 ∨ (8 ≤ TK bb n a ∧ TK bb n a ≤ 16)
  · left
    obtain ⟨C', q, c1, c2, c3⟩ := u1 hu
    obtain ⟨M', q', r1, r2, r3, r4⟩ := m1 hu
    have eq : q' = q := by rw [r4, c3]
    subst eq
    refine ⟨q', C', M', r1, KR_step (by omega) h6 a1 (d1.trans c1), c2, r2, r3, ?_, f2 (by omega), fun z => by rw [c3, if_pos z]⟩
    rw [c3]
    by_cases e2 : TK bb n a = 2
    · rw [if_pos e2]; exact Or.inl ⟨_, f4 e2, rfl⟩
    · rw [if_neg e2]; exact Or.inr ⟨_, by omega, rfl⟩
  · right
    obtain ⟨b1, b2⟩ := hM.errs (why := 1)
    obtain ⟨C', k1, k2⟩ := KR_bad (bb := bb) (n := n) (a := a) (C0 := C0) (why := 1) (x := x) (by omega) h6 a1 (d1.trans (u2 hu)) (by rw [upk (by omega)]; exact d3.1) ((d2.wt 4).2.2.2.2.2.2.2.2) (by decide) (by decide)
    refine ⟨1, TP bb n a, C', (fX12_errs 1 M).2, ?_, k1, ⟨by decide, by decide⟩, k2, b2⟩
    rw [m2 hu]
    rfl
