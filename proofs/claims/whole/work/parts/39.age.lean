/-! ===== PURE: the age by the law ===== -/
def opn (k : Nat) : Int32 := if k = 2 then 18 else if k = 3 then 19 else if k = 4 then 20 else if k = 5 then 21 else if k = 6 then 24 else if k = 7 then 25 else if k = 8 then 26 else if k = 10 then 6 else 5
noncomputable def op2 (k : Nat) (a b : Int32) : Int32 := fX3_joined (opn k) a b
noncomputable def ev1 (g : Nat → Int32) (st : List Int32) (q : Nat × Int32) : List Int32 :=
  if q.1 = 0 then q.2 :: st
  else if q.1 = 1 then g q.2.toNatClampNeg :: st
  else match st with
    | [] => []
    | b :: t => if q.1 = 9 then (1 - b) :: t else match t with
      | [] => []
      | a :: t' => op2 q.1 a b :: t'
noncomputable def ev (g : Nat → Int32) : List Int32 → List (Nat × Int32) → List Int32
  | st, [] => st
  | st, q :: l => ev g (ev1 g st q) l
def Stk (f : Nat → Int32) : List Int32 → Prop
  | [] => True
  | v :: t => f t.length = v ∧ Stk f t
theorem Stk.up {S : Mem} {k n : Nat} {v : Int32} : ∀ {t : List Int32}, Stk (S k 0) t → t.length ≤ n → Stk (up S k 0 n v k 0) t
  | [], _, _ => True.intro
  | w :: t, h, hl => ⟨by rw [upj (by simp at hl; omega)]; exact h.1, Stk.up h.2 (by simp at hl; omega)⟩
def TyOk : List Int32 → List Nat → Prop
  | [], [] => True
  | v :: t, a :: s => ((a = 2 → v = 0 ∨ v = 1) ∧ (a = 1 → ¬ v = 0)) ∧ TyOk t s
  | _, _ => False
theorem TyOk.len : ∀ {t : List Int32} {s : List Nat}, TyOk t s → t.length = s.length
  | [], [], _ => rfl
  | v :: t, a :: s, h => by simp [TyOk.len h.2]
  | [], _ :: _, h => h.elim
  | _ :: _, [], h => h.elim
theorem op2_cmp {k : Nat} {a b : Int32} (h : k = 6 ∨ k = 7 ∨ k = 8) : op2 k a b = 0 ∨ op2 k a b = 1 := by
  rcases h with rfl | rfl | rfl
  · show (if b ≤ a then (0 : Int32) else 1) = 0 ∨ (if b ≤ a then (0 : Int32) else 1) = 1
    split
    · exact Or.inl rfl
    · exact Or.inr rfl
  · show (if a = b then (1 : Int32) else 0) = 0 ∨ (if a = b then (1 : Int32) else 0) = 1
    split
    · exact Or.inr rfl
    · exact Or.inl rfl
  · show (if a ≤ b then (0 : Int32) else 1) = 0 ∨ (if a ≤ b then (0 : Int32) else 1) = 1
    split
    · exact Or.inl rfl
    · exact Or.inr rfl
/-- one step of the code keeps the kinds of the values -/
theorem ty_step {g : Nat → Int32} {st : List Int32} {ty ty' : List Nat} {q : Nat × Int32} (h : TyOk st ty) (hw : wfs ty q = some ty') : TyOk (ev1 g st q) ty' := by
  unfold wfs at hw
  unfold ev1
  by_cases h0 : q.1 = 0
  · rw [if_pos h0] at hw ⊢
    split at hw
    · cases hw
      refine ⟨⟨fun e => ?_, fun e => ?_⟩, h⟩
      · split at e <;> cases e
      · split at e
        · cases e
        · assumption
    · cases hw
  · rw [if_neg h0] at hw ⊢
    by_cases h1 : q.1 = 1
    · rw [if_pos h1] at hw ⊢
      split at hw
      · cases hw
        exact ⟨⟨fun e => absurd e (by decide), fun e => absurd e (by decide)⟩, h⟩
      · cases hw
    · rw [if_neg h1] at hw ⊢
      match st, ty, h, hw with
      | [], [], _, hw => cases hw
      | b :: t, tb :: s, h, hw =>
        simp only at hw ⊢
        by_cases h9 : q.1 = 9
        · rw [if_pos h9] at hw ⊢
          split at hw
          · rename_i e2
            cases hw
            refine ⟨⟨fun _ => ?_, fun e => absurd e (by decide)⟩, h.2⟩
            rcases h.1.1 e2 with e | e <;> rw [e]
            · exact Or.inr (by decide)
            · exact Or.inl (by decide)
          · cases hw
        · rw [if_neg h9] at hw ⊢
          match t, s, h, hw with
          | [], [], _, hw => cases hw
          | a :: t', ta :: s', h, hw =>
            simp only at hw ⊢
            split at hw
            · split at hw
              · cases hw
                exact ⟨⟨fun e => absurd e (by decide), fun e => absurd e (by decide)⟩, h.2.2⟩
              · cases hw
            · split at hw
              · cases hw
                exact ⟨⟨fun e => absurd e (by decide), fun e => absurd e (by decide)⟩, h.2.2⟩
              · split at hw
                · rename_i n5 n4 n8
                  cases hw
                  refine ⟨⟨fun _ => ?_, fun e => absurd e (by decide)⟩, h.2.2⟩
                  exact op2_cmp (by omega)
                · split at hw
                  · split at hw
                    · rename_i n5 n4 n8 n11 e2
                      cases hw
                      refine ⟨⟨fun _ => ?_, fun e => absurd e (by decide)⟩, h.2.2⟩
                      unfold op2 opn fX3_joined
                      have ha := h.2.1.1 e2.1
                      have hb := h.1.1 e2.2
                      rcases (show q.1 = 10 ∨ q.1 = 11 by omega) with e | e <;> rw [e] <;> rcases ha with ha | ha <;> rcases hb with hb | hb <;> rw [ha, hb] <;> decide
                    · cases hw
                  · cases hw
theorem enc0 {n : Nat} : enc (0, nI n) = nI n := rfl
theorem enc1 {n : Nat} : enc (1, nI n) = nI (10000 + n) := by
  show 10000 + nI n = _
  rw [show (10000 : Int32) = nI 10000 from rfl, nI_add]
theorem wfs0 {s s' : List Nat} {q : Nat × Int32} (h : wfs s q = some s') (e : q.1 = 0) : ∃ n, n ≤ 9999 ∧ q = (0, nI n) ∧ s.length < 40 := by
  unfold wfs at h
  rw [if_pos e] at h
  split at h
  · rename_i hh
    obtain ⟨a, b, c⟩ := hh
    obtain ⟨n, hn, e2⟩ := nI_of2 (M := 9999) (n := 9999) (by decide) (Int32.not_lt.mpr b) c
    exact ⟨n, hn, Prod.ext e e2, a⟩
  · cases h
theorem wfs1 {s s' : List Nat} {q : Nat × Int32} (h : wfs s q = some s') (e : q.1 = 1) : ∃ n, n < 9 ∧ q = (1, nI n) ∧ s.length < 40 := by
  unfold wfs at h
  rw [if_neg (by omega), if_pos e] at h
  split at h
  · rename_i hh
    obtain ⟨a, b, c⟩ := hh
    obtain ⟨n, hn, e2⟩ := nI_of (Int32.not_lt.mpr b)
    rw [e2, show (9 : Int32) = nI 9 from rfl, nI_ltI (by omega) (by omega)] at c
    exact ⟨n, c, Prod.ext e e2, a⟩
  · cases h
theorem wfs9 {s s' : List Nat} {q : Nat × Int32} (h : wfs s q = some s') (e : q.1 = 9) : ∃ t, s = 2 :: t := by
  unfold wfs at h
  rw [if_neg (by omega), if_neg (by omega)] at h
  match s, h with
  | [], h => cases h
  | b :: t, h =>
    simp only at h
    rw [if_pos e] at h
    split at h
    · rename_i hb
      exact ⟨t, by rw [hb]⟩
    · cases h
theorem wfs2 {s s' : List Nat} {q : Nat × Int32} (h : wfs s q = some s') (e0 : q.1 ≠ 0) (e1 : q.1 ≠ 1) (e9 : q.1 ≠ 9) : ∃ a b t, s = b :: a :: t ∧ q.1 ≤ 11 ∧ (q.1 = 5 → b = 1) ∧ (10 ≤ q.1 → a = 2 ∧ b = 2) := by
  unfold wfs at h
  rw [if_neg e0, if_neg e1] at h
  match s, h with
  | [], h => cases h
  | [b], h =>
    simp only at h
    rw [if_neg e9] at h
    cases h
  | b :: a :: t, h =>
    simp only at h
    rw [if_neg e9] at h
    refine ⟨a, b, t, rfl, ?_⟩
    split at h
    · split at h
      · exact ⟨by omega, fun _ => by assumption, fun _ => by omega⟩
      · cases h
    · split at h
      · exact ⟨by omega, fun _ => by omega, fun _ => by omega⟩
      · split at h
        · exact ⟨by omega, fun _ => by omega, fun _ => by omega⟩
        · split at h
          · split at h
            · exact ⟨by omega, fun _ => by omega, fun _ => by assumption⟩
            · cases h
          · cases h
theorem enc_op {q : Nat × Int32} (h : q.1 = 2 ∨ q.1 = 3 ∨ q.1 = 4 ∨ q.1 = 5 ∨ q.1 = 6 ∨ q.1 = 7 ∨ q.1 = 8 ∨ q.1 = 10 ∨ q.1 = 11) : enc q < 0 ∧ -enc q = opn q.1 ∧ ¬ enc q = -7 := by
  obtain ⟨k, v⟩ := q
  simp only at h
  rcases h with rfl | rfl | rfl | rfl | rfl | rfl | rfl | rfl | rfl
  · exact (show (-18 : Int32) < 0 ∧ -(-18 : Int32) = 18 ∧ ¬ (-18 : Int32) = -7 from by decide)
  · exact (show (-19 : Int32) < 0 ∧ -(-19 : Int32) = 19 ∧ ¬ (-19 : Int32) = -7 from by decide)
  · exact (show (-20 : Int32) < 0 ∧ -(-20 : Int32) = 20 ∧ ¬ (-20 : Int32) = -7 from by decide)
  · exact (show (-21 : Int32) < 0 ∧ -(-21 : Int32) = 21 ∧ ¬ (-21 : Int32) = -7 from by decide)
  · exact (show (-24 : Int32) < 0 ∧ -(-24 : Int32) = 24 ∧ ¬ (-24 : Int32) = -7 from by decide)
  · exact (show (-25 : Int32) < 0 ∧ -(-25 : Int32) = 25 ∧ ¬ (-25 : Int32) = -7 from by decide)
  · exact (show (-26 : Int32) < 0 ∧ -(-26 : Int32) = 26 ∧ ¬ (-26 : Int32) = -7 from by decide)
  · exact (show (-6 : Int32) < 0 ∧ -(-6 : Int32) = 6 ∧ ¬ (-6 : Int32) = -7 from by decide)
  · exact (show (-5 : Int32) < 0 ∧ -(-5 : Int32) = 5 ∧ ¬ (-5 : Int32) = -7 from by decide)
theorem wfs_len {s s' : List Nat} {q : Nat × Int32} (h : s.length ≤ 40) (hw : wfs s q = some s') : s'.length ≤ 40 := by
  by_cases h0 : q.1 = 0
  · obtain ⟨n, _, rfl, h3⟩ := wfs0 hw h0
    unfold wfs at hw
    rw [if_pos rfl] at hw
    split at hw
    · cases hw
      simp
      omega
    · cases hw
  · by_cases h1 : q.1 = 1
    · obtain ⟨n, _, rfl, h3⟩ := wfs1 hw h1
      unfold wfs at hw
      rw [if_neg h0, if_pos rfl] at hw
      split at hw
      · cases hw
        simp
        omega
      · cases hw
    · by_cases h9 : q.1 = 9
      · obtain ⟨t, rfl⟩ := wfs9 hw h9
        unfold wfs at hw
        rw [if_neg h0, if_neg h1] at hw
        simp only at hw
        rw [if_pos h9] at hw
        simp at hw
        subst hw
        exact h
      · obtain ⟨ta, tb, t, rfl, q11, q5, q10⟩ := wfs2 hw h0 h1 h9
        unfold wfs at hw
        rw [if_neg h0, if_neg h1] at hw
        simp only at hw
        rw [if_neg h9] at hw
        simp only [List.length_cons] at h
        (repeat' split at hw) <;> first | (cases hw; done) | (cases hw; simp only [List.length_cons]; omega)
theorem work_eq : ∀ (l : List (Nat × Int32)) (fuel x : Nat) (st : List Int32) (ty : List Nat) (f : Nat) (C : Mem), (∀ k q, l[k]? = some q → C 21 0 (x + k) = enc q) → wf ty l = some [f] → TyOk st ty → Stk (C 25 0) st → ty.length ≤ 40 → x + l.length ≤ 400 → l.length < fuel → ∃ C', fX3_work_6 fuel (nI (x + l.length)) (nI st.length) (nI x) C = some ((ev (C 15 0) st l).headD 0, C') ∧ ∀ k i, k ≠ 25 → C' k i = C k i := by
  intro l
  induction l with
  | nil =>
    intro fuel x st ty f C hl hw ht hs h40 h4 hf
    obtain ⟨n, rfl⟩ : ∃ n, fuel = n + 1 := ⟨fuel - 1, by simp at hf; omega⟩
    rw [fX3_work_6, List.length_nil, Nat.add_zero, if_pos (Int32.le_refl _)]
    unfold wf at hw
    cases hw
    match st, ht, hs with
    | [v], ht, hs =>
      rw [show nI [v].length = nI 1 from rfl, if_neg (by decide)]
      refine ⟨C, ?_, fun _ _ _ => rfl⟩
      show some (C 25 0 0, C) = some (v, C)
      rw [show C 25 0 0 = v from hs.1]
  | cons q l ih =>
    intro fuel x st ty f C hl hw ht hs h40 h4 hf
    simp only [List.length_cons] at h4 hf
    obtain ⟨n, rfl⟩ : ∃ n, fuel = n + 1 := ⟨fuel - 1, by omega⟩
    unfold wf at hw
    cases hws : wfs ty q with
    | none => rw [hws] at hw; cases hw
    | some ty' =>
      rw [hws] at hw
      have hw' : wf ty' l = some [f] := hw
      have ht' := ty_step (g := C 15 0) ht hws
      have h40' := wfs_len h40 hws
      have hq : C 21 0 x = enc q := hl 0 q rfl
      have hl' : ∀ (C' : Mem), C' 21 0 = C 21 0 → ∀ k q', l[k]? = some q' → C' 21 0 (x + 1 + k) = enc q' := by
        intro C' e k q' hk
        rw [e, Nat.add_assoc, Nat.add_comm 1 k]
        exact hl (k + 1) q' (by simpa using hk)
      have go : ∀ (C' : Mem), (∀ k i, k ≠ 25 → C' k i = C k i) → Stk (C' 25 0) (ev1 (C 15 0) st q) → ∃ C'', fX3_work_6 n (nI (x + (l.length + 1))) (nI (ev1 (C 15 0) st q).length) (nI (x + 1)) C' = some ((ev (C 15 0) (ev1 (C 15 0) st q) l).headD 0, C'') ∧ ∀ k i, k ≠ 25 → C'' k i = C k i := by
        intro C' e hs'
        obtain ⟨C'', e1, e2⟩ := ih n (x + 1) (ev1 (C 15 0) st q) ty' f C' (hl' C' (e 21 0 (by omega))) hw' ht' hs' h40' (by omega) (by omega)
        rw [e 15 0 (by omega)] at e1
        refine ⟨C'', ?_, fun k i hk => (e2 k i hk).trans (e k i hk)⟩
        rw [← e1]
        congr 2
        omega
      have hlen := ht.len
      rw [fX3_work_6, List.length_cons, if_neg (nI_ge (by omega) (by omega)), ix_nI (by omega) (by omega), nI_1]
      simp only [Option.bind_some]
      rw [hq]
      show ∃ C', _ = some ((ev (C 15 0) (ev1 (C 15 0) st q) l).headD 0, C') ∧ _
      by_cases h0 : q.1 = 0
      · obtain ⟨m, m1, rfl, m3⟩ := wfs0 hws h0
        rw [enc0, if_neg (nI_pos (by omega)), if_neg (show ¬ (40 : Int32) ≤ nI st.length from nI_ge (b := 40) (by omega) (by omega))]
        have ho : fX3_operand (nI m) C = some (nI m) := by
          unfold fX3_operand
          rw [if_neg]
          rw [i_le, i_sub]
          · rw [nI_toInt (by omega)]
            have t1 : (0 : Int32).toInt = 0 := by decide
            have t2 : (10000 : Int32).toInt = 10000 := by decide
            omega
          · rw [nI_toInt (by omega)]
            have t2 : (10000 : Int32).toInt = 10000 := by decide
            omega
          · rw [nI_toInt (by omega)]
            have t2 : (10000 : Int32).toInt = 10000 := by decide
            omega
        rw [ho]
        simp only [Option.bind_some]
        rw [ix_nI (by omega) (by omega), nI_1]
        exact go (up C 25 0 st.length (nI m)) (fun k i hk => by rw [upk hk]) ⟨up_at, hs.up (Nat.le_refl _)⟩
      · by_cases h1 : q.1 = 1
        · obtain ⟨m, m1, rfl, m3⟩ := wfs1 hws h1
          rw [enc1, if_neg (nI_pos (by omega)), if_neg (show ¬ (40 : Int32) ≤ nI st.length from nI_ge (b := 40) (by omega) (by omega))]
          have ho : fX3_operand (nI (10000 + m)) C = some (C 15 0 m) := by
            unfold fX3_operand
            have es : nI (10000 + m) - 10000 = nI m := by
              apply i_nI _ (by omega)
              rw [i_sub]
              · rw [nI_toInt (by omega)]
                have t2 : (10000 : Int32).toInt = 10000 := by decide
                omega
              · rw [nI_toInt (by omega)]
                have t2 : (10000 : Int32).toInt = 10000 := by decide
                omega
              · rw [nI_toInt (by omega)]
                have t2 : (10000 : Int32).toInt = 10000 := by decide
                omega
            rw [es, if_pos (nI_pos' (by omega)), if_neg (show ¬ (9 : Int32) ≤ nI m from nI_ge (b := 9) (by omega) (by omega)), ix_nI (by omega) (by omega)]
            rfl
          rw [ho]
          simp only [Option.bind_some]
          rw [ix_nI (by omega) (by omega), nI_1]
          have ee : ev1 (C 15 0) st (1, nI m) = C 15 0 m :: st := by
            unfold ev1
            rw [if_neg h0, if_pos rfl, nI_clamp (by omega)]
          rw [ee] at go ⊢
          exact go (up C 25 0 st.length (C 15 0 m)) (fun k i hk => by rw [upk hk]) ⟨up_at, hs.up (Nat.le_refl _)⟩
        · by_cases h9 : q.1 = 9
          · obtain ⟨t, rfl⟩ := wfs9 hws h9
            match st, ht, hs, hlen, go with
            | v :: st', ht, hs, hlen, go =>
              have hl2 : st'.length = t.length := ht.2.len
              simp only [List.length_cons] at hlen h40 go ⊢
              have e7 : enc q = -7 := by unfold enc; rw [h9]; rfl
              have ee : ev1 (C 15 0) (v :: st') q = (1 - v) :: st' := by
                unfold ev1
                rw [if_neg h0, if_neg h1]
                simp only
                rw [if_pos h9]
              rw [e7, if_pos (by decide), if_pos rfl, if_neg (show ¬ nI (st'.length + 1) < (1 : Int32) from nI_nlt (b := 1) (by omega) (by omega)), nI_pred, ix_nI (by omega) (by omega)]
              simp only [Option.bind_some]
              rw [show C 25 0 st'.length = v from hs.1]
              rw [ee] at go ⊢
              exact go (up C 25 0 st'.length (1 - v)) (fun k i hk => by rw [upk hk]) ⟨up_at, hs.2.up (Nat.le_refl _)⟩
          · obtain ⟨ta, tb, t, rfl, q11, q5, q10⟩ := wfs2 hws h0 h1 h9
            match st, ht, hs, hlen, go with
            | vb :: va :: st', ht, hs, hlen, go =>
              have hl2 : st'.length = t.length := ht.2.2.len
              simp only [List.length_cons] at hlen h40 go ⊢
              have ee : ev1 (C 15 0) (vb :: va :: st') q = op2 q.1 va vb :: st' := by
                unfold ev1
                rw [if_neg h0, if_neg h1]
                simp only
                rw [if_neg h9]
              obtain ⟨en, eo, e7⟩ : enc q < 0 ∧ -enc q = opn q.1 ∧ ¬ enc q = -7 := by
                exact enc_op (by omega)
              have em : nI (st'.length + 1 + 1) + (-1) = nI (st'.length + 1) := by
                rw [show nI (st'.length + 1 + 1) + (-1) = nI (st'.length + 1 + 1) - 1 from (Int32.sub_eq_add_neg ..).symm, nI_pred]
              rw [if_pos en, if_neg e7, if_neg (show ¬ nI (st'.length + 1 + 1) < (2 : Int32) from nI_nlt (b := 2) (by omega) (by omega)), em, nI_pred, ix_nI (by omega) (by omega), ix_nI (by omega) (by omega)]
              simp only [Option.bind_some]
              have ha : C 25 0 st'.length = va := hs.2.1
              have hb : C 25 0 (st'.length + 1) = vb := hs.1
              rw [ha, hb, eo]
              rw [ee] at go ⊢
              exact go (up C 25 0 st'.length (op2 q.1 va vb)) (fun k i hk => by rw [upk hk]) ⟨up_at, hs.2.2.up (Nat.le_refl _)⟩
theorem twoOf_eq {k : Nat} {a b : Int32} (h : k = 2 ∨ k = 3 ∨ k = 4 ∨ k = 5 ∨ k = 6 ∨ k = 7 ∨ k = 8 ∨ k = 10 ∨ k = 11) (h5 : k = 5 → ¬ b = 0) (h10 : 10 ≤ k → (a = 0 ∨ a = 1) ∧ (b = 0 ∨ b = 1)) : fX12_twoOf (nI k) a b = some (op2 k a b) := by
  rcases h with rfl | rfl | rfl | rfl | rfl | rfl | rfl | rfl | rfl
  · rfl
  · rfl
  · rfl
  · show (if b = 0 then none else some (a / b)) = some (if b = 0 then 0 else a / b)
    rw [if_neg (h5 rfl), if_neg (h5 rfl)]
  · show (if b ≤ a then some (0 : Int32) else some 1) = some (if b ≤ a then (0 : Int32) else 1)
    split <;> rfl
  · show (if a = b then some (1 : Int32) else some 0) = some (if a = b then (1 : Int32) else 0)
    split <;> rfl
  · show (if a ≤ b then some (0 : Int32) else some 1) = some (if a ≤ b then (0 : Int32) else 1)
    split <;> rfl
  · show some (a * b) = some (a &&& b)
    obtain ⟨ha, hb⟩ := h10 (by omega)
    rcases ha with rfl | rfl <;> rcases hb with rfl | rfl <;> decide
  · show (if a + b ≤ 0 then some (0 : Int32) else some 1) = some (a ||| b)
    obtain ⟨ha, hb⟩ := h10 (by omega)
    rcases ha with rfl | rfl <;> rcases hb with rfl | rfl <;> decide
theorem runs_eq : ∀ (l : List (Nat × Int32)) (fuel x : Nat) (st : List Int32) (ty : List Nat) (f : Nat) (M : Mem), (∀ k q, l[k]? = some q → M 78 0 (x + k) = nI q.1 ∧ M 79 0 (x + k) = q.2) → wf ty l = some [f] → TyOk st ty → Stk (M 82 0) st → ty.length ≤ 40 → x + l.length ≤ 400 → l.length < fuel → ∃ M', fX12_runs_5 fuel (nI (x + l.length)) (nI st.length) (nI x) M = some ((ev (M 81 0) st l).headD 0, M') ∧ ∀ k i, k ≠ 82 → M' k i = M k i := by
  intro l
  induction l with
  | nil =>
    intro fuel x st ty f M hl hw ht hs h40 h4 hf
    obtain ⟨n, rfl⟩ : ∃ n, fuel = n + 1 := ⟨fuel - 1, by simp at hf; omega⟩
    rw [fX12_runs_5, List.length_nil, Nat.add_zero, if_pos (Int32.le_refl _)]
    unfold wf at hw
    cases hw
    match st, ht, hs with
    | [v], ht, hs =>
      refine ⟨M, ?_, fun _ _ _ => rfl⟩
      show some (M 82 0 0, M) = some (v, M)
      rw [show M 82 0 0 = v from hs.1]
  | cons q l ih =>
    intro fuel x st ty f M hl hw ht hs h40 h4 hf
    simp only [List.length_cons] at h4 hf
    obtain ⟨n, rfl⟩ : ∃ n, fuel = n + 1 := ⟨fuel - 1, by omega⟩
    unfold wf at hw
    cases hws : wfs ty q with
    | none => rw [hws] at hw; cases hw
    | some ty' =>
      rw [hws] at hw
      have hw' : wf ty' l = some [f] := hw
      have ht' := ty_step (g := M 81 0) ht hws
      have h40' := wfs_len h40 hws
      have hq : M 78 0 x = nI q.1 ∧ M 79 0 x = q.2 := hl 0 q rfl
      have hl' : ∀ (M' : Mem), M' 78 0 = M 78 0 → M' 79 0 = M 79 0 → ∀ k q', l[k]? = some q' → M' 78 0 (x + 1 + k) = nI q'.1 ∧ M' 79 0 (x + 1 + k) = q'.2 := by
        intro M' e e' k q' hk
        rw [e, e', Nat.add_assoc, Nat.add_comm 1 k]
        exact hl (k + 1) q' (by simpa using hk)
      have go : ∀ (M' : Mem), (∀ k i, k ≠ 82 → M' k i = M k i) → Stk (M' 82 0) (ev1 (M 81 0) st q) → ∃ M'', fX12_runs_5 n (nI (x + (l.length + 1))) (nI (ev1 (M 81 0) st q).length) (nI (x + 1)) M' = some ((ev (M 81 0) (ev1 (M 81 0) st q) l).headD 0, M'') ∧ ∀ k i, k ≠ 82 → M'' k i = M k i := by
        intro M' e hs'
        obtain ⟨M'', e1, e2⟩ := ih n (x + 1) (ev1 (M 81 0) st q) ty' f M' (hl' M' (e 78 0 (by omega)) (e 79 0 (by omega))) hw' ht' hs' h40' (by omega) (by omega)
        rw [e 81 0 (by omega)] at e1
        refine ⟨M'', ?_, fun k i hk => (e2 k i hk).trans (e k i hk)⟩
        rw [← e1]
        congr 2
        omega
      have hlen := ht.len
      rw [fX12_runs_5, List.length_cons, if_neg (nI_ge (by omega) (by omega)), ix_nI (by omega) (by omega), nI_1]
      simp only [Option.bind_some]
      rw [hq.1, hq.2]
      show ∃ M', _ = some ((ev (M 81 0) (ev1 (M 81 0) st q) l).headD 0, M') ∧ _
      by_cases h0 : q.1 = 0
      · obtain ⟨m, m1, rfl, m3⟩ := wfs0 hws h0
        rw [if_pos (show nI (0, nI m).1 = 0 from rfl), ix_nI (by omega) (by omega), nI_1]
        exact go (up M 82 0 st.length (nI m)) (fun k i hk => by rw [upk hk]) ⟨up_at, hs.up (Nat.le_refl _)⟩
      · by_cases h1 : q.1 = 1
        · obtain ⟨m, m1, rfl, m3⟩ := wfs1 hws h1
          rw [if_neg (show ¬ nI 1 = 0 by decide), if_pos (show nI 1 = 1 from rfl), ix_nI (by omega) (by omega), ix_nI (by omega) (by omega), nI_1]
          simp only [Option.bind_some]
          have ee : ev1 (M 81 0) st (1, nI m) = M 81 0 m :: st := by
            unfold ev1
            rw [if_neg h0, if_pos rfl, nI_clamp (by omega)]
          rw [ee] at go ⊢
          exact go (up M 82 0 st.length (M 81 0 m)) (fun k i hk => by rw [upk hk]) ⟨up_at, hs.up (Nat.le_refl _)⟩
        · by_cases h9 : q.1 = 9
          · obtain ⟨t, rfl⟩ := wfs9 hws h9
            match st, ht, hs, hlen, go with
            | v :: st', ht, hs, hlen, go =>
              have hl2 : st'.length = t.length := ht.2.len
              simp only [List.length_cons] at hlen h40 go ⊢
              have ee : ev1 (M 81 0) (v :: st') q = (1 - v) :: st' := by
                unfold ev1
                rw [if_neg h0, if_neg h1]
                simp only
                rw [if_pos h9]
              rw [h9, if_neg (show ¬ nI 9 = 0 by decide), if_neg (show ¬ nI 9 = 1 by decide), if_pos (show nI 9 = 9 from rfl), nI_pred, ix_nI (by omega) (by omega)]
              simp only [Option.bind_some]
              rw [show M 82 0 st'.length = v from hs.1, show nI x + 1 = nI (x + 1) from nI_1 ..]
              rw [ee] at go ⊢
              exact go (up M 82 0 st'.length (1 - v)) (fun k i hk => by rw [upk hk]) ⟨up_at, hs.2.up (Nat.le_refl _)⟩
          · obtain ⟨ta, tb, t, rfl, q11, q5, q10⟩ := wfs2 hws h0 h1 h9
            match st, ht, hs, hlen, go with
            | vb :: va :: st', ht, hs, hlen, go =>
              have hl2 : st'.length = t.length := ht.2.2.len
              simp only [List.length_cons] at hlen h40 go ⊢
              have ee : ev1 (M 81 0) (vb :: va :: st') q = op2 q.1 va vb :: st' := by
                unfold ev1
                rw [if_neg h0, if_neg h1]
                simp only
                rw [if_neg h9]
              have z0 : ¬ nI q.1 = 0 := fun e => h0 ((nI_eq (by omega) (by omega)).mp (show nI q.1 = nI 0 from e))
              have z1 : ¬ nI q.1 = 1 := fun e => h1 ((nI_eq (by omega) (by omega)).mp (show nI q.1 = nI 1 from e))
              have z9 : ¬ nI q.1 = 9 := fun e => h9 ((nI_eq (by omega) (by omega)).mp (show nI q.1 = nI 9 from e))
              rw [if_neg z0, if_neg z1, if_neg z9, nI_pred, nI_pred, ix_nI (by omega) (by omega), ix_nI (by omega) (by omega)]
              simp only [Option.bind_some]
              have ha : M 82 0 st'.length = va := hs.2.1
              have hb : M 82 0 (st'.length + 1) = vb := hs.1
              rw [show nI x + 1 = nI (x + 1) from nI_1 .., ha, hb, twoOf_eq (by omega) (fun e => ht.1.2 (q5 e)) (fun e => ⟨ht.2.1.1 (q10 e).1, ht.1.1 (q10 e).2⟩)]
              rw [ee] at go ⊢
              exact go (up M 82 0 st'.length (op2 q.1 va vb)) (fun k i hk => by rw [upk hk]) ⟨up_at, hs.2.2.up (Nat.le_refl _)⟩
noncomputable def EV (g : Nat → Int32) (cd : List (Nat × Int32)) (a b : Nat) : Int32 := (ev g [] (seg cd a b)).headD 0
theorem seg_len {cd : List (Nat × Int32)} {a b : Nat} (h : a ≤ b) (hb : b ≤ cd.length) : a + (seg cd a b).length = b := by
  unfold seg
  simp
  omega
theorem seg_get {cd : List (Nat × Int32)} {a b k : Nat} {q : Nat × Int32} (h : (seg cd a b)[k]? = some q) : cd[a + k]? = some q := by
  unfold seg at h
  rw [List.getElem?_take] at h
  split at h
  · rw [List.getElem?_drop] at h
    exact h
  · cases h
theorem work_seg {C M : Mem} {cd : List (Nat × Int32)} {ls : List (Nat × Nat × Nat)} (h : LwR' C M cd ls) {a b : Nat} (hab : a ≤ b) (hb : b ≤ cd.length) (hw : wseg cd a b) : ∃ C', fX3_work (nI a) (nI b) C = some (EV (C 15 0) cd a b, C') ∧ ∀ k i, k ≠ 25 → C' k i = C k i := by
  obtain ⟨f, hw⟩ := hw
  have h2 := work_eq (seg cd a b) 5000 a [] [] f C (fun k q hk => (h.2.2.2.2.1 (a + k) q (seg_get hk)).1) hw True.intro True.intro (by simp) (by rw [seg_len hab hb]; have := h.1; omega) (by have := seg_len hab hb; have := h.1; omega)
  rw [seg_len hab hb] at h2
  exact h2
theorem runs_seg {C M : Mem} {cd : List (Nat × Int32)} {ls : List (Nat × Nat × Nat)} (h : LwR' C M cd ls) {a b : Nat} (hab : a ≤ b) (hb : b ≤ cd.length) (hw : wseg cd a b) : ∃ M', fX12_runs (nI a) (nI b) M = some (EV (M 81 0) cd a b, M') ∧ ∀ k i, k ≠ 82 → M' k i = M k i := by
  obtain ⟨f, hw⟩ := hw
  have h2 := runs_eq (seg cd a b) 5000 a [] [] f M (fun k q hk => (h.2.2.2.2.1 (a + k) q (seg_get hk)).2) hw True.intro True.intro (by simp) (by rw [seg_len hab hb]; have := h.1; omega) (by have := seg_len hab hb; have := h.1; omega)
  rw [seg_len hab hb] at h2
  exact h2
/-- the age by the first line that holds -/
noncomputable def agL (g : Nat → Int32) (cd : List (Nat × Int32)) : List (Nat × Nat × Nat) → Int32
  | [] => g 0
  | q :: t => if q.2.1 = q.2.2 ∨ ¬ EV g cd q.2.1 q.2.2 = 0 then EV g cd q.1 q.2.1 else agL g cd t
theorem ageBy_eq {M : Mem} {cd : List (Nat × Int32)} {ls : List (Nat × Nat × Nat)} : ∀ (fuel l : Nat) (C : Mem), LwR' C M cd ls → l ≤ ls.length → ls.length - l < fuel → ∃ C', fX3_ageBy_2 fuel (nI l) C = some (fX3_held (agL (C 15 0) cd (ls.drop l)), C') ∧ ∀ k i, k ≠ 25 → C' k i = C k i := by
  intro fuel
  induction fuel with
  | zero => intro l C _ _ h; omega
  | succ fuel ih =>
    intro l C hL h1 h2
    have hl := hL
    obtain ⟨l4, l16, cl, ml, hcd, hls⟩ := hl
    rw [fX3_ageBy_2, cl]
    by_cases e : l = ls.length
    · subst e
      rw [if_pos (Int32.le_refl _), List.drop_length]
      exact ⟨C, rfl, fun _ _ _ => rfl⟩
    · have hlt : l < ls.length := by omega
      obtain ⟨q, hq⟩ : ∃ q, ls[l]? = some q := ⟨ls[l], List.getElem?_eq_getElem hlt⟩
      obtain ⟨a, e, z⟩ := q
      obtain ⟨c1, c2, c3, -, -, -, o1, o2, o3, w1, w2⟩ := hls l _ hq
      simp only at c1 c2 c3 o1 o2 o3 w1 w2
      have hd : ls.drop l = (a, e, z) :: ls.drop (l + 1) := by
        rw [List.drop_eq_getElem_cons hlt]
        have := List.getElem?_eq_getElem hlt
        rw [hq] at this
        rw [← Option.some.inj this]
      rw [if_neg (nI_ge (by omega) (by omega)), ix_nI (by omega) (by omega), hd]
      simp only [Option.bind_some]
      rw [c2, c3]
      have yes : ∀ C1 : Mem, (∀ k i, k ≠ 25 → C1 k i = C k i) → ∃ C', fX3_ageBy_55 (nI l) C1 = some (fX3_held (EV (C 15 0) cd a e), C') ∧ ∀ k i, k ≠ 25 → C' k i = C k i := by
        intro C1 h1
        have hL1 : LwR' C1 M cd ls := hL.cg (by rw [h1 3 0 (by omega)]) (h1 21 0 (by omega)) (h1 22 0 (by omega)) (h1 23 0 (by omega)) (h1 24 0 (by omega)) rfl rfl rfl rfl rfl rfl
        obtain ⟨C', e1, e2⟩ := work_seg hL1 o1 (by omega) w1
        unfold fX3_ageBy_55
        rw [ix_nI (by omega) (by omega), h1 22 0 (by omega), h1 23 0 (by omega)]
        simp only [Option.bind_some]
        rw [c1, c2, e1, h1 15 0 (by omega)]
        exact ⟨C', rfl, fun k i hk => (e2 k i hk).trans (h1 k i hk)⟩
      show ∃ C', _ = some (fX3_held (if e = z ∨ ¬ EV (C 15 0) cd e z = 0 then EV (C 15 0) cd a e else agL (C 15 0) cd (ls.drop (l + 1))), C') ∧ _
      rw [ifEq (by omega) (by omega)]
      by_cases ez : e = z
      · rw [if_pos ez, if_pos (Or.inl ez)]
        exact yes C (fun _ _ _ => rfl)
      · rw [if_neg ez]
        obtain ⟨C1, e1, e2⟩ := work_seg hL o2 o3 (w2.resolve_left ez)
        rw [e1]
        show ∃ C', (if EV (C 15 0) cd e z = 0 then fX3_ageBy_2 fuel (nI l + 1) C1 else fX3_ageBy_55 (nI l) C1) = _ ∧ _
        by_cases ev0 : EV (C 15 0) cd e z = 0
        · have hL1 : LwR' C1 M cd ls := hL.cg (by rw [e2 3 0 (by omega)]) (e2 21 0 (by omega)) (e2 22 0 (by omega)) (e2 23 0 (by omega)) (e2 24 0 (by omega)) rfl rfl rfl rfl rfl rfl
          rw [if_pos ev0, if_neg (fun q => q.elim ez (fun q => q ev0)), nI_1]
          obtain ⟨C', f1, f2⟩ := ih (l + 1) C1 hL1 (by omega) (by omega)
          rw [f1, e2 15 0 (by omega)]
          exact ⟨C', rfl, fun k i hk => (f2 k i hk).trans (e2 k i hk)⟩
        · rw [if_neg ev0, if_pos (Or.inr ev0)]
          exact yes C1 e2
/-- the reference goes from the last line to the first -/
theorem agM_eq {C : Mem} {cd : List (Nat × Int32)} {ls : List (Nat × Nat × Nat)} : ∀ (l fuel : Nat) (M : Mem) (x : Int32), LwR' C M cd ls → l ≤ ls.length → l < fuel → x = agL (M 81 0) cd (ls.drop l) → ∃ M', fX12_ageOf_178 fuel x (nI l - 1) M = some (fX3_held (agL (M 81 0) cd ls), M') ∧ ∀ k i, k ≠ 82 → M' k i = M k i := by
  intro l
  induction l with
  | zero =>
    intro fuel M x hL h1 h2 hx
    obtain ⟨n, rfl⟩ : ∃ n, fuel = n + 1 := ⟨fuel - 1, by omega⟩
    rw [fX12_ageOf_178, if_pos (by decide)]
    rw [List.drop_zero] at hx
    rw [← hx]
    refine ⟨M, ?_, fun _ _ _ => rfl⟩
    unfold fX3_held
    rcases Decidable.em (0 ≤ x) with a | a
    · rw [if_pos a]
      rcases Decidable.em (x ≤ 999) with b | b
      · rw [if_pos b]
        rcases Decidable.em (x < 999) with c | c
        · rw [if_pos c]
          rcases Decidable.em (0 < x) with d | d
          · rw [if_pos d]
          · rw [if_neg d, Int32.le_antisymm (Int32.not_lt.mp d) a]
        · have : x = 999 := Int32.le_antisymm b (Int32.not_lt.mp c)
          rw [this]
          rfl
      · rw [if_neg b, if_neg (fun q => b (Int32.le_of_lt q))]
        rfl
    · rw [if_neg a]
      have hx : x < 999 := Int32.lt_trans (Int32.not_le.mp a) (by decide)
      rw [if_pos hx, if_neg (fun q => a (Int32.le_of_lt q))]
  | succ l ih =>
    intro fuel M x hL h1 h2 hx
    obtain ⟨n, rfl⟩ : ∃ n, fuel = n + 1 := ⟨fuel - 1, by omega⟩
    have hl := hL
    obtain ⟨l4, l16, cl, ml, hcd, hls⟩ := hl
    have hlt : l < ls.length := by omega
    obtain ⟨q, hq⟩ : ∃ q, ls[l]? = some q := ⟨ls[l], List.getElem?_eq_getElem hlt⟩
    obtain ⟨a, e, z⟩ := q
    obtain ⟨-, -, -, c1, c2, c3, o1, o2, o3, w1, w2⟩ := hls l _ hq
    simp only at c1 c2 c3 o1 o2 o3 w1 w2
    have hd : ls.drop l = (a, e, z) :: ls.drop (l + 1) := by
      rw [List.drop_eq_getElem_cons hlt]
      have := List.getElem?_eq_getElem hlt
      rw [hq] at this
      rw [← Option.some.inj this]
    have hm1 : nI l + (-1) = nI l - 1 := (Int32.sub_eq_add_neg ..).symm
    rw [fX12_ageOf_178, nI_pred, if_neg (nI_pos (by omega)), hm1]
    have hag : agL (M 81 0) cd (ls.drop l) = if e = z ∨ ¬ EV (M 81 0) cd e z = 0 then EV (M 81 0) cd a e else x := by
      rw [hd, hx]
      rfl
    have yes : ∀ M1 : Mem, (∀ k i, k ≠ 82 → M1 k i = M k i) → agL (M 81 0) cd (ls.drop l) = EV (M 81 0) cd a e → ∃ M', ((ix (nI l) 32).bind fun j23 => bd (fX12_runs (M1 76 0 j23) (M1 75 0 j23) M1) fun r27 S26 => fX12_ageOf_178 n r27 (nI l - 1) S26) = some (fX3_held (agL (M 81 0) cd ls), M') ∧ ∀ k i, k ≠ 82 → M' k i = M k i := by
      intro M1 h1 hg
      have hL1 : LwR' C M1 cd ls := hL.cg rfl rfl rfl rfl rfl (by rw [h1 12 0 (by omega)]) (h1 78 0 (by omega)) (h1 79 0 (by omega)) (h1 75 0 (by omega)) (h1 76 0 (by omega)) (h1 77 0 (by omega))
      obtain ⟨M2, e1, e2⟩ := runs_seg hL1 o1 (by omega) w1
      rw [ix_nI (by omega) (by omega), h1 76 0 (by omega), h1 75 0 (by omega)]
      simp only [Option.bind_some]
      rw [c1, c2, e1, h1 81 0 (by omega), ← hg]
      have h3 : ∀ k i, k ≠ 82 → M2 k i = M k i := fun k i hk => (e2 k i hk).trans (h1 k i hk)
      have hL2 : LwR' C M2 cd ls := hL.cg rfl rfl rfl rfl rfl (by rw [h3 12 0 (by omega)]) (h3 78 0 (by omega)) (h3 79 0 (by omega)) (h3 75 0 (by omega)) (h3 76 0 (by omega)) (h3 77 0 (by omega))
      obtain ⟨M', f1, f2⟩ := ih n M2 (agL (M 81 0) cd (ls.drop l)) hL2 (by omega) (by omega) (by rw [h3 81 0 (by omega)])
      rw [h3 81 0 (by omega)] at f1
      exact ⟨M', f1, fun k i hk => (f2 k i hk).trans (h3 k i hk)⟩
    unfold fX12_isSo
    rw [ix_nI (by omega) (by omega)]
    simp only [Option.bind_some]
    rw [c2, c3, ifEq (by omega) (by omega)]
    by_cases ez : e = z
    · rw [if_pos ez]
      rw [if_pos (Or.inl ez)] at hag
      have := yes M (fun _ _ _ => rfl) hag
      rw [ix_nI (by omega) (by omega)] at this
      exact this
    · rw [if_neg ez]
      obtain ⟨M1, e1, e2⟩ := runs_seg hL o2 o3 (w2.resolve_left ez)
      rw [e1]
      by_cases ev0 : EV (M 81 0) cd e z = 0
      · rw [if_neg (fun q => q.elim ez (fun q => q ev0))] at hag
        have hL1 : LwR' C M1 cd ls := hL.cg rfl rfl rfl rfl rfl (by rw [e2 12 0 (by omega)]) (e2 78 0 (by omega)) (e2 79 0 (by omega)) (e2 75 0 (by omega)) (e2 76 0 (by omega)) (e2 77 0 (by omega))
        obtain ⟨M', f1, f2⟩ := ih n M1 x hL1 (by omega) (by omega) (by rw [e2 81 0 (by omega), hag])
        rw [e2 81 0 (by omega)] at f1
        refine ⟨M', ?_, fun k i hk => (f2 k i hk).trans (e2 k i hk)⟩
        rw [← f1]
        show bd (if EV (M 81 0) cd e z = 0 then some (0, M1) else some (1, M1)) _ = _
        rw [if_pos ev0]
        rfl
      · rw [if_pos (Or.inr ev0)] at hag
        have := yes M1 e2 hag
        rw [ix_nI (by omega) (by omega)] at this
        obtain ⟨M', f1, f2⟩ := this
        refine ⟨M', ?_, f2⟩
        rw [← f1]
        show bd (if EV (M 81 0) cd e z = 0 then some (0, M1) else some (1, M1)) _ = _
        rw [if_neg ev0]
        rfl
