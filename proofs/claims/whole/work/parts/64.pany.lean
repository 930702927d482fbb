/-! ===== PURE: what waits between comparisons ===== -/
def sgp (p : Nat) : Nat := if p = 9 then 7 else if p = 10 then 6 else if p = 11 then 5 else 22
def hdp : List Nat → Nat
  | [] => 12
  | p :: _ => p
def Pok : List Nat → Prop
  | [] => True
  | p :: t => (p = 9 ∨ p = 12 ∨ (p = 10 ∧ (hdp t = 11 ∨ hdp t = 12)) ∨ (p = 11 ∧ hdp t = 12)) ∧ Pok t
def opq (pd : List Nat) : Nat := cntL 9 pd + cntL 12 pd
def jn : List Nat → Nat
  | [] => 0
  | p :: t => (if p = 10 ∨ p = 11 then 1 else 0) + jn t
theorem jn_le : ∀ (pd : List Nat), jn pd ≤ pd.length
  | [] => Nat.le_refl _
  | p :: t => by
    have := jn_le t
    simp only [jn, List.length_cons]
    split <;> omega
theorem opq_c (p : Nat) (t : List Nat) : opq (p :: t) = (if p = 9 then 1 else 0) + (if p = 12 then 1 else 0) + opq t := by
  simp only [opq, cntL]
  omega
theorem Pok.len : ∀ {pd : List Nat}, Pok pd → pd.length ≤ 3 * opq pd + 2 ∧ (hdp pd = 12 → pd.length ≤ 3 * opq pd) ∧ (hdp pd = 11 → pd.length ≤ 3 * opq pd + 1)
  | [], _ => ⟨Nat.zero_le _, fun _ => Nat.zero_le _, fun _ => Nat.zero_le _⟩
  | p :: t, h => by
    obtain ⟨h1, h2⟩ := h
    obtain ⟨a, b, c⟩ := Pok.len h2
    rw [opq_c, List.length_cons, show hdp (p :: t) = p from rfl]
    rcases h1 with rfl | rfl | ⟨rfl, q⟩ | ⟨rfl, q⟩
    · simp; omega
    · simp; omega
    · simp; omega
    · simp; omega
theorem Pok.mem : ∀ {pd : List Nat}, Pok pd → ∀ p, p ∈ pd → p = 9 ∨ p = 10 ∨ p = 11 ∨ p = 12
  | [], _, p, h => by cases h
  | q :: t, h, p, hp => by
    rcases List.mem_cons.mp hp with e | e
    · have := h.1; omega
    · exact Pok.mem h.2 p e
theorem Pok.v {pd : List Nat} (h : Pok pd) : ∀ s, s ∈ pd.map sgp → VSg s := by
  intro s hs
  obtain ⟨p, p1, p2⟩ := List.mem_map.mp hs
  rcases h.mem p p1 with rfl | rfl | rfl | rfl <;> rw [← p2] <;> unfold VSg sgp <;> simp
theorem cnt_map : ∀ {pd : List Nat}, Pok pd → cntL 22 (pd.map sgp) = cntL 12 pd ∧ cntL 7 (pd.map sgp) = cntL 9 pd
  | [], _ => ⟨rfl, rfl⟩
  | p :: t, h => by
    obtain ⟨a, b⟩ := cnt_map h.2
    simp only [List.map_cons, cntL, a, b]
    rcases h.1 with rfl | rfl | ⟨rfl, q⟩ | ⟨rfl, q⟩ <;> simp [sgp]
theorem cnt_rls {β : Nat} (hβ : 1 ≤ β) : ∀ {cd : List (Nat × Int32)} {sg : List Nat}, cntL 22 (rls β cd sg).2 = cntL 22 sg
  | cd, [] => rfl
  | cd, s :: t => by
    by_cases e : bnd s < β
    · rw [rls_id e]
    · rw [rls_no e, cnt_rls hβ]
      simp only [cntL]
      rw [if_neg (fun z => e (by rw [z]; show 0 < β; omega))]
      omega
theorem Hd.map {β : Nat} : ∀ {pd : List Nat}, bnd (sgp (hdp pd)) < β → Hd β (pd.map sgp)
  | [], _ => True.intro
  | p :: t, h => h
/-! what is settled -/
def stl (k : Nat) : List (Nat × Int32) → List Nat → List (Nat × Int32) × List Nat
  | cd, [] => (cd, [])
  | cd, p :: t => if p = k then stl k (cd ++ [(k, 0)]) t else (cd, p :: t)
theorem stl_id {k : Nat} {cd : List (Nat × Int32)} : ∀ {pd : List Nat}, hdp pd ≠ k → stl k cd pd = (cd, pd)
  | [], _ => rfl
  | p :: t, h => by rw [stl, if_neg (show ¬ p = k from h)]
theorem stl_c {k : Nat} {cd : List (Nat × Int32)} {t : List Nat} : stl k cd (k :: t) = stl k (cd ++ [(k, 0)]) t := by rw [stl, if_pos rfl]
theorem stl_len {k : Nat} : ∀ {cd : List (Nat × Int32)} {pd : List Nat}, (stl k cd pd).1.length + (stl k cd pd).2.length = cd.length + pd.length
  | cd, [] => rfl
  | cd, p :: t => by
    by_cases e : p = k
    · rw [stl, if_pos e, stl_len]
      simp
      omega
    · rw [stl, if_neg e]
theorem ty_join {l : List (Nat × Int32)} {m o : Nat} (h : wf [] l = some (List.replicate (m + 2) 2)) (ho : o = 10 ∨ o = 11) : wf [] (l ++ [(o, 0)]) = some (List.replicate (m + 1) 2) := by
  rw [wf_app, h, bindS, wf_one, List.replicate_succ, List.replicate_succ]
  unfold wfs
  rcases ho with rfl | rfl <;> simp
theorem ty_not {l : List (Nat × Int32)} {m : Nat} (h : wf [] l = some (List.replicate (m + 1) 2)) : wf [] (l ++ [(9, 0)]) = some (List.replicate (m + 1) 2) := by
  rw [wf_app, h, bindS, wf_one, List.replicate_succ]
  unfold wfs
  simp
def Stt (k : Nat) (cd : List (Nat × Int32)) (pd : List Nat) : Prop := Pok (stl k cd pd).2 ∧ opq (stl k cd pd).2 ≤ opq pd ∧ cntL 12 (stl k cd pd).2 = cntL 12 pd ∧ ∀ cd0 l, cd = cd0 ++ l → wf [] l = some (List.replicate (jn pd + 1) 2) → ∃ l', (stl k cd pd).1 = cd0 ++ l' ∧ wf [] l' = some (List.replicate (jn (stl k cd pd).2 + 1) 2)
theorem Stt.id {k : Nat} {cd : List (Nat × Int32)} {pd : List Nat} (h : Pok pd) (hk : hdp pd ≠ k) : Stt k cd pd := by
  unfold Stt
  rw [stl_id hk]
  exact ⟨h, Nat.le_refl _, rfl, fun cd0 l h1 h2 => ⟨l, h1, h2⟩⟩
theorem set10 {cd : List (Nat × Int32)} {pd : List Nat} (h : Pok pd) (h9 : hdp pd ≠ 9) : rls 2 cd (pd.map sgp) = ((stl 10 cd pd).1, (stl 10 cd pd).2.map sgp) ∧ (hdp (stl 10 cd pd).2 = 11 ∨ hdp (stl 10 cd pd).2 = 12) ∧ Stt 10 cd pd := by
  cases pd with
  | nil => exact ⟨rfl, Or.inr rfl, Stt.id h (by decide)⟩
  | cons p t =>
    rcases h.1 with rfl | rfl | ⟨rfl, q⟩ | ⟨rfl, q⟩
    · exact absurd rfl h9
    · rw [stl_id (show hdp (12 :: t) ≠ 10 by show 12 ≠ 10; decide)]
      exact ⟨rls_hd (Hd.map (by show (0 : Nat) < 2; decide)), Or.inr rfl, Stt.id h (by show 12 ≠ 10; decide)⟩
    · have e : stl 10 cd (10 :: t) = (cd ++ [(10, 0)], t) := by rw [stl_c, stl_id (by omega)]
      refine ⟨?_, by rw [e]; exact q, ?_⟩
      · rw [e, List.map_cons, rls_no (show ¬ bnd (sgp 10) < 2 by decide)]
        exact rls_hd (Hd.map (by rcases q with q | q <;> rw [q] <;> decide))
      · unfold Stt
        rw [e]
        refine ⟨h.2, by rw [opq_c]; simp, by simp [cntL], fun cd0 l h1 h2 => ⟨l ++ [(10, 0)], by rw [h1]; simp, ty_join (m := jn t) ?_ (Or.inl rfl)⟩⟩
        rw [h2]
        rw [show jn (10 :: t) + 1 = jn t + 2 by simp [jn]; omega]
    · rw [stl_id (show hdp (11 :: t) ≠ 10 by show 11 ≠ 10; decide)]
      exact ⟨rls_hd (Hd.map (by show (1 : Nat) < 2; decide)), Or.inl rfl, Stt.id h (by show 11 ≠ 10; decide)⟩
theorem set11 {cd : List (Nat × Int32)} {pd : List Nat} (h : Pok pd) (h9 : hdp pd = 11 ∨ hdp pd = 12) : rls 1 cd (pd.map sgp) = ((stl 11 cd pd).1, (stl 11 cd pd).2.map sgp) ∧ hdp (stl 11 cd pd).2 = 12 ∧ Stt 11 cd pd := by
  cases pd with
  | nil => exact ⟨rfl, rfl, Stt.id h (by decide)⟩
  | cons p t =>
    have hp : p = 11 ∨ p = 12 := h9
    rcases h.1 with rfl | rfl | ⟨rfl, q⟩ | ⟨rfl, q⟩
    · omega
    · rw [stl_id (show hdp (12 :: t) ≠ 11 by show 12 ≠ 11; decide)]
      exact ⟨rls_hd (Hd.map (by show (0 : Nat) < 1; decide)), rfl, Stt.id h (by show 12 ≠ 11; decide)⟩
    · omega
    · have e : stl 11 cd (11 :: t) = (cd ++ [(11, 0)], t) := by rw [stl_c, stl_id (by omega)]
      refine ⟨?_, by rw [e]; exact q, ?_⟩
      · rw [e, List.map_cons, rls_no (show ¬ bnd (sgp 11) < 1 by decide)]
        exact rls_hd (Hd.map (by rw [q]; decide))
      · unfold Stt
        rw [e]
        refine ⟨h.2, by rw [opq_c]; simp, by simp [cntL], fun cd0 l h1 h2 => ⟨l ++ [(11, 0)], by rw [h1]; simp, ty_join (m := jn t) ?_ (Or.inr rfl)⟩⟩
        rw [h2]
        rw [show jn (11 :: t) + 1 = jn t + 2 by simp [jn]; omega]
theorem set9 : ∀ {pd : List Nat} {cd : List (Nat × Int32)}, Pok pd → rls 3 cd (pd.map sgp) = ((stl 9 cd pd).1, (stl 9 cd pd).2.map sgp) ∧ hdp (stl 9 cd pd).2 ≠ 9 ∧ Stt 9 cd pd
  | [], cd, h => ⟨rfl, by show (12 : Nat) ≠ 9; decide, Stt.id h (by decide)⟩
  | p :: t, cd, h => by
    by_cases e : p = 9
    · subst e
      obtain ⟨a, b, c, d, f, g⟩ := set9 (pd := t) (cd := cd ++ [(9, 0)]) h.2
      refine ⟨?_, by rw [stl_c]; exact b, ?_⟩
      · rw [stl_c, List.map_cons, rls_no (show ¬ bnd (sgp 9) < 3 by decide)]
        exact a
      · unfold Stt
        rw [stl_c]
        refine ⟨c, by rw [opq_c]; omega, by rw [f]; simp [cntL], fun cd0 l h1 h2 => g cd0 (l ++ [(9, 0)]) (by rw [h1]; simp) ?_⟩
        have : jn (9 :: t) = jn t := by simp [jn]
        rw [this] at h2
        exact ty_not h2
    · have e' : hdp (p :: t) ≠ 9 := e
      rw [stl_id e']
      refine ⟨rls_hd (Hd.map ?_), e', Stt.id h e'⟩
      rw [show hdp (p :: t) = p from rfl]
      rcases h.1 with rfl | rfl | ⟨rfl, q⟩ | ⟨rfl, q⟩
      · exact absurd rfl e
      all_goals decide
/-! the reference's side -/
def frB (M M' : Mem) : Prop := ∀ k i j, ¬ (i = 0 ∧ k = 12 ∧ ((22 ≤ j ∧ j ≤ 25) ∨ j = 33 ∨ j = 34 ∨ (36 ≤ j ∧ j ≤ 38))) → ¬ (i = 0 ∧ k = 80) → ¬ (i = 0 ∧ (k = 78 ∨ k = 79) ∧ 400 ≤ j) → M' k i j = M k i j
theorem frB.rf {M : Mem} : frB M M := fun _ _ _ _ _ _ => rfl
theorem frB.tr {A B D : Mem} (h : frB A B) (h2 : frB B D) : frB A D := fun k i j q1 q2 q3 => (h2 k i j q1 q2 q3).trans (h k i j q1 q2 q3)
theorem frA.b {M M' : Mem} (h : frA M M') : frB M M' := fun k i j q1 q2 q3 => h k i j (by omega) (by omega)
theorem frQ.b {M0 M M' : Mem} (h : frQ M0 M) (h2 : frB M M') : frQ M0 M' := fun k i j q1 q2 q3 q4 => by rw [h2 k i j (by omega) (by omega) (by omega), h k i j q1 q2 q3 q4]
theorem frB.u {M : Mem} {k j : Nat} {v : Int32} (h : (k = 12 ∧ (j = 34 ∨ j = 36)) ∨ k = 80) : frB M (up M k 0 j v) := fun k' i j' q1 q2 q3 => by
  simp only [up]
  rw [if_neg (by omega)]
theorem MA.u {bb : Nat → Nat} {n a k j : Nat} {v : Int32} {M0 M : Mem} {cd : List (Nat × Int32)} (h : MA bb n M0 M a cd) (hk : (k = 12 ∧ (j = 34 ∨ j = 36)) ∨ k = 80) : MA bb n M0 (up M k 0 j v) a cd := by
  obtain ⟨h1, ⟨h2, h3, h4⟩, h5, h6⟩ := h
  have f12 : ∀ j', j' ≠ 34 → j' ≠ 36 → up M k 0 j v 12 0 j' = M 12 0 j' := fun j' q1 q2 => by
    simp only [up]
    rw [if_neg (by omega)]
  have fk : ∀ k', k' ≠ 12 → k' ≠ 80 → up M k 0 j v k' 0 = M k' 0 := fun k' q1 q2 => by rw [upf (by omega)]
  refine ⟨⟨by rw [f12 21 (by omega) (by omega)]; exact h1.1, fun j hj => by rw [fk 73 (by omega) (by omega)]; exact h1.2.1 j hj, h1.2.2.cg (fk 74 (by omega) (by omega))⟩, ⟨by rw [f12 23 (by omega) (by omega)]; exact h2, by rw [f12 22 (by omega) (by omega)]; exact h3, by unfold TkM; rw [f12 24 (by omega) (by omega), f12 25 (by omega) (by omega)]; exact h4⟩, ⟨by rw [f12 33 (by omega) (by omega)]; exact h5.1, fun k q hk => ?_⟩, h6.b (frB.u hk)⟩
  rw [fk 78 (by omega) (by omega), fk 79 (by omega) (by omega)]
  exact h5.2 k q hk
def PdM (M : Mem) (pd : List Nat) : Prop := M 12 0 36 = nI pd.length ∧ StkN (M 80 0) pd ∧ M 12 0 34 = nI (opq pd)
theorem PdM.a {M M' : Mem} {pd : List Nat} (h : PdM M pd) (h2 : frA M M') : PdM M' pd := by
  have e : M' 80 0 = M 80 0 := funext fun j => h2 80 0 j (by omega) (by omega)
  unfold PdM
  rw [e, h2 12 0 36 (by omega) (by omega), h2 12 0 34 (by omega) (by omega)]
  exact h
theorem settles_m {bb : Nat → Nat} {n a k : Nat} {M0 : Mem} (hk : k = 9 ∨ k = 10 ∨ k = 11) : ∀ (pd : List Nat) (fuel : Nat) (cd : List (Nat × Int32)) (M : Mem), MA bb n M0 M a cd → PdM M pd → Pok pd → pd.length < fuel → cd.length + pd.length ≤ 400 → pd.length ≤ 40 → ∃ M', fX12_settles_0 fuel (nI k) M = some M' ∧ MA bb n M0 M' a (stl k cd pd).1 ∧ PdM M' (stl k cd pd).2 ∧ frB M M' := by
  intro pd
  induction pd with
  | nil =>
    intro fuel cd M h hp hv hf hl h40
    obtain ⟨m, rfl⟩ : ∃ m, fuel = m + 1 := ⟨fuel - 1, by omega⟩
    rw [fX12_settles_0, hp.1, if_pos (show nI [].length ≤ 0 from Int32.le_refl _)]
    exact ⟨M, rfl, h, hp, frB.rf⟩
  | cons p t ih =>
    intro fuel cd M h hp hv hf hl h40
    simp only [List.length_cons] at hl h40 hf
    obtain ⟨m, rfl⟩ : ∃ m, fuel = m + 1 := ⟨fuel - 1, by omega⟩
    have h36 : M 12 0 36 = nI (t.length + 1) := hp.1
    have h80 : M 80 0 t.length = nI p := hp.2.1.1
    have hpb := hv.mem p (List.mem_cons_self ..)
    rw [fX12_settles_0, h36, if_neg (show ¬ nI (t.length + 1) ≤ 0 from nI_ge (a := 0) (by omega) (by omega)), nI_pred, ix_nI (by omega) (by omega), bindS, h80, ifEq (by omega) (by omega)]
    by_cases e : p = k
    · subst e
      rw [if_pos rfl, stl_c]
      obtain ⟨M1, e1, e2, e3, e4⟩ := (h.u (k := 12) (j := 36) (v := nI t.length) (by omega)).emits (o := p) (v := 0) (by omega)
      rw [e1, bindS]
      have s80 : M1 80 0 = M 80 0 := funext fun j => by rw [e3 80 0 j (by omega) (by omega), upk (by omega)]
      have s36 : M1 12 0 36 = nI t.length := by rw [e4 36 (by omega), up_at]
      have s34 : M1 12 0 34 = nI (opq (p :: t)) := by rw [e4 34 (by omega), upj (by omega)]; exact hp.2.2
      have fB : frB M M1 := (frB.u (by omega)).tr e3.b
      by_cases e9 : p = 9
      · subst e9
        have hop : opq (9 :: t) = opq t + 1 := by rw [opq_c]; simp; omega
        rw [if_pos (show nI 9 = 9 from rfl), s34, hop, nI_pred]
        obtain ⟨M', f1, f2, f3, f4⟩ := ih m (cd ++ [(9, 0)]) (up M1 12 0 34 (nI (opq t))) (e2.u (by omega)) ⟨by rw [upj (by omega)]; exact s36, by rw [upk (by omega), s80]; exact hp.2.1.2, up_at⟩ hv.2 (by omega) (by simp; omega) (by omega)
        exact ⟨M', f1, f2, f3, (fB.tr (frB.u (by omega))).tr f4⟩
      · have hop : opq (p :: t) = opq t := by rw [opq_c, if_neg e9, if_neg (by omega)]; omega
        rw [if_neg (show ¬ nI p = 9 from fun q => e9 ((nI_eq (by omega) (by omega)).mp (show nI p = nI 9 from q)))]
        obtain ⟨M', f1, f2, f3, f4⟩ := ih m (cd ++ [(p, 0)]) M1 e2 ⟨s36, by rw [s80]; exact hp.2.1.2, by rw [s34, hop]⟩ hv.2 (by omega) (by simp; omega) (by omega)
        exact ⟨M', f1, f2, f3, fB.tr f4⟩
    · rw [if_neg e, stl_id (show hdp (p :: t) ≠ k from e)]
      exact ⟨M, rfl, h, hp, frB.rf⟩
theorem waits_m {bb : Nat → Nat} {n a p : Nat} {M0 M : Mem} {cd : List (Nat × Int32)} {pd : List Nat} (h : MA bb n M0 M a cd) (h36 : M 12 0 36 = nI pd.length) (hs : StkN (M 80 0) pd) (ho : M 12 0 34 = nI (opq (p :: pd))) (hl : pd.length < 40) : ∃ M', fX12_waits (nI p) M = some M' ∧ MA bb n M0 M' a cd ∧ PdM M' (p :: pd) ∧ frB M M' := by
  unfold fX12_waits
  rw [h36, ix_nI hl (by omega), bindS, upk (show (12 : Nat) ≠ 80 by omega), h36, nI_1]
  refine ⟨_, rfl, (h.u (by omega)).u (by omega), ⟨by rw [up_at]; rfl, ?_, by rw [upj (by omega), upk (by omega)]; exact ho⟩, (frB.u (by omega)).tr (frB.u (by omega))⟩
  rw [upk (by omega)]
  exact ⟨up_at, hs.up (Nat.le_refl _)⟩
/-! the class's side -/
theorem bind_id {o : Option Mem} : (o.bind fun S => some S) = o := by cases o <;> rfl
theorem joint_d {bb : Nat → Nat} {n a k wt : Nat} {C0 S : Mem} {sg : List Nat} {cd : List (Nat × Int32)} {ls : List (Nat × Nat × Nat)} {X Y : Int32} (h : CS bb n C0 S a sg wt 2 cd ls X Y) (ht : S 9 0 2 = nI k) (hk : k ≤ 26) (hw : (wt = 4 ∧ ¬ (18 ≤ k ∧ k ≤ 21)) ∨ wt = 5) (hv : ∀ s, s ∈ sg → VSg s) (h40 : sg.length ≤ 40) : dsp S = fX4_takeJoint_14 (nI k) (if cntL 22 sg = 0 then 0 else 1) S := by
  have hj : fX4_takeJoint (nI k) S = fX4_takeJoint_14 (nI k) (if cntL 22 sg = 0 then 0 else 1) S := by
    unfold fX4_takeJoint
    rw [show fX4_countWaiting 22 S = _ from h.cnt hv h40 22 (by omega), bindS]
    have := cntL_le (k := 22) sg
    by_cases e : cntL 22 sg = 0
    · rw [if_pos e, e, if_pos (show nI 0 ≤ 0 from Int32.le_refl _)]
    · rw [if_neg e, if_neg (show ¬ nI (cntL 22 sg) ≤ 0 from nI_ge (a := 0) (by omega) (by omega))]
  rw [dsp_1 h.2.2.2.1.1 (by omega), ht]
  rcases hw with ⟨rfl, hn⟩ | rfl
  · rw [if_neg (by decide), if_neg (by decide), if_neg (by decide), if_neg (by decide), if_pos rfl]
    unfold fX4_takeOperator fX4_takeOperator_63 fX4_takeOperator_87 fX4_takeOperator_111
    rw [(fact_all _ (by omega)).2.1, if_neg hn, if_pos (show (0 : Int32) = 0 from rfl), h.2.2.2.1.2, if_neg (show ¬ nI 2 = 1 by decide), if_neg (show ¬ nI 2 = 0 by decide), if_neg (show ¬ nI 2 = 0 by decide), if_pos (show nI 2 = 2 from rfl), bind_id, hj]
  · rw [if_neg (by decide), if_neg (by decide), if_neg (by decide), if_neg (by decide), if_neg (by decide), hj]
/-- and, or -/
theorem join_c {bb : Nat → Nat} {n a x k wt : Nat} {C0 C : Mem} {sg sg' : List Nat} {cd cd' : List (Nat × Int32)} {ls : List (Nat × Nat × Nat)} {X Y : Int32} (hn : n ≤ 400) (hb : ∀ j, j < n → bb j < 256) (h : CS bb n C0 C a sg wt 2 cd ls X Y) (hw : (wt = 4 ∧ ¬ (18 ≤ TK bb n a ∧ TK bb n a ≤ 21)) ∨ wt = 5) (hv : ∀ s, s ∈ sg → VSg s) (h40 : sg.length ≤ 40) (ha : a ≤ n) (hx : x ≤ a) (hl : cd.length + sg.length ≤ a) (hk : TK bb n a = k) (hkv : k = 5 ∨ k = 6) (hr : rls (bnd k) cd sg = (cd', sg')) (h39 : sg'.length < 40) : ∃ C', KR C x = KR C' (x + 1) ∧ CS bb n C0 C' (TE bb n a) (k :: sg') 3 2 cd' ls X Y := by
  obtain ⟨C5, a1, a2, a3⟩ := h.adv hn hb ha
  have hbb := bnd_all k (by omega)
  obtain ⟨C6, r1, r2, r3⟩ := CS.rel (β := bnd k) hbb.2 sg 5000 cd C5 a2 hv (fun b0 => by
    have : bnd k ≠ 0 := by rcases hkv with rfl | rfl <;> decide
    omega) (by omega) h40 (by omega)
  rw [hr] at r2
  obtain ⟨C7, p1, p2⟩ := r2.put h39 k
  refine ⟨up C7 4 0 4 (nI 3), KR_step (by omega) h.2.2.2.2.1.1 a1 ?_, p2.wt 3⟩
  rw [joint_d a2 (a3.2.1.trans (by rw [hk])) (by omega) (by omega) hv h40]
  generalize (if cntL 22 sg = 0 then (0 : Int32) else 1) = y
  have go : fX4_takeJoint_26 (nI k) C5 = some (up C7 4 0 4 (nI 3)) := by
    unfold fX4_takeJoint_26 fX4_putBinding fX4_releaseFrom
    rw [hbb.1, r1, bindS, p1, bindS, bindS]
    rfl
  unfold fX4_takeJoint_14
  rcases hkv with rfl | rfl
  · rw [if_neg (show ¬ nI 5 = 6 by decide), if_pos (show nI 5 = 5 from rfl)]
    exact go
  · rw [if_pos (show nI 6 = 6 from rfl)]
    exact go
theorem close_c {bb : Nat → Nat} {n a x wt : Nat} {C0 C : Mem} {sg sg' : List Nat} {cd cd' : List (Nat × Int32)} {ls : List (Nat × Nat × Nat)} {X Y : Int32} (hn : n ≤ 400) (hb : ∀ j, j < n → bb j < 256) (h : CS bb n C0 C a sg wt 2 cd ls X Y) (hw : (wt = 4 ∧ ¬ (18 ≤ TK bb n a ∧ TK bb n a ≤ 21)) ∨ wt = 5) (hv : ∀ s, s ∈ sg → VSg s) (h40 : sg.length ≤ 40) (ha : a ≤ n) (hx : x ≤ a) (hl : cd.length + sg.length ≤ a) (hk : TK bb n a = 23) (hc : cntL 22 sg ≠ 0) (hr : rls 1 cd sg = (cd', 22 :: sg')) : ∃ C', KR C x = KR C' (x + 1) ∧ CS bb n C0 C' (TE bb n a) sg' 5 2 cd' ls X Y := by
  obtain ⟨C5, a1, a2, a3⟩ := h.adv hn hb ha
  obtain ⟨C6, r1, r2, r3⟩ := CS.rel (β := 1) (by omega) sg 5000 cd C5 a2 hv (fun b0 => by omega) (by omega) h40 (by omega)
  rw [hr] at r2
  refine ⟨up (up C6 4 0 3 (nI sg'.length)) 4 0 4 (nI 5), KR_step (by omega) h.2.2.2.2.1.1 a1 ?_, r2.pop.wt 5⟩
  rw [joint_d a2 (a3.2.1.trans (by rw [hk])) (by omega) (by omega) hv h40, if_neg hc]
  unfold fX4_takeJoint_14 fX4_releaseFrom
  have h3 : C6 4 0 3 = nI (sg'.length + 1) := r2.2.2.1.1
  rw [if_neg (show ¬ nI 23 = 6 by decide), if_neg (show ¬ nI 23 = 5 by decide), if_pos (show nI 23 = 23 from rfl), if_neg (show ¬ (1 : Int32) = 0 by decide), show fX4_releaseFrom_0 5000 1 C5 = _ from r1, bindS, h3, nI_pred]
  rfl
theorem bad_c {bb : Nat → Nat} {n wt : Nat} {C0 C5 : Mem} {sg : List Nat} {cd : List (Nat × Int32)} {ls : List (Nat × Nat × Nat)} {X Y : Int32} {a' k : Nat} (a2 : CS bb n C0 C5 a' sg wt 2 cd ls X Y) (ht : C5 9 0 2 = nI k) (hk : k ≤ 26) (hw : (wt = 4 ∧ ¬ (18 ≤ k ∧ k ≤ 21)) ∨ wt = 5) (hv : ∀ s, s ∈ sg → VSg s) (h40 : sg.length ≤ 40) (h5 : k ≠ 5) (h6 : k ≠ 6) (hc : (cntL 22 sg ≠ 0 ∧ k ≠ 23) ∨ (cntL 22 sg = 0 ∧ k ≠ 17)) : dsp C5 = some (fX4_refuse (nI 1) C5) := by
  rw [joint_d a2 ht hk hw hv h40]
  have ne : ∀ m, m < 100 → k ≠ m → ¬ nI k = nI m := fun m hm e q => e ((nI_eq (by omega) (by omega)).mp q)
  unfold fX4_takeJoint_14 fX4_takeJoint_72
  rw [if_neg (show ¬ nI k = 6 from ne 6 (by omega) h6), if_neg (show ¬ nI k = 5 from ne 5 (by omega) h5)]
  rcases hc with ⟨c1, c2⟩ | ⟨c1, c2⟩
  · rw [if_neg c1, if_neg (show ¬ nI k = 23 from ne 23 (by omega) c2), if_neg (show ¬ (1 : Int32) = 0 by decide)]
    by_cases e : nI k = 17
    · rw [if_pos e]; rfl
    · rw [if_neg e]; rfl
  · rw [if_pos c1, if_pos (show (0 : Int32) = 0 from rfl), if_neg (show ¬ nI k = 17 from ne 17 (by omega) c2)]
    by_cases e : nI k = 23
    · rw [if_pos e]; rfl
    · rw [if_neg e]; rfl
/-- not, and a bracket -/
theorem test_c {bb : Nat → Nat} {n a k sd : Nat} {C0 C5 : Mem} {sg : List Nat} {cd : List (Nat × Int32)} {ls : List (Nat × Nat × Nat)} {X Y : Int32} (a2 : CS bb n C0 C5 a sg 3 sd cd ls X Y) (ht : C5 9 0 2 = nI k) (hk : k = 7 ∨ k = 22) (hv : ∀ s, s ∈ sg → VSg s) (h40 : sg.length < 40) : (cntL 7 sg + cntL 22 sg < 8 → ∃ C', dsp C5 = some C' ∧ CS bb n C0 C' a (k :: sg) 3 sd cd ls X Y) ∧ (¬ cntL 7 sg + cntL 22 sg < 8 → dsp C5 = some (fX4_refuse (nI 3) C5)) := by
  have hd : dsp C5 = fX4_takeTest_25 (nI k) C5 := by
    rw [dsp_1 a2.2.2.2.1.1 (by omega), if_neg (by decide), if_neg (by decide), if_neg (by decide), if_pos rfl, ht]
    unfold fX4_takeTest
    rcases hk with rfl | rfl
    · rw [if_pos (show nI 7 = 7 from rfl)]
    · rw [if_neg (show ¬ nI 22 = 7 by decide), if_pos (show nI 22 = 22 from rfl)]
  have c7 := cntL_le (k := 7) sg
  have c22 := cntL_le (k := 22) sg
  rw [hd]
  unfold fX4_takeTest_25
  rw [show fX4_countWaiting 7 C5 = _ from a2.cnt hv (by omega) 7 (by omega), bindS, show fX4_countWaiting 22 C5 = _ from a2.cnt hv (by omega) 22 (by omega), bindS, nI_add, show (8 : Int32) = nI 8 from rfl, ifLt (by omega) (by omega)]
  refine ⟨fun hh => ?_, fun hh => ?_⟩
  · obtain ⟨C7, p1, p2⟩ := a2.put h40 k
    rw [if_pos hh, p1, bindS]
    exact ⟨C7, rfl, p2⟩
  · rw [if_neg hh]
    rfl
