/-! ===== the words that every method's contract stands on ===== -/
def GT : List Jvm.Cond := lw_tbl.filter goodWord
theorem mg {w : Jvm.Cond} (i : Nat) (h : lw_tbl[i]? = some w) (hg : goodWord w = true) : w ∈ GT := List.mem_filter.mpr ⟨List.mem_of_getElem? h, hg⟩
theorem GT_good {w : Jvm.Cond} (h : w ∈ GT) : (w.onTables && w.keeps) = true ∨ ∃ ty, w = .arrayClass ty := good_of_word (List.mem_filter.mp h).2
/-! ===== the abstract machine: values, memory, locals ===== -/
abbrev AV : Type := Int32 ⊕ Option (Nat × Nat)
abbrev vi (x : Int32) : AV := Sum.inl x
abbrev vr (k i : Nat) : AV := Sum.inr (some (k, i))
abbrev vn : AV := Sum.inr none
abbrev Mem : Type := Nat → Nat → Nat → Int32
abbrev Lay : Type := Nat → Nat → Nat → Option (Nat × Nat)
abbrev Lv : Type := List (Option AV)
abbrev Obs : Type := List (Nat × Nat)
def gl : Lv → Nat → Option AV
  | [], _ => none
  | a :: _, 0 => a
  | _ :: l, n + 1 => gl l n
def sl : Lv → Nat → AV → Lv
  | [], _, _ => []
  | _ :: l, 0, v => some v :: l
  | a :: l, n + 1, v => a :: sl l n v
def up (S : Mem) (k i j : Nat) (x : Int32) : Mem := fun k' i' j' => if k' = k ∧ i' = i ∧ j' = j then x else S k' i' j'
def upA (S : Mem) (k i : Nat) (f : Nat → Int32) : Mem := fun k' i' => if k' = k ∧ i' = i then f else S k' i'
def upL (L : Lay) (k i j : Nat) (x : Option (Nat × Nat)) : Lay := fun k' i' j' => if k' = k ∧ i' = i ∧ j' = j then x else L k' i' j'
def nwL (L : Lay) (k i : Nat) : Lay := fun k' i' j' => if k' = k ∧ i' = i then none else L k' i' j'
def nwS (S : Mem) (k i : Nat) : Mem := fun k' i' j' => if k' = k ∧ i' = i then 0 else S k' i' j'
/-- an index into an array of n -/
def ix (x : Int32) (n : Nat) : Option Nat := if x < 0 then none else if x.toNatClampNeg < n then some x.toNatClampNeg else none
theorem ix_some {x : Int32} {n k : Nat} (h : ix x n = some k) : vp_in x n ∧ x.toNatClampNeg = k ∧ k < n := by
  unfold ix at h
  by_cases h0 : x < 0
  · rw [if_pos h0] at h; cases h
  · rw [if_neg h0] at h
    by_cases h1 : x.toNatClampNeg < n
    · rw [if_pos h1] at h
      cases h
      exact ⟨fun q => q.elim h0 (fun z => absurd h1 (Nat.not_lt.mpr z)), rfl, h1⟩
    · rw [if_neg h1] at h; cases h
/-- binding an answer and a memory -/
def bd {α β γ : Type} (o : Option (α × β)) (f : α → β → Option γ) : Option γ := match o with
  | none => none
  | some (a, b) => f a b
theorem bd_some {α β γ : Type} {o : Option (α × β)} {f : α → β → Option γ} {r : γ} (h : bd o f = some r) : ∃ a b, o = some (a, b) ∧ f a b = some r := by
  cases o with
  | none => cases h
  | some q => exact ⟨q.1, q.2, rfl, h⟩
theorem bn_some {α γ : Type} {o : Option α} {f : α → Option γ} {r : γ} (h : o.bind f = some r) : ∃ a, o = some a ∧ f a = some r := by
  cases o with
  | none => cases h
  | some q => exact ⟨q, rfl, h⟩
theorem gd_some {α : Type} {c : Prop} [Decidable c] {A : Option α} {r : α} (h : (if c then A else none) = some r) : c ∧ A = some r := by
  by_cases hc : c
  · rw [if_pos hc] at h; exact ⟨hc, h⟩
  · rw [if_neg hc] at h; cases h
theorem gn_some {α : Type} {c : Prop} [Decidable c] {A : Option α} {r : α} (h : (if c then none else A) = some r) : ¬ c ∧ A = some r := by
  by_cases hc : c
  · rw [if_pos hc] at h; cases h
  · rw [if_neg hc] at h; exact ⟨hc, h⟩
def cv (ad : Nat → Nat → Nat) : AV → Value
  | .inl x => .int x
  | .inr none => .null
  | .inr (some q) => .ref (ad q.1 q.2)
theorem cv_cat (ad : Nat → Nat → Nat) (v : AV) : (cv ad v).category = 1 := by rcases v with x | (_ | q) <;> rfl
/-! the class's memory and the reference's -/
def mm (Sc Sm : Mem) : Mem := fun k => if sd k = true then Sm k else Sc k
theorem mm_c {Sc Sm : Mem} {k : Nat} (h : sd k = false) : mm Sc Sm k = Sc k := by unfold mm; rw [if_neg (by rw [h]; decide)]
theorem mm_m {Sc Sm : Mem} {k : Nat} (h : sd k = true) : mm Sc Sm k = Sm k := by unfold mm; rw [if_pos h]
theorem mm_upC {Sc Sm : Mem} {k i j : Nat} {x : Int32} (h : sd k = false) : mm (up Sc k i j x) Sm = up (mm Sc Sm) k i j x := by
  funext k' i' j'
  by_cases hk : k' = k
  · subst hk
    simp [mm, up, h]
  · by_cases hs : sd k' = true
    · simp [mm, up, hs, hk]
    · simp [mm, up, hs, hk]
theorem mm_upM {Sc Sm : Mem} {k i j : Nat} {x : Int32} (h : sd k = true) : mm Sc (up Sm k i j x) = up (mm Sc Sm) k i j x := by
  funext k' i' j'
  by_cases hk : k' = k
  · subst hk
    simp [mm, up, h]
  · by_cases hs : sd k' = true
    · simp [mm, up, hs, hk]
    · simp [mm, up, hs, hk]
theorem mm_upAC {Sc Sm : Mem} {k i : Nat} {f : Nat → Int32} (h : sd k = false) : mm (upA Sc k i f) Sm = upA (mm Sc Sm) k i f := by
  funext k' i' j'
  by_cases hk : k' = k
  · subst hk
    simp [mm, upA, h]
  · by_cases hs : sd k' = true
    · simp [mm, upA, hs, hk]
    · simp [mm, upA, hs, hk]
theorem mm_nwC {Sc Sm : Mem} {k i : Nat} (h : sd k = false) : mm (nwS Sc k i) Sm = nwS (mm Sc Sm) k i := by
  funext k' i' j'
  by_cases hk : k' = k
  · subst hk
    simp [mm, nwS, h]
  · by_cases hs : sd k' = true
    · simp [mm, nwS, hs, hk]
    · simp [mm, nwS, hs, hk]
theorem mm_nwM {Sc Sm : Mem} {k i : Nat} (h : sd k = true) : mm Sc (nwS Sm k i) = nwS (mm Sc Sm) k i := by
  funext k' i' j'
  by_cases hk : k' = k
  · subst hk
    simp [mm, nwS, h]
  · by_cases hs : sd k' = true
    · simp [mm, nwS, hs, hk]
    · simp [mm, nwS, hs, hk]
/-! the world: objects (kind, instance), their cells -/
abbrev Ad : Type := Nat → Nat → Nat
def fvv (ad : Ad) (L : Lay) (X : Mem) (k i j : Nat) : Value := if isRf k j = true then cv ad (.inr (L k i j)) else .int (X k i j)
def ent (tc : Nat → ClassId) (ad : Ad) (L : Lay) (X : Mem) (q : Nat × Nat) : va_E :=
  if q.1 < nObj then .inr (q.1, (List.range (nsl q.1)).map (fvv ad L X q.1 q.2))
  else if ak q.1 < 3 then .inl (tc (ak q.1), nsl q.1, .inl (X q.1 q.2))
  else .inl (tc (ak q.1), nsl q.1, .inr (.inr (.inr (.inr (fun j => (L q.1 q.2 j).map fun r => ad r.1 r.2)))))
def tysOf (tc : Nat → ClassId) : List (ClassId × FieldType) := [(tc 0, .int), (tc 1, .byte), (tc 2, .boolean), (tc 3, .object "PaperAger$Reader"), (tc 4, .object "PaperAger$Paper")]
def wls (tc : Nat → ClassId) (ad : Ad) (wl : Obs) (L : Lay) (X : Mem) : va_W := wl.map (fun q => (ad q.1 q.2, ent tc ad L X q))
def PW (D : va_G) (tc : Nat → ClassId) (ad : Ad) (wl : Obs) (L : Lay) (X : Mem) (H : Heap) : Prop := va_P D vwCl (wls tc ad wl L X) H
def AD (A : Nat → Prop) (ad : Ad) (wl : Obs) : Prop := (∀ (i j : Nat) (p q : Nat × Nat), wl[i]? = some p → wl[j]? = some q → ad p.1 p.2 = ad q.1 q.2 → i = j) ∧ ∀ q ∈ wl, A (ad q.1 q.2)
def LV (wl : Obs) (L : Lay) : Prop := ∀ q ∈ wl, ∀ (j : Nat) (r : Nat × Nat), L q.1 q.2 j = some r → r ∈ wl
def Wok (D : va_G) (tc : Nat → ClassId) (sa : Ad) (A : Nat → Prop) (ad : Ad) (wl : Obs) (L : Lay) (X : Mem) (H : Heap) : Prop := (∀ k i, 90 ≤ k → ad k i = sa k i) ∧ AD A ad wl ∧ LV wl L ∧ PW D tc ad wl L X H ∧ ∀ q ∈ wl, q.1 < 90
theorem AD.inj {A : Nat → Prop} {ad : Ad} {wl : Obs} (h : AD A ad wl) {p q : Nat × Nat} (hp : p ∈ wl) (hq : q ∈ wl) (he : ad p.1 p.2 = ad q.1 q.2) : p = q := by
  obtain ⟨i, hi⟩ := List.getElem?_of_mem hp
  obtain ⟨j, hj⟩ := List.getElem?_of_mem hq
  have := h.1 i j p q hi hj he
  subst this
  exact Option.some.inj (hi.symm.trans hj)
theorem wls_at {tc : Nat → ClassId} {ad : Ad} {wl : Obs} {L : Lay} {X : Mem} {n : Nat} {q : Nat × Nat} (h : wl[n]? = some q) : (wls tc ad wl L X)[n]? = some (ad q.1 q.2, ent tc ad L X q) := by
  unfold wls
  rw [List.getElem?_map, h]
  rfl
theorem wls_of {tc : Nat → ClassId} {ad : Ad} {wl : Obs} {L : Lay} {X : Mem} {n : Nat} {x : Nat × va_E} (h : (wls tc ad wl L X)[n]? = some x) : ∃ q, wl[n]? = some q ∧ x = (ad q.1 q.2, ent tc ad L X q) := by
  unfold wls at h
  rw [List.getElem?_map] at h
  cases hq : wl[n]? with
  | none => rw [hq] at h; cases h
  | some q => rw [hq] at h; exact ⟨q, rfl, (Option.some.inj h).symm⟩
theorem AD.D {A : Nat → Prop} {ad : Ad} {wl : Obs} (h : AD A ad wl) (tc : Nat → ClassId) (L : Lay) (X : Mem) : va_D A (wls tc ad wl L X) := by
  refine ⟨fun i j p q hi hj he => ?_, fun k q hk => ?_⟩
  · obtain ⟨p', h1, rfl⟩ := wls_of hi
    obtain ⟨q', h2, rfl⟩ := wls_of hj
    exact h.1 i j p' q' h1 h2 he
  · obtain ⟨q', h1, rfl⟩ := wls_of hk
    exact h.2 q' (List.mem_of_getElem? h1)
/-- one cell changes: the others are as they were -/
theorem PW.set {D : va_G} {tc : Nat → ClassId} {A : Nat → Prop} {ad : Ad} {wl : Obs} {L L' : Lay} {X X' : Mem} {H1 : Heap} {n : Nat} {q : Nat × Nat} (hq : wl[n]? = some q) (hA : AD A ad wl) (h : va_P D vwCl ((wls tc ad wl L X).set n (ad q.1 q.2, ent tc ad L' X' q)) H1)
    (hs : ∀ r ∈ wl, r ≠ q → ent tc ad L' X' r = ent tc ad L X r) : PW D tc ad wl L' X' H1 := by
  intro k x hx
  obtain ⟨r, hr, rfl⟩ := wls_of hx
  have hl : n < (wls tc ad wl L X).length := by
    unfold wls
    rw [List.length_map]
    exact (List.getElem?_eq_some_iff.mp hq).1
  by_cases hk : k = n
  · subst hk
    have e : r = q := Option.some.inj (hr.symm.trans hq)
    subst e
    exact h k _ (List.getElem?_set_self hl)
  · have hne : r ≠ q := fun e => hk (by subst e; exact hA.1 k n r r hr hq rfl)
    rw [hs r (List.mem_of_getElem? hr) hne]
    exact h k _ (by rw [List.getElem?_set_ne (Ne.symm hk)]; exact wls_at hr)
theorem ent_congr {tc : Nat → ClassId} {ad ad' : Ad} {L L' : Lay} {X X' : Mem} {q : Nat × Nat} (hX : ∀ j, X' q.1 q.2 j = X q.1 q.2 j) (hL : ∀ j, L' q.1 q.2 j = L q.1 q.2 j) (had : ∀ j r, L q.1 q.2 j = some r → ad' r.1 r.2 = ad r.1 r.2) : ent tc ad' L' X' q = ent tc ad L X q := by
  unfold ent
  split
  · congr 2
    refine List.map_congr_left (fun j hj => ?_)
    unfold fvv
    split
    · rw [hL j]
      cases h : L q.1 q.2 j with
      | none => rfl
      | some r => show Value.ref _ = Value.ref _; rw [had j r h]
    · rw [hX j]
  · split
    · rw [show X' q.1 q.2 = X q.1 q.2 from funext hX]
    · have e : (fun j => (L' q.1 q.2 j).map fun r => ad' r.1 r.2) = fun j => (L q.1 q.2 j).map fun r => ad r.1 r.2 := by
        funext j
        rw [hL j]
        cases h : L q.1 q.2 j with
        | none => rfl
        | some r => show some (ad' r.1 r.2) = some (ad r.1 r.2); rw [had j r h]
      rw [e]
theorem up_ne {S : Mem} {k i j : Nat} {x : Int32} {q : Nat × Nat} (h : q ≠ (k, i)) (j' : Nat) : up S k i j x q.1 q.2 j' = S q.1 q.2 j' := by
  unfold up
  rw [if_neg]
  intro z
  exact h (by obtain ⟨a, b⟩ := q; obtain ⟨z1, z2, -⟩ := z; exact Prod.ext z1 z2)
theorem upA_ne {S : Mem} {k i : Nat} {f : Nat → Int32} {q : Nat × Nat} (h : q ≠ (k, i)) (j' : Nat) : upA S k i f q.1 q.2 j' = S q.1 q.2 j' := by
  unfold upA
  rw [if_neg]
  intro z
  exact h (by obtain ⟨a, b⟩ := q; obtain ⟨z1, z2⟩ := z; exact Prod.ext z1 z2)
theorem upL_ne {L : Lay} {k i j : Nat} {x : Option (Nat × Nat)} {q : Nat × Nat} (h : q ≠ (k, i)) (j' : Nat) : upL L k i j x q.1 q.2 j' = L q.1 q.2 j' := by
  unfold upL
  rw [if_neg]
  intro z
  exact h (by obtain ⟨a, b⟩ := q; obtain ⟨z1, z2, -⟩ := z; exact Prod.ext z1 z2)
theorem nwL_ne {L : Lay} {k i : Nat} {q : Nat × Nat} (h : q ≠ (k, i)) (j' : Nat) : nwL L k i q.1 q.2 j' = L q.1 q.2 j' := by
  unfold nwL
  rw [if_neg]
  intro z
  exact h (by obtain ⟨a, b⟩ := q; obtain ⟨z1, z2⟩ := z; exact Prod.ext z1 z2)
theorem nwS_ne {S : Mem} {k i : Nat} {q : Nat × Nat} (h : q ≠ (k, i)) (j' : Nat) : nwS S k i q.1 q.2 j' = S q.1 q.2 j' := by
  unfold nwS
  rw [if_neg]
  intro z
  exact h (by obtain ⟨a, b⟩ := q; obtain ⟨z1, z2⟩ := z; exact Prod.ext z1 z2)
/-! valid values; the locals -/
def okv (wl : Obs) : AV → Prop
  | .inr (some q) => q ∈ wl ∨ 90 ≤ q.1
  | _ => True
def okS (wl : Obs) (st : List AV) : Prop := ∀ v ∈ st, okv wl v
def okL (wl : Obs) (lv : Lv) : Prop := ∀ (k : Nat) (v : AV), gl lv k = some v → okv wl v
theorem okS.cons {wl : Obs} {v : AV} {st : List AV} (h : okv wl v) (hs : okS wl st) : okS wl (v :: st) := by
  intro w hw
  rcases List.mem_cons.mp hw with rfl | hw
  · exact h
  · exact hs w hw
theorem okS.i {wl : Obs} {x : Int32} {st : List AV} (hs : okS wl st) : okS wl (vi x :: st) := okS.cons (v := vi x) trivial hs
theorem okS.n {wl : Obs} {st : List AV} (hs : okS wl st) : okS wl (vn :: st) := okS.cons (v := vn) trivial hs
theorem okS.hd {wl : Obs} {v : AV} {st : List AV} (hs : okS wl (v :: st)) : okv wl v := hs v List.mem_cons_self
theorem okS.tl {wl : Obs} {v : AV} {st : List AV} (hs : okS wl (v :: st)) : okS wl st := fun w hw => hs w (List.mem_cons_of_mem _ hw)
theorem okv.mono {wl wl' : Obs} (h : ∀ q ∈ wl, q ∈ wl') {v : AV} (hv : okv wl v) : okv wl' v := by
  rcases v with x | (_ | q)
  · trivial
  · trivial
  · exact hv.imp (h q) id
theorem gl_sl {lv : Lv} {i : Nat} {v : AV} {k : Nat} {w : AV} (h : gl (sl lv i v) k = some w) : (k = i ∧ w = v) ∨ (k ≠ i ∧ gl lv k = some w) := by
  induction lv generalizing i k with
  | nil => cases h
  | cons a l ih =>
    cases i with
    | zero =>
      cases k with
      | zero => exact Or.inl ⟨rfl, (Option.some.inj h).symm⟩
      | succ k => exact Or.inr ⟨Nat.succ_ne_zero k, h⟩
    | succ i =>
      cases k with
      | zero => exact Or.inr ⟨(Nat.succ_ne_zero i).symm, h⟩
      | succ k =>
        rcases ih (show gl (sl l i v) k = some w from h) with ⟨h1, h2⟩ | ⟨h1, h2⟩
        · exact Or.inl ⟨by rw [h1], h2⟩
        · exact Or.inr ⟨fun e => h1 (Nat.succ.inj e), h2⟩
theorem okL.set {wl : Obs} {lv : Lv} (h : okL wl lv) {i : Nat} {v : AV} (hv : okv wl v) : okL wl (sl lv i v) := by
  intro k w hw
  rcases gl_sl hw with ⟨-, rfl⟩ | ⟨-, h2⟩
  · exact hv
  · exact h k w h2
def lvl (ad : Ad) : Nat → Lv → List (Nat × Value)
  | _, [] => []
  | n, none :: l => lvl ad (n + 1) l
  | n, some v :: l => (n, cv ad v) :: lvl ad (n + 1) l
theorem lvl_mem {ad : Ad} {lv : Lv} {n : Nat} {q : Nat × Value} (h : q ∈ lvl ad n lv) : ∃ k v, gl lv k = some v ∧ q = (n + k, cv ad v) := by
  induction lv generalizing n with
  | nil => cases h
  | cons a l ih =>
    cases a with
    | none =>
      obtain ⟨k, v, h1, h2⟩ := ih (show q ∈ lvl ad (n + 1) l from h)
      exact ⟨k + 1, v, h1, by rw [h2]; congr 1; omega⟩
    | some w =>
      rcases List.mem_cons.mp (show q ∈ (n, cv ad w) :: lvl ad (n + 1) l from h) with rfl | h
      · exact ⟨0, w, rfl, rfl⟩
      · obtain ⟨k, v, h1, h2⟩ := ih h
        exact ⟨k + 1, v, h1, by rw [h2]; congr 1; omega⟩
theorem lvl_in {ad : Ad} {lv : Lv} {n k : Nat} {v : AV} (h : gl lv k = some v) : (n + k, cv ad v) ∈ lvl ad n lv := by
  induction lv generalizing n k with
  | nil => cases h
  | cons a l ih =>
    cases k with
    | zero =>
      cases a with
      | none => cases h
      | some w =>
        cases (Option.some.inj h)
        exact List.mem_cons_self
    | succ k =>
      have h2 := ih (n := n + 1) (show gl l k = some v from h)
      rw [show n + 1 + k = n + (k + 1) by omega] at h2
      cases a with
      | none => exact h2
      | some w => exact List.mem_cons_of_mem _ h2
def LH (ad : Ad) (ls : Array Slot) (nL : Nat) (lv : Lv) : Prop := lv_has ls nL (lvl ad 0 lv)
theorem LH.at {ad : Ad} {ls : Array Slot} {nL : Nat} {lv : Lv} (h : LH ad ls nL lv) {k : Nat} {v : AV} (hk : gl lv k = some v) : ls[k]? = some (.val (cv ad v)) := by
  have h1 := h.2.2 _ (lvl_in (ad := ad) (n := 0) hk)
  rw [Nat.zero_add] at h1
  exact h1
theorem LH.of {ad : Ad} {ls : Array Slot} {nL : Nat} {lv : Lv} (h1 : ls.size = nL) (h2 : lv_wf ls) (h3 : ∀ k v, gl lv k = some v → ls[k]? = some (.val (cv ad v))) : LH ad ls nL lv := by
  refine ⟨h1, h2, fun q hq => ?_⟩
  obtain ⟨k, v, hk, rfl⟩ := lvl_mem hq
  rw [Nat.zero_add]
  exact h3 k v hk
theorem LH.stored {ad : Ad} {ls' : Array Slot} {nL : Nat} {lv : Lv} {i : Nat} {v : AV} (h : lv_has ls' nL ((i, cv ad v) :: (lvl ad 0 lv).filter (fun q => !(q.1 == i) && !(q.1 + 1 == i && q.2.category == 2)))) : LH ad ls' nL (sl lv i v) := by
  refine LH.of h.1 h.2.1 (fun k w hw => ?_)
  rcases gl_sl hw with ⟨rfl, rfl⟩ | ⟨hne, hk⟩
  · exact h.2.2 (k, cv ad w) List.mem_cons_self
  · have h1 := lvl_in (ad := ad) (n := 0) hk
    rw [Nat.zero_add] at h1
    refine h.2.2 (k, cv ad w) (List.mem_cons_of_mem _ (List.mem_filter.mpr ⟨h1, ?_⟩))
    simp [hne, cv_cat]
theorem LH.ad {ad ad' : Ad} {wl : Obs} {ls : Array Slot} {nL : Nat} {lv : Lv} (h : LH ad ls nL lv) (hc : ∀ v, okv wl v → cv ad' v = cv ad v) (ho : okL wl lv) : LH ad' ls nL lv := LH.of h.1 h.2.1 (fun k v hk => by rw [hc v (ho k v hk)]; exact h.at hk)
theorem cv_agree {ad ad' sa : Ad} {wl : Obs} (h : ∀ q ∈ wl, ad' q.1 q.2 = ad q.1 q.2) (h1 : ∀ k i, 90 ≤ k → ad k i = sa k i) (h2 : ∀ k i, 90 ≤ k → ad' k i = sa k i) (v : AV) (hv : okv wl v) : cv ad' v = cv ad v := by
  rcases v with x | (_ | q)
  · rfl
  · rfl
  · show Value.ref _ = Value.ref _
    rcases hv with hv | hv
    · rw [h q hv]
    · rw [h1 _ _ hv, h2 _ _ hv]
theorem map_agree {ad ad' : Ad} {wl : Obs} {st : List AV} (hc : ∀ v, okv wl v → cv ad' v = cv ad v) (ho : okS wl st) : st.map (cv ad') = st.map (cv ad) := List.map_congr_left (fun v hv => hc v (ho v hv))
theorem cat_sum (ad : Ad) (st : List AV) : ((st.map (cv ad)).map fun v => v.category).sum = st.length := by
  induction st with
  | nil => rfl
  | cons v l ih => simp only [List.map_cons, List.sum_cons, List.length_cons, ih, cv_cat]; omega
