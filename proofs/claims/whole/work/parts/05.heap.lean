/-! ===== fields ===== -/
def KC (k : Nat) (C : String) (T : u_T) (ty0 : Nat → FieldType) : Prop := vwCl[k]? = some (C, T, nsl k) ∧ k < nObj ∧ (∀ w ∈ u_ws C T (nsl k), w ∈ GT) ∧ (∀ j, j < nsl k → parseFieldDescriptor (T j).2.2.1 = some (ty0 j)) ∧ (∀ a, a < nsl k → ∀ b, b < nsl k → a ≠ b → (T a).2.1 ≠ (T b).2.1) ∧ (∀ j, j < nsl k → (isRf k j = false → ty0 j = .int ∨ ty0 j = .boolean) ∧ (isRf k j = true → (∃ n, ty0 j = .object n) ∨ ∃ t, ty0 j = .array t))
def FL (own : String) (idx k j : Nat) : Prop := ∃ C T ty0, KC k C T ty0 ∧ j < nsl k ∧ Jvm.Cond.fieldLink own idx (T j).1 (T j).2.1 (T j).2.2.1 ∈ GT
def FP (own : String) (idx k j : Nat) (ty : FieldType) : Prop := ∃ C T ty0, KC k C T ty0 ∧ j < nsl k ∧ Jvm.Cond.fieldLink own idx (T j).1 (T j).2.1 (T j).2.2.1 ∈ GT ∧ (T j).2.2.2 = false ∧ parseFieldDescriptor (T j).2.2.1 = some ty
def FF (own : String) (idx k j : Nat) : Prop := ∃ C T ty0, KC k C T ty0 ∧ j < nsl k ∧ Jvm.Cond.fieldLink own idx (T j).1 (T j).2.1 (T j).2.2.1 ∈ GT ∧ (T j).2.2.2 = true ∧ (T j).1 = own
theorem ent_obj {tc : Nat → ClassId} {ad : Ad} {L : Lay} {X : Mem} {k i : Nat} (h : k < nObj) : ent tc ad L X (k, i) = .inr (k, (List.range (nsl k)).map (fvv ad L X k i)) := if_pos h
theorem ak_obj : ∀ k, k < nObj → ak k = 9 := by decide +kernel
theorem ak_big {k : Nat} (h : 90 ≤ k) : ak k = 9 := by
  unfold ak
  rw [List.getD_eq_getElem?_getD, List.getElem?_eq_none (show akT.length ≤ k from h)]
  rfl
theorem ent_arr {tc : Nat → ClassId} {ad : Ad} {L : Lay} {X : Mem} {k i : Nat} (h : ak k < 3) : ent tc ad L X (k, i) = .inl (tc (ak k), nsl k, .inl (X k i)) := by
  have h1 : ¬ k < nObj := fun q => by rw [ak_obj k q] at h; omega
  exact (if_neg h1).trans (if_pos h)
theorem ent_arq {tc : Nat → ClassId} {ad : Ad} {L : Lay} {X : Mem} {k i : Nat} (h : ak k = 3 ∨ ak k = 4) : ent tc ad L X (k, i) = .inl (tc (ak k), nsl k, .inr (.inr (.inr (.inr (fun j => (L k i j).map fun r => ad r.1 r.2))))) := by
  have h1 : ¬ k < nObj := fun q => by rw [ak_obj k q] at h; omega
  have h2 : ¬ ak k < 3 := by omega
  exact (if_neg h1).trans (if_neg h2)
theorem okv_obj {wl : Obs} {k i : Nat} (h : okv wl (vr k i)) (hk : k < nObj) : (k, i) ∈ wl := h.resolve_right (fun q => by have q2 : (90 : Nat) ≤ k := q; have h3 : nObj = 13 := rfl; omega)
theorem okv_arr {wl : Obs} {k i : Nat} (h : okv wl (vr k i)) (hk : ak k ≠ 9) : (k, i) ∈ wl := h.resolve_right (fun q => hk (ak_big q))
theorem range_get {α : Type} {f : Nat → α} {n j : Nat} (h : j < n) : ((List.range n).map f)[j]? = some (f j) := by simp [h]
theorem range_set {f g : Nat → Value} {n j : Nat} {v : Value} (hj : g j = v) (hg : ∀ k, k ≠ j → g k = f k) : ((List.range n).map f).set j v = (List.range n).map g := by
  apply List.ext_getElem?
  intro k
  by_cases hk : k < n
  · by_cases e : k = j
    · subst e
      rw [List.getElem?_set_self (by simp [hk])]
      simp [hk, hj]
    · rw [List.getElem?_set_ne (Ne.symm e)]
      simp [hk, hg k e]
  · rw [List.getElem?_eq_none (by simp; omega), List.getElem?_eq_none (by simp; omega)]
section RH
variable {own : String} {cc : ByteArray} {nL fr lo rc rs : Nat} {sc : Option (Nat × (Nat → Int32))} {isI : Bool} {J : Nat → Lv → List AV → Obs → Lay → Nat → Nat → Mem → Mem → Prop}
variable {pc : Nat} {lv : Lv} {st : List AV} {wl : Obs} {L : Lay} {ce sz : Nat} {Sc Sm : Mem} {idx k i j : Nat}
theorem Cl.getX (h : Cl own cc nL fr lo rc rs sc isI J) (hd : decode cc pc = .ok (.getfield idx, 3)) (hf : FL own idx k j) (hr : isRf k j = false) {x : Int32} (hv : mm Sc Sm k i j = x) (kk : J (pc + 3) lv (vi x :: st) wl L ce sz Sc Sm) : J pc lv (vr k i :: st) wl L ce sz Sc Sm := by
  obtain ⟨p, l, e, R, s, m, args, below, meth, c, Q, D, tc, sa, A, Ts, wp, ap, ⟨⟨hx, hb, hml, hown, hts⟩, hG, hE, hA, hX⟩, ⟨hRf, hRl, hRc, hRs⟩, hI, rfl⟩ := h
  obtain ⟨C, T, ty0, ⟨k1, k2, k3, k4, k5, k6⟩, f1, f2⟩ := hf
  intro o1 o2 w1 ad H locs ls w2 hW hS hL
  obtain ⟨n, hn⟩ := List.getElem?_of_mem (okv_obj o2.hd k2)
  have he := wls_at (tc := tc) (ad := ad) (L := L) (X := mm Sc Sm) hn
  rw [ent_obj k2] at he
  have hv' : fvv ad L (mm Sc Sm) k i j = .int x := by unfold fvv; rw [if_neg (by rw [hr]; decide), hv]
  exact va_get (D := D) (v := .int x) hx hb hts (fun w h => hG w (k3 w h)) hown hE.1 hW.2.2.2.1 n he k1 j f1 (hts _ (hG _ f2)) (fun _ h => h) (by rw [range_get f1, hv']) hd (kk o1 o2.tl.i w1 ad H locs ls w2 hW hS hL)
theorem Cl.getI (h : Cl own cc nL fr lo rc rs sc isI J) (hd : decode cc pc = .ok (.getfield idx, 3)) (hf : FL own idx k j) (hr : isRf k j = false) (hs : sd k = false) (kk : J (pc + 3) lv (vi (Sc k i j) :: st) wl L ce sz Sc Sm) : J pc lv (vr k i :: st) wl L ce sz Sc Sm := h.getX hd hf hr (by rw [mm_c hs]) kk
theorem Cl.getM (h : Cl own cc nL fr lo rc rs sc isI J) (hd : decode cc pc = .ok (.getfield idx, 3)) (hf : FL own idx k j) (hr : isRf k j = false) (hs : sd k = true) (kk : J (pc + 3) lv (vi (Sm k i j) :: st) wl L ce sz Sc Sm) : J pc lv (vr k i :: st) wl L ce sz Sc Sm := h.getX hd hf hr (by rw [mm_m hs]) kk
theorem Cl.getR (h : Cl own cc nL fr lo rc rs sc isI J) (hd : decode cc pc = .ok (.getfield idx, 3)) (hf : FL own idx k j) (hr : isRf k j = true) {k' i' : Nat} (hL' : L k i j = some (k', i')) (kk : J (pc + 3) lv (vr k' i' :: st) wl L ce sz Sc Sm) : J pc lv (vr k i :: st) wl L ce sz Sc Sm := by
  obtain ⟨p, l, e, R, s, m, args, below, meth, c, Q, D, tc, sa, A, Ts, wp, ap, ⟨⟨hx, hb, hml, hown, hts⟩, hG, hE, hA, hX⟩, ⟨hRf, hRl, hRc, hRs⟩, hI, rfl⟩ := h
  obtain ⟨C, T, ty0, ⟨k1, k2, k3, k4, k5, k6⟩, f1, f2⟩ := hf
  intro o1 o2 w1 ad H locs ls w2 hW hS hL
  have hm := okv_obj o2.hd k2
  obtain ⟨n, hn⟩ := List.getElem?_of_mem hm
  have he := wls_at (tc := tc) (ad := ad) (L := L) (X := mm Sc Sm) hn
  rw [ent_obj k2] at he
  have hv' : fvv ad L (mm Sc Sm) k i j = .ref (ad k' i') := by unfold fvv; rw [if_pos hr, hL']; rfl
  exact va_get (D := D) (v := .ref (ad k' i')) hx hb hts (fun w h => hG w (k3 w h)) hown hE.1 hW.2.2.2.1 n he k1 j f1 (hts _ (hG _ f2)) (fun _ h => h) (by rw [range_get f1, hv']) hd (kk o1 (okS.cons (v := vr k' i') (Or.inl (hW.2.2.1 _ hm j _ hL')) o2.tl) w1 ad H locs ls w2 hW hS hL)
theorem Cl.putX (h : Cl own cc nL fr lo rc rs sc isI J) {ty : FieldType} (hd : decode cc pc = .ok (.putfield idx, 3)) (hf : FP own idx k j ty) (hr : isRf k j = false) {x : Int32} (hn : narrow ty (.int x) = .int x) (hfit : fits ty (.int x) = true) {Sc' Sm' : Mem} (hmm : mm Sc' Sm' = up (mm Sc Sm) k i j x) (kk : J (pc + 3) lv st wl L ce sz Sc' Sm') : J pc lv (vi x :: vr k i :: st) wl L ce sz Sc Sm := by
  obtain ⟨p, l, e, R, s, m, args, below, meth, c, Q, D, tc, sa, A, Ts, wp, ap, ⟨⟨hx, hb, hml, hown, hts⟩, hG, hE, hA, hX⟩, ⟨hRf, hRl, hRc, hRs⟩, hI, rfl⟩ := h
  obtain ⟨C, T, ty0, ⟨k1, k2, k3, k4, k5, k6⟩, f1, f2, f3, f4⟩ := hf
  intro o1 o2 w1 ad H locs ls w2 hW hS hL
  have hm := okv_obj o2.tl.hd k2
  obtain ⟨n, hn'⟩ := List.getElem?_of_mem hm
  have he := wls_at (tc := tc) (ad := ad) (L := L) (X := mm Sc Sm) hn'
  rw [ent_obj k2] at he
  refine va_put (D := D) (v := .int x) hx hb hts (fun w h => hG w (k3 w h)) ty0 k4 k5 hown hE.1 hW.2.2.2.1 (hW.2.1.D tc L (mm Sc Sm)) hS n he k1 j f1 (hts _ (hG _ f2)) (fun _ h => h) f3 f4 hn hfit (by simp [f1]) hd (fun H1 locs1 hP1 _ hS1 => ?_)
  refine kk o1 o2.tl.tl w1 ad H1 locs1 ls w2 ⟨hW.1, hW.2.1, hW.2.2.1, ?_, hW.2.2.2.2⟩ hS1 hL
  rw [hmm]
  refine PW.set (q := (k, i)) hn' hW.2.1 ?_ (fun r _ hne => ent_congr (fun j' => up_ne hne j') (fun _ => rfl) (fun _ _ _ => rfl))
  rw [ent_obj k2]
  rw [range_set (g := fvv ad L (up (mm Sc Sm) k i j x) k i)] at hP1
  · exact hP1
  · unfold fvv; rw [if_neg (by rw [hr]; decide)]; simp [up]
  · intro j' hne
    unfold fvv
    split
    · rfl
    · simp [up, hne]
theorem Cl.putI (h : Cl own cc nL fr lo rc rs sc isI J) (hd : decode cc pc = .ok (.putfield idx, 3)) (hf : FP own idx k j .int) (hr : isRf k j = false) {x : Int32} (hs : sd k = false) (kk : J (pc + 3) lv st wl L ce sz (up Sc k i j x) Sm) : J pc lv (vi x :: vr k i :: st) wl L ce sz Sc Sm := h.putX hd hf hr rfl rfl (mm_upC hs) kk
theorem Cl.putM (h : Cl own cc nL fr lo rc rs sc isI J) (hd : decode cc pc = .ok (.putfield idx, 3)) (hf : FP own idx k j .int) (hr : isRf k j = false) {x : Int32} (hs : sd k = true) (kk : J (pc + 3) lv st wl L ce sz Sc (up Sm k i j x)) : J pc lv (vi x :: vr k i :: st) wl L ce sz Sc Sm := h.putX hd hf hr rfl rfl (mm_upM hs) kk
theorem bool_nar {x : Int32} (h : x = 0 ∨ x = 1) : narrow .boolean (.int x) = .int x ∧ fits .boolean (.int x) = true := by
  rcases h with rfl | rfl <;> exact ⟨by decide, by decide⟩
theorem Cl.putZ (h : Cl own cc nL fr lo rc rs sc isI J) (hd : decode cc pc = .ok (.putfield idx, 3)) (hf : FP own idx k j .boolean) (hr : isRf k j = false) {x : Int32} (hb01 : x = 0 ∨ x = 1) (hs : sd k = false) (kk : J (pc + 3) lv st wl L ce sz (up Sc k i j x) Sm) : J pc lv (vi x :: vr k i :: st) wl L ce sz Sc Sm := h.putX hd hf hr (bool_nar hb01).1 (bool_nar hb01).2 (mm_upC hs) kk
theorem Cl.putZM (h : Cl own cc nL fr lo rc rs sc isI J) (hd : decode cc pc = .ok (.putfield idx, 3)) (hf : FP own idx k j .boolean) (hr : isRf k j = false) {x : Int32} (hb01 : x = 0 ∨ x = 1) (hs : sd k = true) (kk : J (pc + 3) lv st wl L ce sz Sc (up Sm k i j x)) : J pc lv (vi x :: vr k i :: st) wl L ce sz Sc Sm := h.putX hd hf hr (bool_nar hb01).1 (bool_nar hb01).2 (mm_upM hs) kk
/-! ===== arrays ===== -/
theorem Cl.aldX (h : Cl own cc nL fr lo rc rs sc isI J) {ins : Instr} (hins : (ins = .iaload ∧ ak k = 0) ∨ (ins = .baload ∧ (ak k = 1 ∨ ak k = 2))) (hd : decode cc pc = .ok (ins, 1)) {x : Int32} {n : Nat} (hn : nsl k = n) (hi : ix x n = some j) {v : Int32} (hv : mm Sc Sm k i j = v) (kk : J (pc + 1) lv (vi v :: st) wl L ce sz Sc Sm) : J pc lv (vi x :: vr k i :: st) wl L ce sz Sc Sm := by
  obtain ⟨p, l, e, R, s, m, args, below, meth, c, Q, D, tc, sa, A, Ts, wp, ap, ⟨⟨hx, hb, hml, hown, hts⟩, hG, hE, hA, hX⟩, ⟨hRf, hRl, hRc, hRs⟩, hI, rfl⟩ := h
  intro o1 o2 w1 ad H locs ls w2 hW hS hL
  have h9 : ak k < 3 := by omega
  have hm := okv_arr o2.tl.hd (by omega)
  obtain ⟨n', hn'⟩ := List.getElem?_of_mem hm
  have he := wls_at (tc := tc) (ad := ad) (L := L) (X := mm Sc Sm) hn'
  rw [ent_arr h9] at he
  subst hn
  obtain ⟨i1, i2, i3⟩ := ix_some hi
  subst hv
  subst i2
  have hk := kk o1 o2.tl.tl.i w1 ad H locs ls w2 hW hS hL
  rcases hins with ⟨rfl, h0⟩ | ⟨rfl, h0 | h0⟩
  · rw [h0] at he
    exact va_iald hx hb hE.1 hW.2.2.2.1 n' 0 he rfl i1 hd hk
  · rw [h0] at he
    exact va_bald hx hb hE.1 hW.2.2.2.1 n' 1 he rfl i1 hd hk
  · rw [h0] at he
    exact va_zald hx hb hE.1 hW.2.2.2.1 n' 2 he rfl i1 hd hk
theorem Cl.iald (h : Cl own cc nL fr lo rc rs sc isI J) (hd : decode cc pc = .ok (.iaload, 1)) (hk : ak k = 0) {x : Int32} {n : Nat} (hn : nsl k = n) (hi : ix x n = some j) (hs : sd k = false) (kk : J (pc + 1) lv (vi (Sc k i j) :: st) wl L ce sz Sc Sm) : J pc lv (vi x :: vr k i :: st) wl L ce sz Sc Sm := h.aldX (Or.inl ⟨rfl, hk⟩) hd hn hi (by rw [mm_c hs]) kk
theorem Cl.ialdM (h : Cl own cc nL fr lo rc rs sc isI J) (hd : decode cc pc = .ok (.iaload, 1)) (hk : ak k = 0) {x : Int32} {n : Nat} (hn : nsl k = n) (hi : ix x n = some j) (hs : sd k = true) (kk : J (pc + 1) lv (vi (Sm k i j) :: st) wl L ce sz Sc Sm) : J pc lv (vi x :: vr k i :: st) wl L ce sz Sc Sm := h.aldX (Or.inl ⟨rfl, hk⟩) hd hn hi (by rw [mm_m hs]) kk
theorem Cl.bald (h : Cl own cc nL fr lo rc rs sc isI J) (hd : decode cc pc = .ok (.baload, 1)) (hk : ak k = 1 ∨ ak k = 2) {x : Int32} {n : Nat} (hn : nsl k = n) (hi : ix x n = some j) (hs : sd k = false) (kk : J (pc + 1) lv (vi (Sc k i j) :: st) wl L ce sz Sc Sm) : J pc lv (vi x :: vr k i :: st) wl L ce sz Sc Sm := h.aldX (Or.inr ⟨rfl, hk⟩) hd hn hi (by rw [mm_c hs]) kk
theorem up_row {X : Mem} {k i j : Nat} {v : Int32} : upd (X k i) j v = up X k i j v k i := by
  funext q
  simp [up, upd]
theorem Cl.astX (h : Cl own cc nL fr lo rc rs sc isI J) {ins : Instr} {v w : Int32} (hins : (ins = .iastore ∧ ak k = 0 ∧ w = v) ∨ (ins = .bastore ∧ ak k = 1 ∧ w = vp_nar .byte v) ∨ (ins = .bastore ∧ ak k = 2 ∧ w = vp_nar .boolean v)) (hd : decode cc pc = .ok (ins, 1)) {x : Int32} {n : Nat} (hn : nsl k = n) (hi : ix x n = some j) {Sc' Sm' : Mem} (hmm : mm Sc' Sm' = up (mm Sc Sm) k i j w) (kk : J (pc + 1) lv st wl L ce sz Sc' Sm') : J pc lv (vi v :: vi x :: vr k i :: st) wl L ce sz Sc Sm := by
  obtain ⟨p, l, e, R, s, m, args, below, meth, c, Q, D, tc, sa, A, Ts, wp, ap, ⟨⟨hx, hb, hml, hown, hts⟩, hG, hE, hA, hX⟩, ⟨hRf, hRl, hRc, hRs⟩, hI, rfl⟩ := h
  intro o1 o2 w1 ad H locs ls w2 hW hS hL
  have h9 : ak k < 3 := by omega
  have hm := okv_arr o2.tl.tl.hd (by omega)
  obtain ⟨n', hn'⟩ := List.getElem?_of_mem hm
  have he := wls_at (tc := tc) (ad := ad) (L := L) (X := mm Sc Sm) hn'
  rw [ent_arr h9] at he
  subst hn
  obtain ⟨i1, i2, i3⟩ := ix_some hi
  subst i2
  have fin : ∀ (H1 : Heap) (locs1 : List Loc), va_P D vwCl ((wls tc ad wl L (mm Sc Sm)).set n' (ad k i, .inl (tc (ak k), nsl k, .inl (upd (mm Sc Sm k i) x.toNatClampNeg w)))) H1 → va_S A s.heap H1 locs1 → W p l e R s m args below meth c H1 locs1 ce sz Q (F0 m (pc + 1) ls (st.map (cv ad))) := by
    intro H1 locs1 hP1 hS1
    refine kk o1 o2.tl.tl.tl w1 ad H1 locs1 ls w2 ⟨hW.1, hW.2.1, hW.2.2.1, ?_, hW.2.2.2.2⟩ hS1 hL
    rw [hmm]
    refine PW.set (q := (k, i)) hn' hW.2.1 ?_ (fun r _ hne => ent_congr (fun j' => up_ne hne j') (fun _ => rfl) (fun _ _ _ => rfl))
    rw [ent_arr h9, ← up_row]
    exact hP1
  rcases hins with ⟨rfl, h0, rfl⟩ | ⟨rfl, h0, rfl⟩ | ⟨rfl, h0, rfl⟩
  · rw [h0] at he fin
    exact va_iast hx hb hE.1 hW.2.2.2.1 (hW.2.1.D tc L (mm Sc Sm)) hS n' 0 he rfl i1 hd (fun H1 locs1 hP1 _ hS1 => fin H1 locs1 hP1 hS1)
  · rw [h0] at he fin
    exact va_bast hx hb hE.1 hW.2.2.2.1 (hW.2.1.D tc L (mm Sc Sm)) hS n' 1 he rfl i1 hd (fun H1 locs1 hP1 _ hS1 => fin H1 locs1 hP1 hS1)
  · rw [h0] at he fin
    exact va_zast hx hb hE.1 hW.2.2.2.1 (hW.2.1.D tc L (mm Sc Sm)) hS n' 2 he rfl i1 hd (fun H1 locs1 hP1 _ hS1 => fin H1 locs1 hP1 hS1)
theorem Cl.iast (h : Cl own cc nL fr lo rc rs sc isI J) {v : Int32} (hd : decode cc pc = .ok (.iastore, 1)) (hk : ak k = 0) {x : Int32} {n : Nat} (hn : nsl k = n) (hi : ix x n = some j) (hs : sd k = false) (kk : J (pc + 1) lv st wl L ce sz (up Sc k i j v) Sm) : J pc lv (vi v :: vi x :: vr k i :: st) wl L ce sz Sc Sm := h.astX (Or.inl ⟨rfl, hk, rfl⟩) hd hn hi (mm_upC hs) kk
theorem Cl.iastM (h : Cl own cc nL fr lo rc rs sc isI J) {v : Int32} (hd : decode cc pc = .ok (.iastore, 1)) (hk : ak k = 0) {x : Int32} {n : Nat} (hn : nsl k = n) (hi : ix x n = some j) (hs : sd k = true) (kk : J (pc + 1) lv st wl L ce sz Sc (up Sm k i j v)) : J pc lv (vi v :: vi x :: vr k i :: st) wl L ce sz Sc Sm := h.astX (Or.inl ⟨rfl, hk, rfl⟩) hd hn hi (mm_upM hs) kk
theorem Cl.bast (h : Cl own cc nL fr lo rc rs sc isI J) {v : Int32} (hd : decode cc pc = .ok (.bastore, 1)) (hk : ak k = 1) {x : Int32} {n : Nat} (hn : nsl k = n) (hi : ix x n = some j) (hs : sd k = false) (kk : J (pc + 1) lv st wl L ce sz (up Sc k i j (vp_nar .byte v)) Sm) : J pc lv (vi v :: vi x :: vr k i :: st) wl L ce sz Sc Sm := h.astX (Or.inr (Or.inl ⟨rfl, hk, rfl⟩)) hd hn hi (mm_upC hs) kk
theorem Cl.zast (h : Cl own cc nL fr lo rc rs sc isI J) {v : Int32} (hd : decode cc pc = .ok (.bastore, 1)) (hk : ak k = 2) {x : Int32} {n : Nat} (hn : nsl k = n) (hi : ix x n = some j) (hs : sd k = false) (kk : J (pc + 1) lv st wl L ce sz (up Sc k i j (vp_nar .boolean v)) Sm) : J pc lv (vi v :: vi x :: vr k i :: st) wl L ce sz Sc Sm := h.astX (Or.inr (Or.inr ⟨rfl, hk, rfl⟩)) hd hn hi (mm_upC hs) kk
theorem Cl.aald (h : Cl own cc nL fr lo rc rs sc isI J) (hd : decode cc pc = .ok (.aaload, 1)) (hk : ak k = 3 ∨ ak k = 4) {x : Int32} {n : Nat} (hn : nsl k = n) (hi : ix x n = some j) {k' i' : Nat} (hL' : L k i j = some (k', i')) (kk : J (pc + 1) lv (vr k' i' :: st) wl L ce sz Sc Sm) : J pc lv (vi x :: vr k i :: st) wl L ce sz Sc Sm := by
  obtain ⟨p, l, e, R, s, m, args, below, meth, c, Q, D, tc, sa, A, Ts, wp, ap, ⟨⟨hx, hb, hml, hown, hts⟩, hG, hE, hA, hX⟩, ⟨hRf, hRl, hRc, hRs⟩, hI, rfl⟩ := h
  intro o1 o2 w1 ad H locs ls w2 hW hS hL
  have hm := okv_arr o2.tl.hd (by omega)
  obtain ⟨n', hn'⟩ := List.getElem?_of_mem hm
  have he := wls_at (tc := tc) (ad := ad) (L := L) (X := mm Sc Sm) hn'
  rw [ent_arq hk] at he
  subst hn
  obtain ⟨i1, i2, i3⟩ := ix_some hi
  subst i2
  have hk2 := kk o1 (okS.cons (v := vr k' i') (Or.inl (hW.2.2.1 _ hm _ _ hL')) o2.tl.tl) w1 ad H locs ls w2 hW hS hL
  have hv : va_rf ((L k i x.toNatClampNeg).map fun r => ad r.1 r.2) = .ref (ad k' i') := by rw [hL']; rfl
  rcases hk with h0 | h0
  · rw [h0] at he
    refine va_aldq hx hb hE.1 hW.2.2.2.1 n' 3 he rfl i1 hd ?_
    rw [hv]
    exact hk2
  · rw [h0] at he
    refine va_aldq hx hb hE.1 hW.2.2.2.1 n' 4 he rfl i1 hd ?_
    rw [hv]
    exact hk2
theorem Cl.alen (h : Cl own cc nL fr lo rc rs sc isI J) (hd : decode cc pc = .ok (.arraylength, 1)) (hk : ak k = 0) {n : Nat} (hn : nsl k = n) {v : Int32} (hv : Int32.ofNat n = v) (kk : J (pc + 1) lv (vi v :: st) wl L ce sz Sc Sm) : J pc lv (vr k i :: st) wl L ce sz Sc Sm := by
  obtain ⟨p, l, e, R, s, m, args, below, meth, c, Q, D, tc, sa, A, Ts, wp, ap, ⟨⟨hx, hb, hml, hown, hts⟩, hG, hE, hA, hX⟩, ⟨hRf, hRl, hRc, hRs⟩, hI, rfl⟩ := h
  intro o1 o2 w1 ad H locs ls w2 hW hS hL
  have hm := okv_arr o2.hd (by omega)
  obtain ⟨n', hn'⟩ := List.getElem?_of_mem hm
  have he := wls_at (tc := tc) (ad := ad) (L := L) (X := mm Sc Sm) hn'
  rw [ent_arr (by omega), hk] at he
  subst hn
  exact va_alen hx hb hE.1 hW.2.2.2.1 n' 0 he rfl hv hd (kk o1 o2.tl.i w1 ad H locs ls w2 hW hS hL)
/-! ===== strings and statics ===== -/
theorem Cl.ldcS (h : Cl "PaperAger$Token" cc nL fr lo rc rs sc isI J) {i : Nat} (hi : i < 2) (hd : decode cc pc = .ok (.ldc (sPool i), 2)) (kk : J (pc + 2) lv (vr 90 i :: st) wl L ce sz Sc Sm) : J pc lv st wl L ce sz Sc Sm := by
  obtain ⟨p, l, e, R, s, m, args, below, meth, c, Q, D, tc, sa, A, Ts, wp, ap, ⟨⟨hx, hb, hml, hown, hts⟩, hG, hE, hA, hX⟩, ⟨hRf, hRl, hRc, hRs⟩, hI, rfl⟩ := h
  intro o1 o2 w1 ad H locs ls w2 hW hS hL
  refine va_ldcS hx hb hown (hE.2.2.2.1 i hi) hd ?_
  have h1 := kk o1 (okS.cons (v := vr 90 i) (Or.inr (Nat.le_refl 90)) o2) w1 ad H locs ls w2 hW hS hL
  rw [← hW.1 90 i (Nat.le_refl 90)]
  exact h1
theorem Cl.getSV (h : Cl own cc nL fr lo rc rs sc isI J) {i : Nat} (hi : i < 2) (hd : decode cc pc = .ok (.getfield idx, 3)) (hf : Jvm.Cond.fieldLink own idx "java/lang/String" "value" "[B" ∈ GT) (kk : J (pc + 3) lv (vr 91 i :: st) wl L ce sz Sc Sm) : J pc lv (vr 90 i :: st) wl L ce sz Sc Sm := by
  obtain ⟨p, l, e, R, s, m, args, below, meth, c, Q, D, tc, sa, A, Ts, wp, ap, ⟨⟨hx, hb, hml, hown, hts⟩, hG, hE, hA, hX⟩, ⟨hRf, hRl, hRc, hRs⟩, hI, rfl⟩ := h
  intro o1 o2 w1 ad H locs ls w2 hW hS hL
  have h1 := kk o1 (okS.cons (v := vr 91 i) (Or.inr (show 90 ≤ 91 by decide)) o2.tl) w1 ad H locs ls w2 hW hS hL
  show W _ _ _ _ _ _ _ _ _ _ _ _ _ _ _ (F0 m pc ls (.ref (ad 90 i) :: st.map (cv ad)))
  rw [hW.1 90 i (Nat.le_refl 90)]
  refine vk_getf hx hb (hE.2.2.1.1 i hi).2.2.1 hS hown (hts _ (hG _ hf)) (fun _ h => h) hd ?_
  rw [← hW.1 91 i (by decide)]
  exact h1
theorem Cl.getSC (h : Cl own cc nL fr lo rc rs sc isI J) {i : Nat} (hi : i < 2) (hd : decode cc pc = .ok (.getfield idx, 3)) (hf : Jvm.Cond.fieldLink own idx "java/lang/String" "coder" "B" ∈ GT) (kk : J (pc + 3) lv (vi 0 :: st) wl L ce sz Sc Sm) : J pc lv (vr 90 i :: st) wl L ce sz Sc Sm := by
  obtain ⟨p, l, e, R, s, m, args, below, meth, c, Q, D, tc, sa, A, Ts, wp, ap, ⟨⟨hx, hb, hml, hown, hts⟩, hG, hE, hA, hX⟩, ⟨hRf, hRl, hRc, hRs⟩, hI, rfl⟩ := h
  intro o1 o2 w1 ad H locs ls w2 hW hS hL
  have h1 := kk o1 o2.tl.i w1 ad H locs ls w2 hW hS hL
  show W _ _ _ _ _ _ _ _ _ _ _ _ _ _ _ (F0 m pc ls (.ref (ad 90 i) :: st.map (cv ad)))
  rw [hW.1 90 i (Nat.le_refl 90)]
  exact vk_getf hx hb (hE.2.2.1.1 i hi).2.1 hS hown (hts _ (hG _ hf)) (fun _ h => h) hd h1
theorem Cl.getCS (h : Cl own cc nL fr lo rc rs sc isI J) (hd : decode cc pc = .ok (.getstatic idx, 3)) (hf : Jvm.Cond.fieldLink own idx "java/lang/String" "COMPACT_STRINGS" "Z" ∈ GT) (kk : J (pc + 3) lv (vi 1 :: st) wl L ce sz Sc Sm) : J pc lv st wl L ce sz Sc Sm := by
  obtain ⟨p, l, e, R, s, m, args, below, meth, c, Q, D, tc, sa, A, Ts, wp, ap, ⟨⟨hx, hb, hml, hown, hts⟩, hG, hE, hA, hX⟩, ⟨hRf, hRl, hRc, hRs⟩, hI, rfl⟩ := h
  intro o1 o2 w1 ad H locs ls w2 hW hS hL
  exact va_gets hx hb hE.2.2.2.2.1 hS hown (hts _ (hG _ hf)) (fun _ h => h) hd (kk o1 o2.i w1 ad H locs ls w2 hW hS hL)
theorem Cl.getSF (h : Cl own cc nL fr lo rc rs sc isI J) (hd : decode cc pc = .ok (.getstatic idx, 3)) (hf : Jvm.Cond.fieldLink own idx "jdk/internal/util/Preconditions" "SIOOBE_FORMATTER" "Ljava/util/function/BiFunction;" ∈ GT) (kk : ∀ r : Option (Nat × Nat), J (pc + 3) lv (.inr r :: st) wl L ce sz Sc Sm) : J pc lv st wl L ce sz Sc Sm := by
  obtain ⟨p, l, e, R, s, m, args, below, meth, c, Q, D, tc, sa, A, Ts, wp, ap, ⟨⟨hx, hb, hml, hown, hts⟩, hG, hE, hA, hX⟩, ⟨hRf, hRl, hRc, hRs⟩, hI, rfl⟩ := h
  intro o1 o2 w1 ad H locs ls w2 hW hS hL
  rcases hE.2.2.2.2.2.2.2 with hZ | hZ
  · exact va_gets hx hb hZ hS hown (hts _ (hG _ hf)) (fun _ h => h) hd (kk none o1 o2.n w1 ad H locs ls w2 hW hS hL)
  · refine va_gets hx hb hZ hS hown (hts _ (hG _ hf)) (fun _ h => h) hd ?_
    have h1 := kk (some (98, 0)) o1 (okS.cons (v := vr 98 0) (Or.inr (show 90 ≤ 98 by decide)) o2) w1 ad H locs ls w2 hW hS hL
    rw [← hW.1 98 0 (by decide)]
    exact h1
theorem Cl.sbald (h : Cl own cc nL fr lo rc rs sc isI J) {i : Nat} (hi : i < 2) (hd : decode cc pc = .ok (.baload, 1)) {x : Int32} (hj : ix x (sLen.getD i 0) = some j) (kk : J (pc + 1) lv (vi ((sByt.getD i []).getD j 0) :: st) wl L ce sz Sc Sm) : J pc lv (vi x :: vr 91 i :: st) wl L ce sz Sc Sm := by
  obtain ⟨p, l, e, R, s, m, args, below, meth, c, Q, D, tc, sa, A, Ts, wp, ap, ⟨⟨hx, hb, hml, hown, hts⟩, hG, hE, hA, hX⟩, ⟨hRf, hRl, hRc, hRs⟩, hI, rfl⟩ := h
  intro o1 o2 w1 ad H locs ls w2 hW hS hL
  obtain ⟨i1, i2, i3⟩ := ix_some hj
  subst i2
  have h1 := kk o1 o2.tl.tl.i w1 ad H locs ls w2 hW hS hL
  show W _ _ _ _ _ _ _ _ _ _ _ _ _ _ _ (F0 m pc ls (.int x :: .ref (ad 91 i) :: st.map (cv ad)))
  rw [hW.1 91 i (by decide)]
  exact va_tb hx hb (hE.2.2.1.1 i hi).2.2.2 hS i1 rfl hd h1
theorem Cl.salen (h : Cl own cc nL fr lo rc rs sc isI J) {i : Nat} (hi : i < 2) (hd : decode cc pc = .ok (.arraylength, 1)) {v : Int32} (hv : Int32.ofNat (sLen.getD i 0) = v) (kk : J (pc + 1) lv (vi v :: st) wl L ce sz Sc Sm) : J pc lv (vr 91 i :: st) wl L ce sz Sc Sm := by
  obtain ⟨p, l, e, R, s, m, args, below, meth, c, Q, D, tc, sa, A, Ts, wp, ap, ⟨⟨hx, hb, hml, hown, hts⟩, hG, hE, hA, hX⟩, ⟨hRf, hRl, hRc, hRs⟩, hI, rfl⟩ := h
  intro o1 o2 w1 ad H locs ls w2 hW hS hL
  have h1 := kk o1 o2.tl.i w1 ad H locs ls w2 hW hS hL
  show W _ _ _ _ _ _ _ _ _ _ _ _ _ _ _ (F0 m pc ls (.ref (ad 91 i) :: st.map (cv ad)))
  rw [hW.1 91 i (by decide)]
  exact va_tlen hx hb (hE.2.2.1.1 i hi).2.2.2 hS hv hd h1
/-! ===== the script ===== -/
theorem Cl.scld {n : Nat} {xs : Nat → Int32} (h : Cl own cc nL fr lo rc rs (some (n, xs)) isI J) (hd : decode cc pc = .ok (.iaload, 1)) {x : Int32} (hj : ix x n = some j) (kk : J (pc + 1) lv (vi (xs j) :: st) wl L ce sz Sc Sm) : J pc lv (vi x :: vr 99 0 :: st) wl L ce sz Sc Sm := by
  obtain ⟨p, l, e, R, s, m, args, below, meth, c, Q, D, tc, sa, A, Ts, wp, ap, ⟨⟨hx, hb, hml, hown, hts⟩, hG, hE, hA, hX⟩, ⟨hRf, hRl, hRc, hRs⟩, hI, rfl⟩ := h
  intro o1 o2 w1 ad H locs ls w2 hW hS hL
  obtain ⟨i1, i2, i3⟩ := ix_some hj
  subst i2
  have h1 := kk o1 o2.tl.tl.i w1 ad H locs ls w2 hW hS hL
  show W _ _ _ _ _ _ _ _ _ _ _ _ _ _ _ (F0 m pc ls (.int x :: .ref (ad 99 0) :: st.map (cv ad)))
  rw [hW.1 99 0 (by decide)]
  exact va_sld hx hb hX.1 hX.2.1 hX.2.2 hS i1 hd h1
theorem Cl.sclen {n : Nat} {xs : Nat → Int32} (h : Cl own cc nL fr lo rc rs (some (n, xs)) isI J) (hd : decode cc pc = .ok (.arraylength, 1)) (kk : J (pc + 1) lv (vi (nI n) :: st) wl L ce sz Sc Sm) : J pc lv (vr 99 0 :: st) wl L ce sz Sc Sm := by
  obtain ⟨p, l, e, R, s, m, args, below, meth, c, Q, D, tc, sa, A, Ts, wp, ap, ⟨⟨hx, hb, hml, hown, hts⟩, hG, hE, hA, hX⟩, ⟨hRf, hRl, hRc, hRs⟩, hI, rfl⟩ := h
  intro o1 o2 w1 ad H locs ls w2 hW hS hL
  have h1 := kk o1 o2.tl.i w1 ad H locs ls w2 hW hS hL
  show W _ _ _ _ _ _ _ _ _ _ _ _ _ _ _ (F0 m pc ls (.ref (ad 99 0) :: st.map (cv ad)))
  rw [hW.1 99 0 (by decide)]
  exact va_slen hx hb hX.1 hX.2.1 hX.2.2 hS hd h1
end RH
