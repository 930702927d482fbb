/-! ===== Math, arraycopy ===== -/
section RM
variable {own : String} {cc : ByteArray} {nL fr lo rc rs : Nat} {sc : Option (Nat × (Nat → Int32))} {isI : Bool} {J : Nat → Lv → List AV → Obs → Lay → Nat → Nat → Mem → Mem → Prop}
variable {pc : Nat} {lv : Lv} {st : List AV} {wl : Obs} {L : Lay} {ce sz : Nat} {Sc Sm : Mem} {idx k i j : Nat}
def MW (own : String) (idx : Nat) (y : MethodName) (bytes : ByteArray) (n : Nat) : Prop := Jvm.Cond.methodLink own idx y ∈ GT ∧ Jvm.Cond.static y ∈ GT ∧ Jvm.Cond.initialized "java/lang/Math" ∈ GT ∧ Jvm.Cond.code y bytes n (some .int) ∈ GT
theorem Cl.mmax (h : Cl own cc nL fr lo rc rs sc isI J) {x y : Int32} (hd : decode cc pc = .ok (.invokestatic idx, 3)) (hw : MW own idx Lib.Math.max.name Lib.Math.max.code 2) (hr : 1 ≤ fr ∧ st.length + 13 ≤ lo ∧ ce ≤ rc ∧ sz ≤ rs) (kk : J (pc + 3) lv (vi (if x < y then y else x) :: st) wl L ce sz Sc Sm) : J pc lv (vi y :: vi x :: st) wl L ce sz Sc Sm := by
  obtain ⟨p, l, e, R, s, m, args, below, meth, c, Q, D, tc, sa, A, Ts, wp, ap, ⟨⟨hx, hb, hml, hown, hts⟩, hG, hE, hA, hX⟩, ⟨hRf, hRl, hRc, hRs⟩, hI, rfl⟩ := h
  intro o1 o2 w1 ad H locs ls w2 hW hS hL
  obtain ⟨m1, m2, m3, m4⟩ := hr
  exact va_mmax hx hb (hml.trans hL.1.symm) hown (hts _ (hG _ hw.1)) (hts _ (hG _ hw.2.1)) (hts _ (hG _ hw.2.2.1)) (hts _ (hG _ hw.2.2.2)) (by rw [hRf]; exact m1) (by rw [cat_sum, hRl]; exact m2) (by rw [hRc]; exact m3) (by rw [hRs]; exact m4) hd (kk o1 o2.tl.tl.i w1 ad H locs ls w2 hW hS hL)
theorem Cl.mmin (h : Cl own cc nL fr lo rc rs sc isI J) {x y : Int32} (hd : decode cc pc = .ok (.invokestatic idx, 3)) (hw : MW own idx Lib.Math.min.name Lib.Math.min.code 2) (hr : 1 ≤ fr ∧ st.length + 13 ≤ lo ∧ ce ≤ rc ∧ sz ≤ rs) (kk : J (pc + 3) lv (vi (if y < x then y else x) :: st) wl L ce sz Sc Sm) : J pc lv (vi y :: vi x :: st) wl L ce sz Sc Sm := by
  obtain ⟨p, l, e, R, s, m, args, below, meth, c, Q, D, tc, sa, A, Ts, wp, ap, ⟨⟨hx, hb, hml, hown, hts⟩, hG, hE, hA, hX⟩, ⟨hRf, hRl, hRc, hRs⟩, hI, rfl⟩ := h
  intro o1 o2 w1 ad H locs ls w2 hW hS hL
  obtain ⟨m1, m2, m3, m4⟩ := hr
  exact va_mmin hx hb (hml.trans hL.1.symm) hown (hts _ (hG _ hw.1)) (hts _ (hG _ hw.2.1)) (hts _ (hG _ hw.2.2.1)) (hts _ (hG _ hw.2.2.2)) (by rw [hRf]; exact m1) (by rw [cat_sum, hRl]; exact m2) (by rw [hRc]; exact m3) (by rw [hRs]; exact m4) hd (kk o1 o2.tl.tl.i w1 ad H locs ls w2 hW hS hL)
theorem Cl.mabs (h : Cl own cc nL fr lo rc rs sc isI J) {x : Int32} (hd : decode cc pc = .ok (.invokestatic idx, 3)) (hw : MW own idx Lib.Math.abs.name Lib.Math.abs.code 1) (hr : 1 ≤ fr ∧ st.length + 13 ≤ lo ∧ ce ≤ rc ∧ sz ≤ rs) (kk : J (pc + 3) lv (vi (if 0 ≤ x then x else 0 - x) :: st) wl L ce sz Sc Sm) : J pc lv (vi x :: st) wl L ce sz Sc Sm := by
  obtain ⟨p, l, e, R, s, m, args, below, meth, c, Q, D, tc, sa, A, Ts, wp, ap, ⟨⟨hx, hb, hml, hown, hts⟩, hG, hE, hA, hX⟩, ⟨hRf, hRl, hRc, hRs⟩, hI, rfl⟩ := h
  intro o1 o2 w1 ad H locs ls w2 hW hS hL
  obtain ⟨m1, m2, m3, m4⟩ := hr
  exact va_mabs hx hb (hml.trans hL.1.symm) hown (hts _ (hG _ hw.1)) (hts _ (hG _ hw.2.1)) (hts _ (hG _ hw.2.2.1)) (hts _ (hG _ hw.2.2.2)) (by rw [hRf]; exact m1) (by rw [cat_sum, hRl]; exact m2) (by rw [hRc]; exact m3) (by rw [hRs]; exact m4) hd (kk o1 o2.tl.i w1 ad H locs ls w2 hW hS hL)
def AW (own : String) (idx : Nat) : Prop := Jvm.Cond.methodLink own idx arraycopyName ∈ GT ∧ Jvm.Cond.native arraycopyName ∈ GT ∧ Jvm.Cond.static arraycopyName ∈ GT ∧ Jvm.Cond.initialized "java/lang/System" ∈ GT
theorem Cl.acopy (h : Cl own cc nL fr lo rc rs sc isI J) {k2 i2 : Nat} (N : Nat) {n : Int32} (hd : decode cc pc = .ok (.invokestatic idx, 3)) (hw : AW own idx) (hk : ak k = 0) (hk2 : ak k2 = 0) (hs1 : sd k = false) (hs2 : sd k2 = false) (hn0 : ¬ n < 0) (hN : n.toNatClampNeg = N) (h4 : N ≤ nsl k) (h5 : N ≤ nsl k2) (hr : 1 ≤ fr ∧ st.length + (nativeFrameWords "java/lang/System" "arraycopy" 5 + 11) ≤ lo)
    (kk : J (pc + 3) lv st wl L ce sz (upA Sc k2 i2 (va_cpy (Sc k i) (Sc k2 i2) 0 0 N)) Sm) : J pc lv (vi n :: vi 0 :: vr k2 i2 :: vi 0 :: vr k i :: st) wl L ce sz Sc Sm := by
  obtain ⟨p, l, e, R, s, m, args, below, meth, c, Q, D, tc, sa, A, Ts, wp, ap, ⟨⟨hx, hb, hml, hown, hts⟩, hG, hE, hA, hX⟩, ⟨hRf, hRl, hRc, hRs⟩, hI, rfl⟩ := h
  intro o1 o2 w1 ad H locs ls w2 hW hS hL
  obtain ⟨m1, m2⟩ := hr
  have hm2 := okv_arr o2.tl.tl.hd (by omega)
  have hm1 := okv_arr o2.tl.tl.tl.tl.hd (by omega)
  obtain ⟨n1, hn1⟩ := List.getElem?_of_mem hm1
  obtain ⟨n2, hn2⟩ := List.getElem?_of_mem hm2
  have he1 := wls_at (tc := tc) (ad := ad) (L := L) (X := mm Sc Sm) hn1
  have he2 := wls_at (tc := tc) (ad := ad) (L := L) (X := mm Sc Sm) hn2
  rw [ent_arr (by omega), hk] at he1
  rw [ent_arr (by omega), hk2] at he2
  have z0 : (0 : Int32).toNatClampNeg = 0 := by decide
  refine va_copyi hx hb (hml.trans hL.1.symm) hown (hts _ (hG _ hw.1)) (hts _ (hG _ hw.2.1)) (hts _ (hG _ hw.2.2.1)) (hts _ (hG _ hw.2.2.2)) hE.1 hW.2.2.2.1 (hW.2.1.D tc L (mm Sc Sm)) hS n1 n2 0 0 he1 he2 rfl rfl rfl (by decide) (by decide) hn0 (by rw [z0, hN]; omega) (by rw [z0, hN]; omega) (fun _ _ => rfl) (by rw [hRf]; exact m1) (by rw [cat_sum, hRl]; exact m2) hd (fun H1 locs1 hP1 _ hS1 => ?_)
  refine kk o1 o2.tl.tl.tl.tl.tl w1 ad H1 locs1 ls w2 ⟨hW.1, hW.2.1, hW.2.2.1, ?_, hW.2.2.2.2⟩ hS1 hL
  rw [mm_upAC hs2]
  refine PW.set (q := (k2, i2)) hn2 hW.2.1 ?_ (fun r _ hne => ent_congr (fun j' => upA_ne hne j') (fun _ => rfl) (fun _ _ _ => rfl))
  rw [ent_arr (by omega), hk2]
  have e : upA (mm Sc Sm) k2 i2 (va_cpy (Sc k i) (Sc k2 i2) 0 0 N) k2 i2 = va_cpy (mm Sc Sm k i) (mm Sc Sm k2 i2) 0 0 N := by
    unfold upA
    rw [if_pos ⟨rfl, rfl⟩, mm_c hs1, mm_c hs2]
  rw [e]
  rw [z0, hN] at hP1
  exact hP1
/-! ===== what constructors do ===== -/
def OW (own : String) (idx : Nat) : Prop := Jvm.Cond.methodLink own idx Lib.objectInit ∈ GT ∧ Jvm.Cond.instanceMethod Lib.objectInit ∈ GT ∧ Jvm.Cond.code Lib.objectInit ⟨#[0xb1]⟩ 1 none ∈ GT
theorem Cl.objInit (h : Cl own cc nL fr lo rc rs sc isI J) (hd : decode cc pc = .ok (.invokespecial idx, 3)) (hw : OW own idx) (hr : 1 ≤ fr ∧ st.length + 12 ≤ lo) (kk : J (pc + 3) lv st wl L ce sz Sc Sm) : J pc lv (vr k i :: st) wl L ce sz Sc Sm := by
  obtain ⟨p, l, e, R, s, m, args, below, meth, c, Q, D, tc, sa, A, Ts, wp, ap, ⟨⟨hx, hb, hml, hown, hts⟩, hG, hE, hA, hX⟩, ⟨hRf, hRl, hRc, hRs⟩, hI, rfl⟩ := h
  intro o1 o2 w1 ad H locs ls w2 hW hS hL
  obtain ⟨m1, m2⟩ := hr
  exact W.objInit hx hb hown (hts _ (hG _ hw.1)) (hts _ (hG _ hw.2.1)) (hts _ (hG _ hw.2.2)) rfl (hL.1.trans hml.symm) rfl hd (by rw [hRf]; exact m1) (by rw [hRl, cat_sum]; show 2 * 0 + _ + 12 ≤ _; omega) (kk o1 o2.tl w1 ad H locs ls w2 hW hS hL)
def adU (ad : Ad) (k i q : Nat) : Ad := fun k' i' => if k' = k ∧ i' = i then q else ad k' i'
theorem adU_ne {ad : Ad} {k i q : Nat} {r : Nat × Nat} (h : r ≠ (k, i)) : adU ad k i q r.1 r.2 = ad r.1 r.2 := by
  unfold adU
  rw [if_neg]
  intro z
  exact h (by obtain ⟨a, b⟩ := r; exact Prod.ext z.1 z.2)
theorem adU_self {ad : Ad} {k i q : Nat} : adU ad k i q k i = q := by unfold adU; rw [if_pos ⟨rfl, rfl⟩]
/-- the world grows by one cell -/
theorem Wok.push {D : va_G} {tc : Nat → ClassId} {sa : Ad} {A : Nat → Prop} {ad : Ad} {wl : Obs} {L : Lay} {X : Mem} {H H1 : Heap} {k i q : Nat} {en : va_E} (hW : Wok D tc sa A ad wl L X H) (hf : (k, i) ∉ wl) (hk : k < 90) (hP : va_P D vwCl (wls tc ad wl L X ++ [(q, en)]) H1) (hD : va_D A (wls tc ad wl L X ++ [(q, en)]))
    (hen : ent tc (adU ad k i q) (nwL L k i) (nwS X k i) (k, i) = en) : Wok D tc sa A (adU ad k i q) (wl ++ [(k, i)]) (nwL L k i) (nwS X k i) H1 := by
  have hne : ∀ r ∈ wl, r ≠ (k, i) := fun r hr e => hf (by rw [← e]; exact hr)
  have hmap : ∀ r ∈ wl, (adU ad k i q r.1 r.2, ent tc (adU ad k i q) (nwL L k i) (nwS X k i) r) = (ad r.1 r.2, ent tc ad L X r) := by
    intro r hr
    rw [adU_ne (hne r hr), ent_congr (ad := ad) (L := L) (X := X) (fun j' => nwS_ne (hne r hr) j') (fun j' => nwL_ne (hne r hr) j') (fun j' r' h' => adU_ne (hne r' (hW.2.2.1 r hr j' r' h')))]
  have hwls : wls tc (adU ad k i q) (wl ++ [(k, i)]) (nwL L k i) (nwS X k i) = wls tc ad wl L X ++ [(q, en)] := by
    unfold wls
    rw [List.map_append, List.map_congr_left hmap]
    congr 1
    show [(adU ad k i q k i, ent tc (adU ad k i q) (nwL L k i) (nwS X k i) (k, i))] = _
    rw [hen, adU_self]
  refine ⟨fun k' i' h' => ?_, ⟨fun a b p r ha hb e => ?_, fun r hr => ?_⟩, fun r hr j' r' h' => ?_, ?_, fun r hr => ?_⟩
  · rw [← hW.1 k' i' h']
    exact adU_ne (r := (k', i')) (fun e => by cases e; omega)
  · have h1 := wls_at (tc := tc) (ad := adU ad k i q) (L := nwL L k i) (X := nwS X k i) ha
    have h2 := wls_at (tc := tc) (ad := adU ad k i q) (L := nwL L k i) (X := nwS X k i) hb
    rw [hwls] at h1 h2
    exact hD.1 a b _ _ h1 h2 e
  · obtain ⟨a, ha⟩ := List.getElem?_of_mem hr
    have h1 := wls_at (tc := tc) (ad := adU ad k i q) (L := nwL L k i) (X := nwS X k i) ha
    rw [hwls] at h1
    exact hD.2 a _ h1
  · rcases List.mem_append.mp hr with hr | hr
    · rw [nwL_ne (hne r hr)] at h'
      exact List.mem_append_left _ (hW.2.2.1 r hr j' r' h')
    · rw [List.mem_singleton] at hr
      subst hr
      unfold nwL at h'
      rw [if_pos ⟨rfl, rfl⟩] at h'
      cases h'
  · unfold PW
    rw [hwls]
    exact hP
  · rcases List.mem_append.mp hr with hr | hr
    · exact hW.2.2.2.2 r hr
    · rw [List.mem_singleton] at hr
      subst hr
      exact hk
def NW (own : String) (idx k : Nat) : Prop := ∃ C T ty0, KC k C T ty0 ∧ Jvm.Cond.classLink own idx C ∈ GT ∧ Jvm.Cond.instantiable C (nsl k) ∈ GT ∧ Jvm.Cond.initialized C ∈ GT
theorem okv_app {wl : Obs} {q : Nat × Nat} {v : AV} (h : okv wl v) : okv (wl ++ [q]) v := h.mono (fun _ h => List.mem_append_left _ h)
theorem Cl.newX (h : Cl own cc nL fr lo rc rs sc isI J) {Sc' Sm' : Mem} (hd : decode cc pc = .ok (.new idx, 3)) (hw : NW own idx k) (hf : (k, i) ∉ wl) (hr : ce + 1 ≤ rc ∧ sz + nsl k ≤ rs) (hmm : mm Sc' Sm' = nwS (mm Sc Sm) k i) (kk : J (pc + 3) lv (vr k i :: st) (wl ++ [(k, i)]) (nwL L k i) (ce + 1) (sz + nsl k) Sc' Sm') : J pc lv st wl L ce sz Sc Sm := by
  obtain ⟨p, l, e, R, s, m, args, below, meth, c, Q, D, tc, sa, A, Ts, wp, ap, ⟨⟨hx, hb, hml, hown, hts⟩, hG, hE, hA, hX⟩, ⟨hRf, hRl, hRc, hRs⟩, hI, rfl⟩ := h
  obtain ⟨C, T, ty0, ⟨k1, k2, k3, k4, k5, k6⟩, f1, f2, f3⟩ := hw
  intro o1 o2 w1 ad H locs ls w2 hW hS hL
  have hk90 : k < 90 := by have h3 : nObj = 13 := rfl; omega
  have hdef : ∀ j, j < nsl k → defaultValue (ty0 j) = vp_V ((List.range (nsl k)).map (fun j => if isRf k j = true then Value.null else Value.int 0)) j := by
    intro j hj
    unfold vp_V
    rw [List.getD_eq_getElem?_getD, range_get hj]
    obtain ⟨q1, q2⟩ := k6 j hj
    by_cases hrf : isRf k j = true
    · rw [if_pos hrf]
      rcases q2 hrf with ⟨n, e⟩ | ⟨t, e⟩ <;> rw [e] <;> rfl
    · rw [if_neg hrf]
      rcases q1 (by simpa using hrf) with e | e <;> rw [e] <;> rfl
  refine va_new (D := D) hx hb hts (fun w h => hG w (k3 w h)) ty0 k4 hown (hts _ (hG _ f1)) (hts _ (hG _ f2)) (hts _ (hG _ f3)) hE.1 hW.2.2.2.1 (hW.2.1.D tc L (mm Sc Sm)) hS hA k1 hdef (by rw [hRc]; exact hr.1) (by rw [hRs]; exact hr.2) hd (fun q H1 hP1 hD1 hS1 => ?_)
  have hW' := hW.push hf hk90 hP1 hD1 (by
    rw [ent_obj k2]
    congr 2
    refine List.map_congr_left (fun j hj => ?_)
    have e1 : nwL L k i k i j = none := by unfold nwL; rw [if_pos ⟨rfl, rfl⟩]
    have e2 : nwS (mm Sc Sm) k i k i j = 0 := by unfold nwS; rw [if_pos ⟨rfl, rfl⟩]
    unfold fvv
    rw [e1, e2]
    rfl)
  have hne : ∀ r ∈ wl, r ≠ (k, i) := fun r hr e => hf (by rw [← e]; exact hr)
  have hc : ∀ v, okv wl v → cv (adU ad k i q) v = cv ad v := cv_agree (fun r hr => adU_ne (hne r hr)) hW.1 hW'.1
  have h1 := kk (fun a v ha => okv_app (o1 a v ha)) (okS.cons (v := vr k i) (Or.inl (List.mem_append_right _ List.mem_cons_self)) (fun v hv => okv_app (o2 v hv))) (fun r hr => List.mem_append_left _ (w1 r hr)) (adU ad k i q) H1 locs ls (fun r hr => (adU_ne (hne r (w1 r hr))).trans (w2 r hr)) (by rw [hmm]; exact hW') hS1 (hL.ad hc o1)
  rw [List.map_cons, map_agree hc o2, show cv (adU ad k i q) (vr k i) = .ref q from by show Value.ref _ = _; rw [adU_self]] at h1
  exact h1
theorem Cl.newC (h : Cl own cc nL fr lo rc rs sc isI J) (hd : decode cc pc = .ok (.new idx, 3)) (hw : NW own idx k) (hf : (k, i) ∉ wl) (hs : sd k = false) (hr : ce + 1 ≤ rc ∧ sz + nsl k ≤ rs) (kk : J (pc + 3) lv (vr k i :: st) (wl ++ [(k, i)]) (nwL L k i) (ce + 1) (sz + nsl k) (nwS Sc k i) Sm) : J pc lv st wl L ce sz Sc Sm := h.newX hd hw hf hr (mm_nwC hs) kk
theorem Cl.newM (h : Cl own cc nL fr lo rc rs sc isI J) (hd : decode cc pc = .ok (.new idx, 3)) (hw : NW own idx k) (hf : (k, i) ∉ wl) (hs : sd k = true) (hr : ce + 1 ≤ rc ∧ sz + nsl k ≤ rs) (kk : J (pc + 3) lv (vr k i :: st) (wl ++ [(k, i)]) (nwL L k i) (ce + 1) (sz + nsl k) Sc (nwS Sm k i)) : J pc lv st wl L ce sz Sc Sm := h.newX hd hw hf hr (mm_nwM hs) kk
def aty (t : Nat) : FieldType := if t = 0 then .int else if t = 1 then .byte else .boolean
theorem Cl.newaX (h : Cl own cc nL fr lo rc rs sc isI J) {Sc' Sm' : Mem} {at' : ArrayType} (hd : decode cc pc = .ok (.newarray at', 2)) (hat : (at' = .int ∧ ak k = 0) ∨ (at' = .byte ∧ ak k = 1) ∨ (at' = .boolean ∧ ak k = 2)) (hw : Jvm.Cond.arrayClass (aty (ak k)) ∈ GT) (hf : (k, i) ∉ wl) {n : Int32} (hn0 : ¬ n < 0) (hN : n.toNatClampNeg = nsl k) (hsz : nsl k ≤ 100000) (hr : ce + 1 ≤ rc ∧ sz + nsl k ≤ rs) (hmm : mm Sc' Sm' = nwS (mm Sc Sm) k i) (kk : J (pc + 2) lv (vr k i :: st) (wl ++ [(k, i)]) (nwL L k i) (ce + 1) (sz + nsl k) Sc' Sm') : J pc lv (vi n :: st) wl L ce sz Sc Sm := by
  obtain ⟨p, l, e, R, s, m, args, below, meth, c, Q, D, tc, sa, A, Ts, wp, ap, ⟨⟨hx, hb, hml, hown, hts⟩, hG, hE, hA, hX⟩, ⟨hRf, hRl, hRc, hRs⟩, hI, rfl⟩ := h
  intro o1 o2 w1 ad H locs ls w2 hW hS hL
  have h9 : ak k < 3 := by omega
  have hk90 : k < 90 := by
    rcases Nat.lt_or_ge k 90 with q | q
    · exact q
    · rw [ak_big q] at h9; omega
  have fin : ∀ (q : Nat) (cA : ClassId) (H1 : Heap), cA = tc (ak k) → va_P D vwCl (wls tc ad wl L (mm Sc Sm) ++ [(q, .inl (cA, (nsl k, .inl (fun _ => 0))))]) H1 → va_D A (wls tc ad wl L (mm Sc Sm) ++ [(q, .inl (cA, (nsl k, .inl (fun _ => 0))))]) → va_S A s.heap H1 locs → W p l e R s m args below meth c H1 locs (ce + 1) (sz + nsl k) Q (F0 m (pc + 2) ls (.ref q :: st.map (cv ad))) := by
    intro q cA H1 hcA hP1 hD1 hS1
    subst hcA
    have hW' := hW.push hf hk90 hP1 hD1 (by
      rw [ent_arr h9]
      congr 4
      funext j
      unfold nwS
      rw [if_pos ⟨rfl, rfl⟩])
    have hne : ∀ r ∈ wl, r ≠ (k, i) := fun r hr e => hf (by rw [← e]; exact hr)
    have hc : ∀ v, okv wl v → cv (adU ad k i q) v = cv ad v := cv_agree (fun r hr => adU_ne (hne r hr)) hW.1 hW'.1
    have h1 := kk (fun a v ha => okv_app (o1 a v ha)) (okS.cons (v := vr k i) (Or.inl (List.mem_append_right _ List.mem_cons_self)) (fun v hv => okv_app (o2.tl v hv))) (fun r hr => List.mem_append_left _ (w1 r hr)) (adU ad k i q) H1 locs ls (fun r hr => (adU_ne (hne r (w1 r hr))).trans (w2 r hr)) (by rw [hmm]; exact hW') hS1 (hL.ad hc o1)
    rw [List.map_cons, map_agree hc o2.tl, show cv (adU ad k i q) (vr k i) = .ref q from by show Value.ref _ = _; rw [adU_self]] at h1
    exact h1
  have cls : ∀ (cA : ClassId) (ty : FieldType) (t0 : Nat), (tysOf tc)[t0]? = some (tc t0, ty) → (∀ U c', va_RA U c' ty → U.vm.findClass ("[" ++ ty.toString) = some c') → va_K D vwCl (tysOf tc ++ [(cA, ty)]) s → cA = tc t0 := by
    intro cA ty t0 h0 hfc hK
    have a1 := hfc s cA (hK.2 5 (cA, ty) rfl).2
    have a2 := hfc s (tc t0) (hE.1.2 t0 (tc t0, ty) h0).2
    exact Option.some.inj (a1.symm.trans a2)
  rcases hat with ⟨rfl, h0⟩ | ⟨rfl, h0⟩ | ⟨rfl, h0⟩
  · rw [h0] at hw fin
    exact va_newa (atype := .int) (ty := .int) (a0 := (nsl k, .inl (fun _ => 0))) hx hb (hts _ (hG _ hw)) rfl hE.1 hW.2.2.2.1 (hW.2.1.D tc L (mm Sc Sm)) hS hA (fun _ => rfl) hn0 hN (by show nsl k * 4 ≤ _; omega) (by rw [hRc]; exact hr.1) (by rw [hRs]; exact hr.2) hd (fun q cA H1 hK hP1 hD1 hS1 => fin q cA H1 (cls cA .int 0 rfl (fun _ _ h => h) hK) hP1 hD1 hS1)
  · rw [h0] at hw fin
    exact va_newa (atype := .byte) (ty := .byte) (a0 := (nsl k, .inl (fun _ => 0))) hx hb (hts _ (hG _ hw)) rfl hE.1 hW.2.2.2.1 (hW.2.1.D tc L (mm Sc Sm)) hS hA (fun _ => rfl) hn0 hN (by show nsl k * 1 ≤ _; omega) (by rw [hRc]; exact hr.1) (by rw [hRs]; exact hr.2) hd (fun q cA H1 hK hP1 hD1 hS1 => fin q cA H1 (cls cA .byte 1 rfl (fun _ _ h => h) hK) hP1 hD1 hS1)
  · rw [h0] at hw fin
    exact va_newa (atype := .boolean) (ty := .boolean) (a0 := (nsl k, .inl (fun _ => 0))) hx hb (hts _ (hG _ hw)) rfl hE.1 hW.2.2.2.1 (hW.2.1.D tc L (mm Sc Sm)) hS hA (fun _ => rfl) hn0 hN (by show nsl k * 1 ≤ _; omega) (by rw [hRc]; exact hr.1) (by rw [hRs]; exact hr.2) hd (fun q cA H1 hK hP1 hD1 hS1 => fin q cA H1 (cls cA .boolean 2 rfl (fun _ _ h => h) hK) hP1 hD1 hS1)
theorem Cl.newaC (h : Cl own cc nL fr lo rc rs sc isI J) {at' : ArrayType} (hd : decode cc pc = .ok (.newarray at', 2)) (hat : (at' = .int ∧ ak k = 0) ∨ (at' = .byte ∧ ak k = 1) ∨ (at' = .boolean ∧ ak k = 2)) (hw : Jvm.Cond.arrayClass (aty (ak k)) ∈ GT) (hf : (k, i) ∉ wl) {n : Int32} (hn0 : ¬ n < 0) (hN : n.toNatClampNeg = nsl k) (hsz : nsl k ≤ 100000) (hs : sd k = false) (hr : ce + 1 ≤ rc ∧ sz + nsl k ≤ rs) (kk : J (pc + 2) lv (vr k i :: st) (wl ++ [(k, i)]) (nwL L k i) (ce + 1) (sz + nsl k) (nwS Sc k i) Sm) : J pc lv (vi n :: st) wl L ce sz Sc Sm := h.newaX hd hat hw hf hn0 hN hsz hr (mm_nwC hs) kk
theorem Cl.newaM (h : Cl own cc nL fr lo rc rs sc isI J) {at' : ArrayType} (hd : decode cc pc = .ok (.newarray at', 2)) (hat : (at' = .int ∧ ak k = 0) ∨ (at' = .byte ∧ ak k = 1) ∨ (at' = .boolean ∧ ak k = 2)) (hw : Jvm.Cond.arrayClass (aty (ak k)) ∈ GT) (hf : (k, i) ∉ wl) {n : Int32} (hn0 : ¬ n < 0) (hN : n.toNatClampNeg = nsl k) (hsz : nsl k ≤ 100000) (hs : sd k = true) (hr : ce + 1 ≤ rc ∧ sz + nsl k ≤ rs) (kk : J (pc + 2) lv (vr k i :: st) (wl ++ [(k, i)]) (nwL L k i) (ce + 1) (sz + nsl k) Sc (nwS Sm k i)) : J pc lv (vi n :: st) wl L ce sz Sc Sm := h.newaX hd hat hw hf hn0 hN hsz hr (mm_nwM hs) kk
def aqC (t : Nat) : String := if t = 3 then "PaperAger$Reader" else "PaperAger$Paper"
theorem Cl.newq (h : Cl own cc nL fr lo rc rs sc isI J) (hd : decode cc pc = .ok (.anewarray idx, 3)) (hk : ak k = 3 ∨ ak k = 4) (hw : Jvm.Cond.classLink own idx (aqC (ak k)) ∈ GT) (hf : (k, i) ∉ wl) {n : Int32} (hn0 : ¬ n < 0) (hN : n.toNatClampNeg = nsl k) (hsz : nsl k ≤ 100000) (hs : sd k = false) (hr : ce + 1 ≤ rc ∧ sz + nsl k ≤ rs) (kk : J (pc + 3) lv (vr k i :: st) (wl ++ [(k, i)]) (nwL L k i) (ce + 1) (sz + nsl k) (nwS Sc k i) Sm) : J pc lv (vi n :: st) wl L ce sz Sc Sm := by
  obtain ⟨p, l, e, R, s, m, args, below, meth, c, Q, D, tc, sa, A, Ts, wp, ap, ⟨⟨hx, hb, hml, hown, hts⟩, hG, hE, hA, hX⟩, ⟨hRf, hRl, hRc, hRs⟩, hI, rfl⟩ := h
  intro o1 o2 w1 ad H locs ls w2 hW hS hL
  have hk90 : k < 90 := by
    rcases Nat.lt_or_ge k 90 with q | q
    · exact q
    · rw [ak_big q] at hk; omega
  have fin : ∀ (q : Nat) (cA : ClassId) (H1 : Heap), cA = tc (ak k) → va_P D vwCl (wls tc ad wl L (mm Sc Sm) ++ [(q, .inl (cA, (nsl k, .inr (.inr (.inr (.inr (fun _ => none)))))))]) H1 → va_D A (wls tc ad wl L (mm Sc Sm) ++ [(q, .inl (cA, (nsl k, .inr (.inr (.inr (.inr (fun _ => none)))))))]) → va_S A s.heap H1 locs → W p l e R s m args below meth c H1 locs (ce + 1) (sz + nsl k) Q (F0 m (pc + 3) ls (.ref q :: st.map (cv ad))) := by
    intro q cA H1 hcA hP1 hD1 hS1
    subst hcA
    have hW' := hW.push hf hk90 hP1 hD1 (by
      rw [ent_arq hk]
      have e : (fun j => (nwL L k i k i j).map fun r => adU ad k i q r.1 r.2) = fun _ => none := by
        funext j
        unfold nwL
        rw [if_pos ⟨rfl, rfl⟩]
        rfl
      rw [e])
    have hne : ∀ r ∈ wl, r ≠ (k, i) := fun r hr e => hf (by rw [← e]; exact hr)
    have hc : ∀ v, okv wl v → cv (adU ad k i q) v = cv ad v := cv_agree (fun r hr => adU_ne (hne r hr)) hW.1 hW'.1
    have h1 := kk (fun a v ha => okv_app (o1 a v ha)) (okS.cons (v := vr k i) (Or.inl (List.mem_append_right _ List.mem_cons_self)) (fun v hv => okv_app (o2.tl v hv))) (fun r hr => List.mem_append_left _ (w1 r hr)) (adU ad k i q) H1 locs ls (fun r hr => (adU_ne (hne r (w1 r hr))).trans (w2 r hr)) (by rw [mm_nwC hs]; exact hW') hS1 (hL.ad hc o1)
    rw [List.map_cons, map_agree hc o2.tl, show cv (adU ad k i q) (vr k i) = .ref q from by show Value.ref _ = _; rw [adU_self]] at h1
    exact h1
  have cls : ∀ (cA : ClassId) (C : String) (t0 : Nat), (tysOf tc)[t0]? = some (tc t0, .object C) → va_K D vwCl (tysOf tc ++ [(cA, .object C)]) s → cA = tc t0 := by
    intro cA C t0 h0 hK
    obtain ⟨_, _, -, -, -, a1⟩ := (hK.2 5 (cA, .object C) rfl).2
    obtain ⟨_, _, -, -, -, a2⟩ := (hE.1.2 t0 (tc t0, .object C) h0).2
    exact Option.some.inj (a1.symm.trans a2)
  rcases hk with h0 | h0
  · rw [h0] at hw fin
    exact va_newq hx hb hown (hts _ (hG _ hw)) hE.2.2.2.2.2.1 hE.1 hW.2.2.2.1 (hW.2.1.D tc L (mm Sc Sm)) hS hA hn0 hN (by omega) (by rw [hRc]; exact hr.1) (by rw [hRs]; exact hr.2) hd (fun q cA H1 hK hP1 hD1 hS1 => fin q cA H1 (cls cA _ 3 rfl hK) hP1 hD1 hS1)
  · rw [h0] at hw fin
    exact va_newq hx hb hown (hts _ (hG _ hw)) hE.2.2.2.2.2.2.1 hE.1 hW.2.2.2.1 (hW.2.1.D tc L (mm Sc Sm)) hS hA hn0 hN (by omega) (by rw [hRc]; exact hr.1) (by rw [hRs]; exact hr.2) hd (fun q cA H1 hK hP1 hD1 hS1 => fin q cA H1 (cls cA _ 4 rfl hK) hP1 hD1 hS1)
theorem LV_up {wl : Obs} {L : Lay} {k i j : Nat} {r : Nat × Nat} (h : LV wl L) (hr : r ∈ wl) : LV wl (upL L k i j (some r)) := by
  intro q hq j' r' h'
  unfold upL at h'
  split at h'
  · cases h'; exact hr
  · exact h q hq j' r' h'
theorem Cl.putR (h : Cl own cc nL fr lo rc rs sc true J) {k' i' : Nat} (hd : decode cc pc = .ok (.putfield idx, 3)) (hf : FF own idx k j) (hr : isRf k j = true) (hk' : k' < 90) (kk : J (pc + 3) lv st wl (upL L k i j (some (k', i'))) ce sz Sc Sm) : J pc lv (vr k' i' :: vr k i :: st) wl L ce sz Sc Sm := by
  obtain ⟨p, l, e, R, s, m, args, below, meth, c, Q, D, tc, sa, A, Ts, wp, ap, ⟨⟨hx, hb, hml, hown, hts⟩, hG, hE, hA, hX⟩, ⟨hRf, hRl, hRc, hRs⟩, hI, rfl⟩ := h
  obtain ⟨C, T, ty0, ⟨k1, k2, k3, k4, k5, k6⟩, f1, f2, f3, f4⟩ := hf
  intro o1 o2 w1 ad H locs ls w2 hW hS hL
  have hm := okv_obj o2.tl.hd k2
  have hm' : (k', i') ∈ wl := o2.hd.resolve_right (fun q => by have q2 : (90 : Nat) ≤ k' := q; omega)
  obtain ⟨n, hn'⟩ := List.getElem?_of_mem hm
  have he := wls_at (tc := tc) (ad := ad) (L := L) (X := mm Sc Sm) hn'
  rw [ent_obj k2] at he
  have hnf : narrow (ty0 j) (.ref (ad k' i')) = .ref (ad k' i') ∧ fits (ty0 j) (.ref (ad k' i')) = true := by
    rcases (k6 j f1).2 hr with ⟨n, e⟩ | ⟨t, e⟩ <;> rw [e] <;> exact ⟨rfl, rfl⟩
  refine va_putF (D := D) (v := .ref (ad k' i')) hx hb hts (fun w h => hG w (k3 w h)) ty0 k4 k5 hown hE.1 hW.2.2.2.1 (hW.2.1.D tc L (mm Sc Sm)) hS n he k1 j f1 (hts _ (hG _ f2)) (fun _ h => h) f3 (hI rfl) f4 (k4 j f1) hnf.1 hnf.2 (by simp [f1]) hd (fun H1 locs1 hP1 _ hS1 => ?_)
  refine kk o1 o2.tl.tl w1 ad H1 locs1 ls w2 ⟨hW.1, hW.2.1, LV_up hW.2.2.1 hm', ?_, hW.2.2.2.2⟩ hS1 hL
  refine PW.set (q := (k, i)) hn' hW.2.1 ?_ (fun r _ hne => ent_congr (fun _ => rfl) (fun j' => upL_ne hne j') (fun _ _ _ => rfl))
  rw [ent_obj k2]
  rw [range_set (g := fvv ad (upL L k i j (some (k', i'))) (mm Sc Sm) k i)] at hP1
  · exact hP1
  · unfold fvv upL; rw [if_pos hr, if_pos ⟨rfl, rfl, rfl⟩]; rfl
  · intro j' hne
    have e1 : upL L k i j (some (k', i')) k i j' = L k i j' := by unfold upL; rw [if_neg (fun z => hne z.2.2)]
    unfold fvv
    rw [e1]
theorem Cl.aast (h : Cl own cc nL fr lo rc rs sc isI J) {k' i' : Nat} {C : String} {T : u_T} {N : Nat} (hd : decode cc pc = .ok (.aastore, 1)) (hk : ak k = 3 ∨ ak k = 4) {x : Int32} {n : Nat} (hn : nsl k = n) (hi : ix x n = some j) (hC : vwCl[k']? = some (C, T, N)) (hko : k' < nObj) (hCq : C = aqC (ak k)) (kk : J (pc + 1) lv st wl (upL L k i j (some (k', i'))) ce sz Sc Sm) : J pc lv (vr k' i' :: vi x :: vr k i :: st) wl L ce sz Sc Sm := by
  obtain ⟨p, l, e, R, s, m, args, below, meth, c, Q, D, tc, sa, A, Ts, wp, ap, ⟨⟨hx, hb, hml, hown, hts⟩, hG, hE, hA, hX⟩, ⟨hRf, hRl, hRc, hRs⟩, hI, rfl⟩ := h
  intro o1 o2 w1 ad H locs ls w2 hW hS hL
  have hm := okv_arr o2.tl.tl.hd (by omega)
  have hm' := okv_obj o2.hd hko
  obtain ⟨n1, hn1⟩ := List.getElem?_of_mem hm
  obtain ⟨n2, hn2⟩ := List.getElem?_of_mem hm'
  have he1 := wls_at (tc := tc) (ad := ad) (L := L) (X := mm Sc Sm) hn1
  have he2 := wls_at (tc := tc) (ad := ad) (L := L) (X := mm Sc Sm) hn2
  rw [ent_arq hk] at he1
  rw [ent_obj hko] at he2
  subst hn
  obtain ⟨i1, i2, i3⟩ := ix_some hi
  subst i2
  have fin : ∀ (H1 : Heap) (locs1 : List Loc), va_P D vwCl ((wls tc ad wl L (mm Sc Sm)).set n1 (ad k i, .inl (tc (ak k), nsl k, .inr (.inr (.inr (.inr (va_up (fun j => (L k i j).map fun r => ad r.1 r.2) x.toNatClampNeg (some (ad k' i'))))))))) H1 → va_S A s.heap H1 locs1 → W p l e R s m args below meth c H1 locs1 ce sz Q (F0 m (pc + 1) ls (st.map (cv ad))) := by
    intro H1 locs1 hP1 hS1
    refine kk o1 o2.tl.tl.tl w1 ad H1 locs1 ls w2 ⟨hW.1, hW.2.1, LV_up hW.2.2.1 hm', ?_, hW.2.2.2.2⟩ hS1 hL
    refine PW.set (q := (k, i)) hn1 hW.2.1 ?_ (fun r _ hne => ent_congr (fun _ => rfl) (fun j' => upL_ne hne j') (fun _ _ _ => rfl))
    rw [ent_arq hk]
    have e : (fun j => (upL L k i x.toNatClampNeg (some (k', i')) k i j).map fun r => ad r.1 r.2) = va_up (fun j => (L k i j).map fun r => ad r.1 r.2) x.toNatClampNeg (some (ad k' i')) := by
      funext j
      unfold upL va_up
      by_cases hj : j = x.toNatClampNeg
      · rw [if_pos ⟨rfl, rfl, hj⟩, if_pos hj]; rfl
      · rw [if_neg (fun z => hj z.2.2), if_neg hj]
    rw [e]
    exact hP1
  rcases hk with h0 | h0
  · rw [h0] at he1 fin hCq
    subst hCq
    exact va_astq hx hb hE.1 hW.2.2.2.1 (hW.2.1.D tc L (mm Sc Sm)) hS n1 3 n2 k' he1 rfl he2 hC i1 hd (fun H1 locs1 hP1 _ hS1 => fin H1 locs1 hP1 hS1)
  · rw [h0] at he1 fin hCq
    subst hCq
    exact va_astq hx hb hE.1 hW.2.2.2.1 (hW.2.1.D tc L (mm Sc Sm)) hS n1 4 n2 k' he1 rfl he2 hC i1 hd (fun H1 locs1 hP1 _ hS1 => fin H1 locs1 hP1 hS1)
end RM
