/-! ===== contracts ===== -/
theorem Env0.same {D : va_G} {tc : Nat → ClassId} {sa : Ad} {A : Nat → Prop} {s U : State} {H : Heap} (h : Env0 D tc sa A s H) (hv : s.vm = U.vm) : Env0 D tc sa A U H := by
  obtain ⟨h1, h2, h3, h4, h5, h6, h7, h8⟩ := h
  have ha : s.vm.Alike U.vm := by rw [hv]; exact Vm.Alike.refl U.vm
  refine ⟨va_K.moved ha h1, fun w hw => ?_, vk_S.moved ha h3, fun i hi => (h4 i hi).same hv.symm, va_Z.moved ha h5, h6.moved ha, h7.moved ha, h8.imp (va_Z.moved ha) (va_Z.moved ha)⟩
  obtain ⟨a, i, x, b, rfl⟩ := nests_of hw
  exact va_Nw.same rfl hv (h2 _ hw)
def Pcc (D : va_G) (tc : Nat → ClassId) (sa : Ad) (A : Nat → Prop) (ad : Ad) (as : List AV) (wl : Obs) (L : Lay) (X : Mem) : Array Value → State → Prop := fun v U =>
  v = (as.map (cv ad)).toArray ∧ okS wl as ∧ Env0 D tc sa A U U.heap ∧ (∀ q, U.heap.size ≤ q → A q) ∧ Wok D tc sa A ad wl L X U.heap
def Qcc (D : va_G) (tc : Nat → ClassId) (sa : Ad) (A : Nat → Prop) (ad : Ad) (r : Option AV) (wl wl' : Obs) (L' : Lay) (X' : Mem) : Array Value → State → Outcome → State → Prop := fun _ st oc t =>
  (∃ ad' : Ad, (∀ q ∈ wl, ad' q.1 q.2 = ad q.1 q.2) ∧ oc = .returned (r.map (cv ad')) ∧ Wok D tc sa A ad' wl' L' X' t.heap ∧ (∀ q ∈ wl, q ∈ wl') ∧ okS wl' r.toList) ∧ va_F A st t
def Ct (y : MethodName) (cc : ByteArray) (nL : Nat) (rt : Option FieldType) (fr lo mc ms : Nat) (as : List AV) (wl : Obs) (L : Lay) (Sc Sm : Mem) (r : Option AV) (wl' : Obs) (L' : Lay) (Sc' Sm' : Mem) : Prop :=
  ∀ (l : Launch) (D : va_G) (tc : Nat → ClassId) (sa : Ad) (A : Nat → Prop) (ad : Ad), Met l y (.code y cc nL rt :: GT) { frames := fr, cells := mc, slots := ms, locals := lo } (Pcc D tc sa A ad as wl L (mm Sc Sm)) (Qcc D tc sa A ad r wl wl' L' (mm Sc' Sm')) mc ms A
/-- what a return instruction wants -/
def RI (cc : ByteArray) (rt : Option FieldType) (pc : Nat) (st : List AV) (r : Option AV) : Prop :=
  (rt = none ∧ r = none ∧ st = [] ∧ decode cc pc = .ok (.return_, 1)) ∨
  (∃ ty x, rt = some ty ∧ narrow ty (.int x) = .int x ∧ r = some (vi x) ∧ st = [vi x] ∧ decode cc pc = .ok (.ireturn, 1)) ∨
  (∃ ty q, rt = some ty ∧ ((∃ n, ty = .object n) ∨ ∃ t, ty = .array t) ∧ r = some (.inr q) ∧ st = [.inr q] ∧ decode cc pc = .ok (.areturn, 1))
def Rk (cc : ByteArray) (rt : Option FieldType) (r : Option AV) (wl : Obs) (L : Lay) (mc ms : Nat) (Sc Sm : Mem) (J : Nat → Lv → List AV → Obs → Lay → Nat → Nat → Mem → Mem → Prop) : Prop := ∀ (pc : Nat) (lv : Lv) (st : List AV), RI cc rt pc st r → J pc lv st wl L mc ms Sc Sm
section RT
variable {cc : ByteArray} {wl : Obs} {L : Lay} {mc ms : Nat} {Sc Sm : Mem} {J : Nat → Lv → List AV → Obs → Lay → Nat → Nat → Mem → Mem → Prop} {pc : Nat} {lv : Lv}
theorem Rk.v (h : Rk cc none none wl L mc ms Sc Sm J) (hd : decode cc pc = .ok (.return_, 1)) : J pc lv [] wl L mc ms Sc Sm := h pc lv [] (Or.inl ⟨rfl, rfl, rfl, hd⟩)
theorem Rk.i {x : Int32} (h : Rk cc (some .int) (some (vi x)) wl L mc ms Sc Sm J) (hd : decode cc pc = .ok (.ireturn, 1)) : J pc lv [vi x] wl L mc ms Sc Sm := h pc lv _ (Or.inr (Or.inl ⟨_, x, rfl, rfl, rfl, rfl, hd⟩))
theorem Rk.n {x : Int32} {ty : FieldType} (h : Rk cc (some ty) (some (vi x)) wl L mc ms Sc Sm J) (hn : narrow ty (.int x) = .int x) (hd : decode cc pc = .ok (.ireturn, 1)) : J pc lv [vi x] wl L mc ms Sc Sm := h pc lv _ (Or.inr (Or.inl ⟨_, x, rfl, hn, rfl, rfl, hd⟩))
theorem Rk.a {q : Option (Nat × Nat)} {n : String} (h : Rk cc (some (.object n)) (some (.inr q)) wl L mc ms Sc Sm J) (hd : decode cc pc = .ok (.areturn, 1)) : J pc lv [.inr q] wl L mc ms Sc Sm := h pc lv _ (Or.inr (Or.inr ⟨_, q, rfl, Or.inl ⟨n, rfl⟩, rfl, rfl, hd⟩))
end RT
def lv0 (as : List AV) (nL : Nat) : Lv := as.map some ++ List.replicate (nL - as.length) none
theorem gl_none (n k : Nat) : gl (List.replicate n none) k = none := by
  induction n generalizing k with
  | zero => rfl
  | succ n ih =>
    cases k with
    | zero => rfl
    | succ k => exact ih k
theorem lv0_in {ad : Ad} {as : List AV} {n k m : Nat} {v : AV} (h : gl (as.map some ++ List.replicate n none) k = some v) : v ∈ as ∧ (m + k, cv ad v) ∈ lv_args m (as.map (cv ad)) := by
  induction as generalizing k m with
  | nil => rw [show (([] : List AV).map some ++ List.replicate n none : Lv) = List.replicate n none from rfl, gl_none] at h; cases h
  | cons a l ih =>
    cases k with
    | zero =>
      cases (Option.some.inj h)
      exact ⟨List.mem_cons_self, List.mem_cons_self⟩
    | succ k =>
      obtain ⟨h1, h2⟩ := ih (m := m + 1) (show gl (l.map some ++ List.replicate n none) k = some v from h)
      refine ⟨List.mem_cons_of_mem _ h1, ?_⟩
      show _ ∈ (m, cv ad a) :: lv_args (if (cv ad a).category = 2 then m + 2 else m + 1) (l.map (cv ad))
      rw [if_neg (by rw [cv_cat]; decide)]
      rw [show m + 1 + k = m + (k + 1) by omega] at h2
      exact List.mem_cons_of_mem _ h2
theorem lg_len (ad : Ad) (as : List AV) : (lg_sl (as.map (cv ad))).length = as.length := by
  induction as with
  | nil => rfl
  | cons a l ih =>
    have e : lg_sl ((a :: l).map (cv ad)) = .val (cv ad a) :: lg_sl (l.map (cv ad)) := by
      unfold lg_sl
      rw [List.map_cons, List.flatMap_cons, if_neg (by rw [cv_cat]; decide)]
      rfl
    rw [e, List.length_cons, List.length_cons, ih]
theorem Ct.of {y : MethodName} {cc : ByteArray} {nL : Nat} {rt : Option FieldType} {fr lo mc ms : Nat} {as : List AV} {wl : Obs} {L : Lay} {Sc Sm : Mem} {r : Option AV} {wl' : Obs} {L' : Lay} {Sc' Sm' : Mem} (own : String) (isI : Bool) (hy : plainName y.cls = true) (ho : y.cls = own) (hn : isI = true → y.name = "<init>") (hlen : as.length ≤ nL)
    (body : ∀ J, Cl own cc nL fr lo mc ms none isI J → Rk cc rt r wl' L' mc ms Sc' Sm' J → J 0 (lv0 as nL) [] wl L 0 0 Sc Sm) : Ct y cc nL rt fr lo mc ms as wl L Sc Sm r wl' L' Sc' Sm' := by
  intro l D tc sa A ad
  refine Met.ofW (cc := cc) (maxL := nL) (ret := rt) hy rfl ?_
  intro p e s m args below meth c s₁ B hml hv
  obtain ⟨rfl, ho1, hE, hA, hW⟩ := hv
  have hx := B.exec
  have hb := B.bytes
  have hr := B.returns
  have hts := atoms_spec (ws := .code y cc nL rt :: GT) B.pre
  have hown : s.vm.findClass own = some m.cls := by rw [← ho]; exact findClass_of_methodNamed B.named
  have hlocks := B.notSynchronized
  have K := body (Jw p l e _ s m _ below meth c (MQ below (Qcc D tc sa A ad r wl wl' L' (mm Sc' Sm')) (as.map (cv ad)).toArray s mc ms A) D tc sa A nL wl ad)
    ⟨p, l, e, (headSpec (.code y cc nL rt :: GT) { frames := fr, cells := mc, slots := ms, locals := lo }).room, s, m, (as.map (cv ad)).toArray, below, meth, c, _, D, tc, sa, A, .code y cc nL rt :: GT, wl, ad, ⟨⟨hx, hb, hml, hown, hts⟩, fun w h => List.mem_cons_of_mem _ h, hE, hA, trivial⟩, ⟨rfl, rfl, rfl, rfl⟩, fun q => ((name_of_methodNamed B.named B.method).1).trans (hn q), rfl⟩
    (by
      intro pc lv st hRI o1 o2 w1 ad' H locs ls w2 hW' hS hL
      have hQ : ∀ (v : Option AV), v = r → okS wl' v.toList → ∀ t : State, t.heap = H → s.WarmedH t.vm → Qcc D tc sa A ad r wl wl' L' (mm Sc' Sm') (as.map (cv ad)).toArray s (.returned (v.map (cv ad'))) t := by
        intro v hv hov t ht _
        subst hv
        exact ⟨⟨ad', w2, rfl, by rw [ht]; exact hW', w1, hov⟩, hS.F ht⟩
      rcases hRI with ⟨h1, h2, rfl, hd⟩ | ⟨ty, x, h1, hnar, h2, rfl, hd⟩ | ⟨ty, q, h1, hty, h2, rfl, hd⟩
      · exact W.vret hx hb (by rw [hr, h1]) (hQ none h2.symm (fun _ h => by cases h)) hS.2.2 hd
      · exact W.zret hx hb (by rw [hr, h1]) hnar (hQ (some (vi x)) h2.symm o2) hS.2.2 hd
      · refine W.aret hx hb (by rw [hr, h1]) hty ?_ (hQ (some (.inr q)) h2.symm o2) hS.2.2 hd
        cases q with
        | none => exact Or.inl rfl
        | some q => exact Or.inr ⟨_, rfl⟩)
  rw [lg_entry_eq]
  refine K ?_ (fun _ h => by cases h) (fun _ h => h) ad s.heap [] _ (fun _ _ => rfl) hW va_S.rf ?_
  · intro k v hk
    exact ho1 v (lv0_in (ad := ad) (m := 0) hk).1
  · have h1 := lv_entry (as.map (cv ad)) (n := nL) (by rw [lg_len]; exact hlen)
    refine LH.of h1.1 h1.2.1 (fun k v hk => ?_)
    have h2 := h1.2.2 _ (lv0_in (ad := ad) (m := 0) hk).2
    rw [Nat.zero_add] at h2
    exact h2
/-! ===== calls ===== -/
def LkB (own : String) (idx : Nat) (y : MethodName) (bytes : ByteArray) (maxL : Nat) (rt : Option FieldType) (n : Nat) : Prop := Jvm.Cond.methodLink own idx y ∈ GT ∧ Jvm.Cond.code y bytes maxL rt ∈ GT ∧ Jvm.Cond.initialized y.cls ∈ GT ∧ (y.cls ≠ "java/lang/invoke/MethodHandle" ∧ y.cls ≠ "java/lang/invoke/VarHandle" ∧ (parseMethodDescriptor y.desc).map (fun d => d.parameters.length) = some n)
def LkN (own : String) (idx : Nat) (y : MethodName) (bytes : ByteArray) (maxL : Nat) (rt : Option FieldType) (n : Nat) : Prop := (∃ host, Jvm.Cond.methodLinkNest own idx y host ∈ nests) ∧ Jvm.Cond.code y bytes maxL rt ∈ GT ∧ Jvm.Cond.initialized y.cls ∈ GT ∧ (y.cls ≠ "java/lang/invoke/MethodHandle" ∧ y.cls ≠ "java/lang/invoke/VarHandle" ∧ (parseMethodDescriptor y.desc).map (fun d => d.parameters.length) = some n)
theorem goodIn_code {w : Jvm.Cond} {Ts : List Jvm.Cond} (h : w ∈ GT) (hG : ∀ w ∈ GT, w ∈ Ts) : GoodIn Ts (w :: GT) := by
  intro v hv
  rcases List.mem_cons.mp hv with rfl | hv
  · exact ⟨hG _ h, GT_good h⟩
  · exact ⟨hG _ hv, GT_good hv⟩
theorem Pcc.blind {D : va_G} {tc : Nat → ClassId} {sa : Ad} {A : Nat → Prop} {ad : Ad} {as : List AV} {wl : Obs} {L : Lay} {X : Mem} : FrameBlind (Pcc D tc sa A ad as wl L X) := fun _ U g mk q => ⟨q.1, q.2.1, q.2.2.1.same (U := U.calling g mk _) rfl, q.2.2.2⟩
theorem Pcc.at {D : va_G} {tc : Nat → ClassId} {sa : Ad} {A : Nat → Prop} {ad : Ad} {as : List AV} {wl : Obs} {L : Lay} {X : Mem} {s : State} {H : Heap} {locs : List Loc} (ho : okS wl as) (hE : Env0 D tc sa A s s.heap) (hA : ∀ q, s.heap.size ≤ q → A q) (hW : Wok D tc sa A ad wl L X H) (hS : va_S A s.heap H locs) : ∀ U : State, U.heap = H → s.WarmedH U.vm → Pcc D tc sa A ad as wl L X (as.map (cv ad)).toArray U := by
  intro U hU hw
  subst hU
  exact ⟨rfl, ho, hE.moved hw hS.2.1, fun q h => hA q (Nat.le_trans hS.1 h), hW⟩
theorem run_J {p : Program} {l : Launch} {e : Env} {R : Room} {s : State} {m : MethodId} {args : Array Value} {below : List Frame} {meth : Method} {c : Code} {Q : State → Prop} {D : va_G} {tc : Nat → ClassId} {sa : Ad} {A : Nat → Prop} {nL : Nat} {wp : Obs} {ap : Ad} {pc : Nat} {lv : Lv} {rest : List AV} {wl : Obs} {ce sz mc ms : Nat} {ad : Ad} {H : Heap} {locs : List Loc} {ls : Array Slot} {st0 : List Value} {r : Option AV} {wl' : Obs} {L' : Lay} {Sc' Sm' : Mem} {a : Array Value}
    (hr : va_Run p l e R s m args below meth c H locs ce sz mc ms (F0 m pc ls st0) (rest.map (cv ad)) (Qcc D tc sa A ad r wl wl' L' (mm Sc' Sm') a) A) (hS : va_S A s.heap H locs) (ho1 : okL wl lv) (ho2 : okS wl rest) (w1 : ∀ q ∈ wp, q ∈ wl) (w2 : ∀ q ∈ wp, ad q.1 q.2 = ap q.1 q.2) (hsa : ∀ k i, 90 ≤ k → ad k i = sa k i) (hL : LH ad ls nL lv)
    (kk : Jw p l e R s m args below meth c Q D tc sa A nL wp ap (pc + 3) lv (r.toList ++ rest) wl' L' (ce + mc) (sz + ms) Sc' Sm') : W p l e R s m args below meth c H locs ce sz Q (F0 m pc ls st0) := by
  intro T hT X
  obtain ⟨v, st₀, t, T', Lc, h0, X', hLc, e1, e2, ⟨⟨ad', g1, g2, g3, g4, g5⟩, hz, hk⟩, stp⟩ := hr T hT X
  have hv : v = r.map (cv ad') := Outcome.returned.inj g2
  subst hv
  rw [h0] at hz hk
  have hc : ∀ v, okv wl v → cv ad' v = cv ad v := cv_agree g1 hsa g3.1
  have hS' : va_S A s.heap T'.heap (locs ++ Lc) := ⟨Nat.le_trans hS.1 (by rw [e1]; exact hz), fun q h1 h2 => by rw [e1, hk q (Nat.lt_of_lt_of_le h1 hS.1) h2]; exact hS.2.1 q h1 h2, fun q hq => by
      rcases List.mem_append.mp hq with h | h
      · exact hS.2.2 q h
      · exact hLc q h⟩
  obtain ⟨t2, a1, b1⟩ := kk (fun k v hk => (ho1 k v hk).mono g4) (by
      intro v hv
      rcases List.mem_append.mp hv with hv | hv
      · exact g5 v hv
      · exact (ho2 v hv).mono g4) (fun q hq => g4 q (w1 q hq)) ad' T'.heap (locs ++ Lc) ls (fun q hq => (g1 q (w1 q hq)).trans (w2 q hq)) (by rw [e1]; exact g3) hS' (hL.ad hc ho1) T' rfl X'
  refine ⟨t2, stp t2 ?_, b1⟩
  have e3 : (r.toList ++ rest).map (cv ad') = (r.map (cv ad')).toList ++ rest.map (cv ad) := by
    rw [List.map_append, map_agree hc ho2]
    cases r <;> rfl
  rw [e3] at a1
  exact a1
section RC
variable {own : String} {cc : ByteArray} {nL fr lo rc rs : Nat} {sc : Option (Nat × (Nat → Int32))} {isI : Bool} {J : Nat → Lv → List AV → Obs → Lay → Nat → Nat → Mem → Mem → Prop}
variable {pc : Nat} {lv : Lv} {rest : List AV} {wl : Obs} {L : Lay} {ce sz : Nat} {Sc Sm : Mem} {idx k i : Nat} {y : MethodName} {bytes : ByteArray} {maxL n fr1 lo1 mc ms : Nat} {rt : Option FieldType} {as : List AV} {r : Option AV} {wl' : Obs} {L' : Lay} {Sc' Sm' : Mem}
/-- the room that a callee wants -/
def Rm (fr lo rc rs fr1 lo1 maxL mc ms ce sz nrest : Nat) : Prop := fr1 + 1 ≤ fr ∧ 8 + (maxL + 11) + lo1 ≤ lo ∧ ce + mc ≤ rc ∧ sz + ms ≤ rs ∧ nrest ≤ 8
theorem okS_split {wl : Obs} {as rest : List AV} (h : okS wl (as.reverse ++ rest)) : okS wl as ∧ okS wl rest := ⟨fun v hv => h v (List.mem_append_left _ (List.mem_reverse.mpr hv)), fun v hv => h v (List.mem_append_right _ hv)⟩
theorem Cl.callV0 (h : Cl own cc nL fr lo rc rs sc isI J) {C : String} (hd : decode cc pc = .ok (.invokevirtual idx, 3)) (hl : LkB own idx y bytes maxL rt n) (hi : Jvm.Cond.instanceMethod y ∈ GT) (hs : Jvm.Cond.selects C y y ∈ GT) (hrecv : ∀ {s : State} {D : va_G} {tc : Nat → ClassId} {sa : Ad} {A : Nat → Prop} {ad : Ad} {H : Heap} {locs : List Loc}, Env0 D tc sa A s s.heap → Wok D tc sa A ad wl L (mm Sc Sm) H → va_S A s.heap H locs → okv wl (vr k i) → ∃ cell : Cell, H[ad k i]? = some cell ∧ cell.vm.isStatics = false ∧ s.vm.findClass C = some cell.cls) (hc : Ct y bytes maxL rt fr1 lo1 mc ms (vr k i :: as) wl L Sc Sm r wl' L' Sc' Sm') (hn : as.length = n) (hrm : Rm fr lo rc rs fr1 lo1 maxL mc ms ce sz rest.length) (kk : J (pc + 3) lv (r.toList ++ rest) wl' L' (ce + mc) (sz + ms) Sc' Sm') : J pc lv (as.reverse ++ vr k i :: rest) wl L ce sz Sc Sm := by
  obtain ⟨p, l, e, R, s, m, args, below, meth, c, Q, D, tc, sa, A, Ts, wp, ap, ⟨⟨hx, hb, hml, hown, hts⟩, hG, hE, hA, hX⟩, ⟨hRf, hRl, hRc, hRs⟩, hI, rfl⟩ := h
  intro o1 o2 w1 ad H locs ls w2 hW hS hL
  obtain ⟨m1, m2, m3, m4, m5⟩ := hrm
  obtain ⟨oa, ob⟩ := okS_split o2
  have hcw : CallW R s args own C idx y bytes maxL rt (.code y bytes maxL rt :: GT) { frames := fr1, cells := mc, slots := ms, locals := lo1 } mc ms n := ⟨callB_of n hts (goodIn_code hl.2.1 hG) rfl rfl rfl (hts _ (hG _ hl.2.2.1)) (hts _ (hG _ hl.1)) hl.2.2.2 ⟨by rw [hRf]; exact m1, by rw [hRl]; exact m2⟩, hts _ (hG _ hi), hts _ (hG _ hs)⟩
  have hrun := va_runV (H := H) (locs := locs) (cells := ce) (slots := sz) (below := below) (meth := meth) (e := e) (g := F0 m pc ls ((as.reverse ++ vr k i :: rest).map (cv ad))) (b := ad k i) (As := as.map (cv ad)) (rest := rest.map (cv ad)) ⟨hx, hb, hml, hown, hts⟩ (hc l D tc sa A ad) hcw
    ⟨Pcc.blind, hrecv hE hW hS ob.hd, Pcc.at (okS.cons ob.hd oa) hE hA hW hS⟩ rfl (by rw [List.length_map]; exact hn) hL.1 (by rw [List.map_append, List.map_reverse]; rfl) (lv_room (by rw [cat_sum]; exact m5)) hd ⟨by rw [hRc]; exact m3, by rw [hRs]; exact m4⟩
  exact run_J hrun hS o1 ob.tl w1 w2 hW.1 hL kk
theorem Cl.callV (h : Cl own cc nL fr lo rc rs sc isI J) {C : String} {T : u_T} {N : Nat} (hd : decode cc pc = .ok (.invokevirtual idx, 3)) (hl : LkB own idx y bytes maxL rt n) (hi : Jvm.Cond.instanceMethod y ∈ GT) (hs : Jvm.Cond.selects C y y ∈ GT) (hC : vwCl[k]? = some (C, T, N)) (hk : k < nObj) (hc : Ct y bytes maxL rt fr1 lo1 mc ms (vr k i :: as) wl L Sc Sm r wl' L' Sc' Sm') (hn : as.length = n) (hrm : Rm fr lo rc rs fr1 lo1 maxL mc ms ce sz rest.length) (kk : J (pc + 3) lv (r.toList ++ rest) wl' L' (ce + mc) (sz + ms) Sc' Sm') : J pc lv (as.reverse ++ vr k i :: rest) wl L ce sz Sc Sm := by
  refine h.callV0 hd hl hi hs ?_ hc hn hrm kk
  intro s D tc sa A ad H locs hE hW hS hok
  obtain ⟨n', hn'⟩ := List.getElem?_of_mem (okv_obj hok hk)
  have he := wls_at (tc := tc) (ad := ad) (L := L) (X := mm Sc Sm) hn'
  rw [ent_obj hk] at he
  exact va_recv hE.1 hW.2.2.2.1 hC he
theorem Cl.callVS (h : Cl own cc nL fr lo rc rs sc isI J) (hi2 : i < 2) (hd : decode cc pc = .ok (.invokevirtual idx, 3)) (hl : LkB own idx y bytes maxL rt n) (hi : Jvm.Cond.instanceMethod y ∈ GT) (hs : Jvm.Cond.selects "java/lang/String" y y ∈ GT) (hc : Ct y bytes maxL rt fr1 lo1 mc ms (vr 90 i :: as) wl L Sc Sm r wl' L' Sc' Sm') (hn : as.length = n) (hrm : Rm fr lo rc rs fr1 lo1 maxL mc ms ce sz rest.length) (kk : J (pc + 3) lv (r.toList ++ rest) wl' L' (ce + mc) (sz + ms) Sc' Sm') : J pc lv (as.reverse ++ vr 90 i :: rest) wl L ce sz Sc Sm := by
  refine h.callV0 hd hl hi hs ?_ hc hn hrm kk
  intro s D tc sa A ad H locs hE hW hS _
  rw [hW.1 90 i (Nat.le_refl 90)]
  exact vk_recv hE.2.2.1 hi2 hS
theorem Cl.callS (h : Cl own cc nL fr lo rc rs sc isI J) (hd : decode cc pc = .ok (.invokestatic idx, 3)) (hl : LkB own idx y bytes maxL rt n) (hi : Jvm.Cond.static y ∈ GT) (hc : Ct y bytes maxL rt fr1 lo1 mc ms as wl L Sc Sm r wl' L' Sc' Sm') (hn : as.length = n) (hrm : Rm fr lo rc rs fr1 lo1 maxL mc ms ce sz rest.length) (kk : J (pc + 3) lv (r.toList ++ rest) wl' L' (ce + mc) (sz + ms) Sc' Sm') : J pc lv (as.reverse ++ rest) wl L ce sz Sc Sm := by
  obtain ⟨p, l, e, R, s, m, args, below, meth, c, Q, D, tc, sa, A, Ts, wp, ap, ⟨⟨hx, hb, hml, hown, hts⟩, hG, hE, hA, hX⟩, ⟨hRf, hRl, hRc, hRs⟩, hI, rfl⟩ := h
  intro o1 o2 w1 ad H locs ls w2 hW hS hL
  obtain ⟨m1, m2, m3, m4, m5⟩ := hrm
  obtain ⟨oa, ob⟩ := okS_split o2
  have hcw : CallB R s args own idx y bytes maxL rt (.code y bytes maxL rt :: GT) { frames := fr1, cells := mc, slots := ms, locals := lo1 } mc ms n ∧ (Jvm.Cond.static y).before args s = true := ⟨callB_of n hts (goodIn_code hl.2.1 hG) rfl rfl rfl (hts _ (hG _ hl.2.2.1)) (hts _ (hG _ hl.1)) hl.2.2.2 ⟨by rw [hRf]; exact m1, by rw [hRl]; exact m2⟩, hts _ (hG _ hi)⟩
  have hrun := va_runS (H := H) (locs := locs) (cells := ce) (slots := sz) (below := below) (meth := meth) (e := e) (g := F0 m pc ls ((as.reverse ++ rest).map (cv ad))) (As := as.map (cv ad)) (rest := rest.map (cv ad)) ⟨hx, hb, hml, hown, hts⟩ (hc l D tc sa A ad) hcw
    ⟨Pcc.blind, Pcc.at oa hE hA hW hS⟩ rfl (by rw [List.length_map]; exact hn) hL.1 (by rw [List.map_append, List.map_reverse]) (lv_room (by rw [cat_sum]; exact m5)) hd ⟨by rw [hRc]; exact m3, by rw [hRs]; exact m4⟩
  exact run_J hrun hS o1 ob w1 w2 hW.1 hL kk
theorem Cl.cn {R : Room} {s : State} {args : Array Value} {own : String} {Ts : List Jvm.Cond} {host : String} (hts : ∀ w ∈ Ts, w.before args s = true) (hG : ∀ w ∈ GT, w ∈ Ts) (hN : ∀ w ∈ nests, va_Nw w s) (hh : Jvm.Cond.methodLinkNest own idx y host ∈ nests) (hcode : Jvm.Cond.code y bytes maxL rt ∈ GT) (hini : Jvm.Cond.initialized y.cls ∈ GT) (hd : y.cls ≠ "java/lang/invoke/MethodHandle" ∧ y.cls ≠ "java/lang/invoke/VarHandle" ∧ (parseMethodDescriptor y.desc).map (fun d => d.parameters.length) = some n) (hR : fr1 + 1 ≤ R.frames ∧ 8 + (maxL + 11) + lo1 ≤ R.locals) : va_CN R s args own idx y host bytes maxL rt (.code y bytes maxL rt :: GT) { frames := fr1, cells := mc, slots := ms, locals := lo1 } mc ms n :=
  va_cnB n hts (goodIn_code hcode hG) rfl rfl rfl (hN _ hh) (hts _ (hG _ hini)) hd hR
theorem Cl.callSN (h : Cl own cc nL fr lo rc rs sc isI J) (hd : decode cc pc = .ok (.invokestatic idx, 3)) (hl : LkN own idx y bytes maxL rt n) (hi : Jvm.Cond.static y ∈ GT) (hc : Ct y bytes maxL rt fr1 lo1 mc ms as wl L Sc Sm r wl' L' Sc' Sm') (hn : as.length = n) (hrm : Rm fr lo rc rs fr1 lo1 maxL mc ms ce sz rest.length) (kk : J (pc + 3) lv (r.toList ++ rest) wl' L' (ce + mc) (sz + ms) Sc' Sm') : J pc lv (as.reverse ++ rest) wl L ce sz Sc Sm := by
  obtain ⟨p, l, e, R, s, m, args, below, meth, c, Q, D, tc, sa, A, Ts, wp, ap, ⟨⟨hx, hb, hml, hown, hts⟩, hG, hE, hA, hX⟩, ⟨hRf, hRl, hRc, hRs⟩, hI, rfl⟩ := h
  intro o1 o2 w1 ad H locs ls w2 hW hS hL
  obtain ⟨m1, m2, m3, m4, m5⟩ := hrm
  obtain ⟨oa, ob⟩ := okS_split o2
  obtain ⟨host, hh⟩ := hl.1
  have hrun := va_runSN (H := H) (locs := locs) (cells := ce) (slots := sz) (below := below) (meth := meth) (e := e) (g := F0 m pc ls ((as.reverse ++ rest).map (cv ad))) (As := as.map (cv ad)) (rest := rest.map (cv ad)) ⟨hx, hb, hml, hown, hts⟩ (hc l D tc sa A ad) ⟨Cl.cn hts hG hE.2.1 hh hl.2.1 hl.2.2.1 hl.2.2.2 ⟨by rw [hRf]; exact m1, by rw [hRl]; exact m2⟩, hts _ (hG _ hi), trivial⟩
    ⟨Pcc.blind, Pcc.at oa hE hA hW hS⟩ rfl (by rw [List.length_map]; exact hn) hL.1 (by rw [List.map_append, List.map_reverse]) (lv_room (by rw [cat_sum]; exact m5)) hd ⟨by rw [hRc]; exact m3, by rw [hRs]; exact m4⟩
  exact run_J hrun hS o1 ob w1 w2 hW.1 hL kk
theorem Cl.callI (h : Cl own cc nL fr lo rc rs sc isI J) (hd : decode cc pc = .ok (.invokespecial idx, 3)) (hl : LkB own idx y bytes maxL none n) (hy : y.name = "<init>") (hi : Jvm.Cond.instanceMethod y ∈ GT) (hc : Ct y bytes maxL none fr1 lo1 mc ms (vr k i :: as) wl L Sc Sm r wl' L' Sc' Sm') (hn : as.length = n) (hrm : Rm fr lo rc rs fr1 lo1 maxL mc ms ce sz rest.length) (kk : J (pc + 3) lv (r.toList ++ rest) wl' L' (ce + mc) (sz + ms) Sc' Sm') : J pc lv (as.reverse ++ vr k i :: rest) wl L ce sz Sc Sm := by
  obtain ⟨p, l, e, R, s, m, args, below, meth, c, Q, D, tc, sa, A, Ts, wp, ap, ⟨⟨hx, hb, hml, hown, hts⟩, hG, hE, hA, hX⟩, ⟨hRf, hRl, hRc, hRs⟩, hI, rfl⟩ := h
  intro o1 o2 w1 ad H locs ls w2 hW hS hL
  obtain ⟨m1, m2, m3, m4, m5⟩ := hrm
  obtain ⟨oa, ob⟩ := okS_split o2
  have hcw : CallB R s args own idx y bytes maxL none (.code y bytes maxL none :: GT) { frames := fr1, cells := mc, slots := ms, locals := lo1 } mc ms n ∧ y.name = "<init>" ∧ (Jvm.Cond.instanceMethod y).before args s = true := ⟨callB_of n hts (goodIn_code hl.2.1 hG) rfl rfl rfl (hts _ (hG _ hl.2.2.1)) (hts _ (hG _ hl.1)) hl.2.2.2 ⟨by rw [hRf]; exact m1, by rw [hRl]; exact m2⟩, hy, hts _ (hG _ hi)⟩
  have hrun := va_runI (H := H) (locs := locs) (cells := ce) (slots := sz) (below := below) (meth := meth) (e := e) (g := F0 m pc ls ((as.reverse ++ vr k i :: rest).map (cv ad))) (b := ad k i) (As := as.map (cv ad)) (rest := rest.map (cv ad)) ⟨hx, hb, hml, hown, hts⟩ (hc l D tc sa A ad) hcw
    ⟨Pcc.blind, Pcc.at (okS.cons ob.hd oa) hE hA hW hS⟩ rfl (by rw [List.length_map]; exact hn) hL.1 (by rw [List.map_append, List.map_reverse]; rfl) (lv_room (by rw [cat_sum]; exact m5)) hd ⟨by rw [hRc]; exact m3, by rw [hRs]; exact m4⟩
  exact run_J hrun hS o1 ob.tl w1 w2 hW.1 hL kk
theorem Cl.callIN (h : Cl own cc nL fr lo rc rs sc isI J) (hd : decode cc pc = .ok (.invokespecial idx, 3)) (hl : LkN own idx y bytes maxL none n) (hy : y.name = "<init>") (hi : Jvm.Cond.instanceMethod y ∈ GT) (hc : Ct y bytes maxL none fr1 lo1 mc ms (vr k i :: as) wl L Sc Sm r wl' L' Sc' Sm') (hn : as.length = n) (hrm : Rm fr lo rc rs fr1 lo1 maxL mc ms ce sz rest.length) (kk : J (pc + 3) lv (r.toList ++ rest) wl' L' (ce + mc) (sz + ms) Sc' Sm') : J pc lv (as.reverse ++ vr k i :: rest) wl L ce sz Sc Sm := by
  obtain ⟨p, l, e, R, s, m, args, below, meth, c, Q, D, tc, sa, A, Ts, wp, ap, ⟨⟨hx, hb, hml, hown, hts⟩, hG, hE, hA, hX⟩, ⟨hRf, hRl, hRc, hRs⟩, hI, rfl⟩ := h
  intro o1 o2 w1 ad H locs ls w2 hW hS hL
  obtain ⟨m1, m2, m3, m4, m5⟩ := hrm
  obtain ⟨oa, ob⟩ := okS_split o2
  obtain ⟨host, hh⟩ := hl.1
  have hrun := va_runIN (H := H) (locs := locs) (cells := ce) (slots := sz) (below := below) (meth := meth) (e := e) (g := F0 m pc ls ((as.reverse ++ vr k i :: rest).map (cv ad))) (b := ad k i) (As := as.map (cv ad)) (rest := rest.map (cv ad)) ⟨hx, hb, hml, hown, hts⟩ (hc l D tc sa A ad) ⟨Cl.cn hts hG hE.2.1 hh hl.2.1 hl.2.2.1 hl.2.2.2 ⟨by rw [hRf]; exact m1, by rw [hRl]; exact m2⟩, hy, hts _ (hG _ hi)⟩
    ⟨Pcc.blind, Pcc.at (okS.cons ob.hd oa) hE hA hW hS⟩ rfl (by rw [List.length_map]; exact hn) hL.1 (by rw [List.map_append, List.map_reverse]; rfl) (lv_room (by rw [cat_sum]; exact m5)) hd ⟨by rw [hRc]; exact m3, by rw [hRs]; exact m4⟩
  exact run_J hrun hS o1 ob.tl w1 w2 hW.1 hL kk
end RC
