/-! ===== calls in the settled world, as the walks use them ===== -/
abbrev vq (k : Nat) (o : Option Nat) : AV := Sum.inr (o.map (fun i => (k, i)))
def mt {α : Type} (o : Option Nat) (a : α) (f : Nat → α) : α := match o with
  | none => a
  | some i => f i
theorem mt_n {α : Type} {a : α} {f : Nat → α} : mt none a f = a := rfl
theorem mt_s {α : Type} {a : α} {f : Nat → α} {i : Nat} : mt (some i) a f = f i := rfl
def bd3 {α β γ δ : Type} (o : Option (α × β × γ)) (f : α → β → γ → Option δ) : Option δ := match o with
  | none => none
  | some (a, b, c) => f a b c
theorem bd3_some {α β γ δ : Type} {o : Option (α × β × γ)} {f : α → β → γ → Option δ} {r : δ} (h : bd3 o f = some r) : ∃ a b c, o = some (a, b, c) ∧ f a b c = some r := by
  cases o with
  | none => cases h
  | some q => exact ⟨q.1, q.2.1, q.2.2, rfl, h⟩
def bd4 {α β γ δ ε : Type} (o : Option (α × β × γ × δ)) (f : α → β → γ → δ → Option ε) : Option ε := match o with
  | none => none
  | some (a, b, c, d) => f a b c d
theorem bd4_some {α β γ δ ε : Type} {o : Option (α × β × γ × δ)} {f : α → β → γ → δ → Option ε} {r : ε} (h : bd4 o f = some r) : ∃ a b c d, o = some (a, b, c, d) ∧ f a b c d = some r := by
  cases o with
  | none => cases h
  | some q => exact ⟨q.1, q.2.1, q.2.2.1, q.2.2.2, rfl, h⟩
def FI (own : String) (idx k j : Nat) : Prop := FL own idx k j ∧ isRf k j = false ∧ sd k = false
def FM (own : String) (idx k j : Nat) : Prop := FL own idx k j ∧ isRf k j = false ∧ sd k = true
def FR (own : String) (idx k j : Nat) : Prop := FL own idx k j ∧ isRf k j = true
def FPI (own : String) (idx k j : Nat) : Prop := FP own idx k j .int ∧ isRf k j = false ∧ sd k = false
def FPM (own : String) (idx k j : Nat) : Prop := FP own idx k j .int ∧ isRf k j = false ∧ sd k = true
def FPZ (own : String) (idx k j : Nat) : Prop := FP own idx k j .boolean ∧ isRf k j = false ∧ sd k = false
def FPZM (own : String) (idx k j : Nat) : Prop := FP own idx k j .boolean ∧ isRf k j = false ∧ sd k = true
def AL (t k n : Nat) (s : Bool) : Prop := ak k = t ∧ nsl k = n ∧ sd k = s
def LkV (own : String) (idx k : Nat) (y : MethodName) (bytes : ByteArray) (maxL : Nat) (rt : Option FieldType) (n : Nat) : Prop := LkB own idx y bytes maxL rt n ∧ Jvm.Cond.instanceMethod y ∈ GT ∧ ∃ C T N, Jvm.Cond.selects C y y ∈ GT ∧ vwCl[k]? = some (C, T, N) ∧ k < nObj
def LkT (own : String) (idx : Nat) (y : MethodName) (bytes : ByteArray) (maxL : Nat) (rt : Option FieldType) (n : Nat) : Prop := LkB own idx y bytes maxL rt n ∧ Jvm.Cond.instanceMethod y ∈ GT ∧ Jvm.Cond.selects "java/lang/String" y y ∈ GT
def LkS (own : String) (idx : Nat) (y : MethodName) (bytes : ByteArray) (maxL : Nat) (rt : Option FieldType) (n : Nat) : Prop := LkB own idx y bytes maxL rt n ∧ Jvm.Cond.static y ∈ GT
def LkSN (own : String) (idx : Nat) (y : MethodName) (bytes : ByteArray) (maxL : Nat) (rt : Option FieldType) (n : Nat) : Prop := LkN own idx y bytes maxL rt n ∧ Jvm.Cond.static y ∈ GT
def rmB (fr lo rc rs fr1 lo1 maxL ce sz nr : Nat) : Bool := Nat.ble (fr1 + 1) fr && (Nat.ble (8 + (maxL + 11) + lo1) lo && (Nat.ble ce rc && (Nat.ble sz rs && Nat.ble nr 8)))
theorem rmB_ok {fr lo rc rs fr1 lo1 maxL ce sz nr : Nat} (h : rmB fr lo rc rs fr1 lo1 maxL ce sz nr = true) : Rm fr lo rc rs fr1 lo1 maxL 0 0 ce sz nr := by
  unfold rmB at h
  simp only [Bool.and_eq_true, Nat.ble_eq] at h
  exact ⟨h.1, h.2.1, h.2.2.1, h.2.2.2.1, h.2.2.2.2⟩
section RW
variable {own : String} {cc : ByteArray} {nL fr lo rc rs : Nat} {sc : Option (Nat × (Nat → Int32))} {isI : Bool} {J : Nat → Lv → List AV → Obs → Lay → Nat → Nat → Mem → Mem → Prop}
variable {pc : Nat} {lv : Lv} {st0 st1 : List AV} {wl : Obs} {L : Lay} {ce sz : Nat} {Sc Sm : Mem} {idx k i : Nat} {y : MethodName} {bytes : ByteArray} {maxL n fr1 lo1 : Nat} {rt : Option FieldType} {r : Option AV} {Sc' Sm' : Mem}
theorem Cl.gI {st : List AV} {j : Nat} (h : Cl own cc nL fr lo rc rs sc isI J) (hd : decode cc pc = .ok (.getfield idx, 3)) (hf : FI own idx k j) (kk : J (pc + 3) lv (vi (Sc k i j) :: st) wl L ce sz Sc Sm) : J pc lv (vr k i :: st) wl L ce sz Sc Sm := h.getI hd hf.1 hf.2.1 hf.2.2 kk
theorem Cl.gM {st : List AV} {j : Nat} (h : Cl own cc nL fr lo rc rs sc isI J) (hd : decode cc pc = .ok (.getfield idx, 3)) (hf : FM own idx k j) (kk : J (pc + 3) lv (vi (Sm k i j) :: st) wl L ce sz Sc Sm) : J pc lv (vr k i :: st) wl L ce sz Sc Sm := h.getM hd hf.1 hf.2.1 hf.2.2 kk
theorem Cl.gR {st : List AV} {j : Nat} {k' i' : Nat} (h : Cl own cc nL fr lo rc rs sc isI J) (hd : decode cc pc = .ok (.getfield idx, 3)) (hf : FR own idx k j) (hL' : L k i j = some (k', i')) (kk : J (pc + 3) lv (vr k' i' :: st) wl L ce sz Sc Sm) : J pc lv (vr k i :: st) wl L ce sz Sc Sm := h.getR hd hf.1 hf.2 hL' kk
theorem Cl.pI {st : List AV} {j : Nat} {x : Int32} (h : Cl own cc nL fr lo rc rs sc isI J) (hd : decode cc pc = .ok (.putfield idx, 3)) (hf : FPI own idx k j) (kk : J (pc + 3) lv st wl L ce sz (up Sc k i j x) Sm) : J pc lv (vi x :: vr k i :: st) wl L ce sz Sc Sm := h.putI hd hf.1 hf.2.1 hf.2.2 kk
theorem Cl.pIM {st : List AV} {j : Nat} {x : Int32} (h : Cl own cc nL fr lo rc rs sc isI J) (hd : decode cc pc = .ok (.putfield idx, 3)) (hf : FPM own idx k j) (kk : J (pc + 3) lv st wl L ce sz Sc (up Sm k i j x)) : J pc lv (vi x :: vr k i :: st) wl L ce sz Sc Sm := h.putM hd hf.1 hf.2.1 hf.2.2 kk
theorem Cl.pZ {st : List AV} {j : Nat} {x : Int32} (h : Cl own cc nL fr lo rc rs sc isI J) (hd : decode cc pc = .ok (.putfield idx, 3)) (hf : FPZ own idx k j) (hb01 : x = 0 ∨ x = 1) (kk : J (pc + 3) lv st wl L ce sz (up Sc k i j x) Sm) : J pc lv (vi x :: vr k i :: st) wl L ce sz Sc Sm := h.putZ hd hf.1 hf.2.1 hb01 hf.2.2 kk
theorem Cl.pZM {st : List AV} {j : Nat} {x : Int32} (h : Cl own cc nL fr lo rc rs sc isI J) (hd : decode cc pc = .ok (.putfield idx, 3)) (hf : FPZM own idx k j) (hb01 : x = 0 ∨ x = 1) (kk : J (pc + 3) lv st wl L ce sz Sc (up Sm k i j x)) : J pc lv (vi x :: vr k i :: st) wl L ce sz Sc Sm := h.putZM hd hf.1 hf.2.1 hb01 hf.2.2 kk
theorem Cl.liald {st : List AV} {j m : Nat} {x : Int32} (h : Cl own cc nL fr lo rc rs sc isI J) (hd : decode cc pc = .ok (.iaload, 1)) (ha : AL 0 k m false) (hi : ix x m = some j) (kk : J (pc + 1) lv (vi (Sc k i j) :: st) wl L ce sz Sc Sm) : J pc lv (vi x :: vr k i :: st) wl L ce sz Sc Sm := h.iald hd ha.1 ha.2.1 hi ha.2.2 kk
theorem Cl.lialdM {st : List AV} {j m : Nat} {x : Int32} (h : Cl own cc nL fr lo rc rs sc isI J) (hd : decode cc pc = .ok (.iaload, 1)) (ha : AL 0 k m true) (hi : ix x m = some j) (kk : J (pc + 1) lv (vi (Sm k i j) :: st) wl L ce sz Sc Sm) : J pc lv (vi x :: vr k i :: st) wl L ce sz Sc Sm := h.ialdM hd ha.1 ha.2.1 hi ha.2.2 kk
theorem Cl.lbald {st : List AV} {j m t : Nat} {x : Int32} (h : Cl own cc nL fr lo rc rs sc isI J) (hd : decode cc pc = .ok (.baload, 1)) (ha : AL (t + 1) k m false) (hi : ix x m = some j) (kk : J (pc + 1) lv (vi (Sc k i j) :: st) wl L ce sz Sc Sm) (ht : t = 0 ∨ t = 1 := by decide) : J pc lv (vi x :: vr k i :: st) wl L ce sz Sc Sm := h.bald hd (by have := ha.1; omega) ha.2.1 hi ha.2.2 kk
theorem Cl.siast {st : List AV} {j m : Nat} {x v : Int32} (h : Cl own cc nL fr lo rc rs sc isI J) (hd : decode cc pc = .ok (.iastore, 1)) (ha : AL 0 k m false) (hi : ix x m = some j) (kk : J (pc + 1) lv st wl L ce sz (up Sc k i j v) Sm) : J pc lv (vi v :: vi x :: vr k i :: st) wl L ce sz Sc Sm := h.iast hd ha.1 ha.2.1 hi ha.2.2 kk
theorem Cl.siastM {st : List AV} {j m : Nat} {x v : Int32} (h : Cl own cc nL fr lo rc rs sc isI J) (hd : decode cc pc = .ok (.iastore, 1)) (ha : AL 0 k m true) (hi : ix x m = some j) (kk : J (pc + 1) lv st wl L ce sz Sc (up Sm k i j v)) : J pc lv (vi v :: vi x :: vr k i :: st) wl L ce sz Sc Sm := h.iastM hd ha.1 ha.2.1 hi ha.2.2 kk
theorem Cl.sbast {st : List AV} {j m : Nat} {x v : Int32} (h : Cl own cc nL fr lo rc rs sc isI J) (hd : decode cc pc = .ok (.bastore, 1)) (ha : AL 1 k m false) (hi : ix x m = some j) (kk : J (pc + 1) lv st wl L ce sz (up Sc k i j (vp_nar .byte v)) Sm) : J pc lv (vi v :: vi x :: vr k i :: st) wl L ce sz Sc Sm := h.bast hd ha.1 ha.2.1 hi ha.2.2 kk
theorem Cl.szast {st : List AV} {j m : Nat} {x v : Int32} (h : Cl own cc nL fr lo rc rs sc isI J) (hd : decode cc pc = .ok (.bastore, 1)) (ha : AL 2 k m false) (hi : ix x m = some j) (kk : J (pc + 1) lv st wl L ce sz (up Sc k i j (vp_nar .boolean v)) Sm) : J pc lv (vi v :: vi x :: vr k i :: st) wl L ce sz Sc Sm := h.zast hd ha.1 ha.2.1 hi ha.2.2 kk
theorem Cl.cV (h : Cl own cc nL fr lo rc rs sc isI J) (as rest : List AV) (st1 : List AV) (hd : decode cc pc = .ok (.invokevirtual idx, 3)) (hl : LkV own idx k y bytes maxL rt n) (hc : Ct y bytes maxL rt fr1 lo1 0 0 (vr k i :: as) wl L Sc Sm r wl L Sc' Sm') (h0 : st0 = as.reverse ++ vr k i :: rest) (h1 : r.toList ++ rest = st1) (hn : as.length = n) (hrm : rmB fr lo rc rs fr1 lo1 maxL ce sz rest.length = true) (kk : J (pc + 3) lv st1 wl L ce sz Sc' Sm') : J pc lv st0 wl L ce sz Sc Sm := by
  subst h0
  subst h1
  obtain ⟨hl, hi, C, T, N, hs, hC, hk⟩ := hl
  exact h.callV hd hl hi hs hC hk hc hn (rmB_ok hrm) kk
theorem Cl.cT (h : Cl own cc nL fr lo rc rs sc isI J) (as rest : List AV) (st1 : List AV) (hi2 : i < 2) (hd : decode cc pc = .ok (.invokevirtual idx, 3)) (hl : LkT own idx y bytes maxL rt n) (hc : Ct y bytes maxL rt fr1 lo1 0 0 (vr 90 i :: as) wl L Sc Sm r wl L Sc' Sm') (h0 : st0 = as.reverse ++ vr 90 i :: rest) (h1 : r.toList ++ rest = st1) (hn : as.length = n) (hrm : rmB fr lo rc rs fr1 lo1 maxL ce sz rest.length = true) (kk : J (pc + 3) lv st1 wl L ce sz Sc' Sm') : J pc lv st0 wl L ce sz Sc Sm := by
  subst h0
  subst h1
  obtain ⟨hl, hi, hs⟩ := hl
  exact h.callVS hi2 hd hl hi hs hc hn (rmB_ok hrm) kk
theorem Cl.cS (h : Cl own cc nL fr lo rc rs sc isI J) (as rest : List AV) (st1 : List AV) (hd : decode cc pc = .ok (.invokestatic idx, 3)) (hl : LkS own idx y bytes maxL rt n) (hc : Ct y bytes maxL rt fr1 lo1 0 0 as wl L Sc Sm r wl L Sc' Sm') (h0 : st0 = as.reverse ++ rest) (h1 : r.toList ++ rest = st1) (hn : as.length = n) (hrm : rmB fr lo rc rs fr1 lo1 maxL ce sz rest.length = true) (kk : J (pc + 3) lv st1 wl L ce sz Sc' Sm') : J pc lv st0 wl L ce sz Sc Sm := by
  subst h0
  subst h1
  obtain ⟨hl, hi⟩ := hl
  exact h.callS hd hl hi hc hn (rmB_ok hrm) kk
theorem Cl.cSN (h : Cl own cc nL fr lo rc rs sc isI J) (as rest : List AV) (st1 : List AV) (hd : decode cc pc = .ok (.invokestatic idx, 3)) (hl : LkSN own idx y bytes maxL rt n) (hc : Ct y bytes maxL rt fr1 lo1 0 0 as wl L Sc Sm r wl L Sc' Sm') (h0 : st0 = as.reverse ++ rest) (h1 : r.toList ++ rest = st1) (hn : as.length = n) (hrm : rmB fr lo rc rs fr1 lo1 maxL ce sz rest.length = true) (kk : J (pc + 3) lv st1 wl L ce sz Sc' Sm') : J pc lv st0 wl L ce sz Sc Sm := by
  subst h0
  subst h1
  obtain ⟨hl, hi⟩ := hl
  exact h.callSN hd hl hi hc hn (rmB_ok hrm) kk
/-- fewer locals known -/
def lsub : Lv → Lv → Prop
  | [], _ => True
  | none :: l, _ :: l' => lsub l l'
  | some v :: l, w :: l' => w = some v ∧ lsub l l'
  | _ :: _, [] => False
theorem lsub_gl : ∀ {a b : Lv}, lsub a b → ∀ (k : Nat) (v : AV), gl a k = some v → gl b k = some v
  | [], _, _, k, v, h => by cases h
  | none :: l, w :: l', hs, k, v, h => by
    cases k with
    | zero => cases h
    | succ k => exact lsub_gl (a := l) (b := l') hs k v h
  | some u :: l, w :: l', hs, k, v, h => by
    cases k with
    | zero =>
      have e : u = v := Option.some.inj h
      show w = some v
      rw [hs.1, e]
    | succ k => exact lsub_gl (a := l) (b := l') hs.2 k v h
theorem Cl.weak (h : Cl own cc nL fr lo rc rs sc isI J) (lv' : Lv) (hs : lsub lv' lv) (kk : J pc lv' st0 wl L ce sz Sc Sm) : J pc lv st0 wl L ce sz Sc Sm := by
  obtain ⟨p, l, e, R, s, m, args, below, meth, c, Q, D, tc, sa, A, Ts, wp, ap, ⟨⟨hx, hb, hml, hown, hts⟩, hG, hE, hA, hX⟩, ⟨hRf, hRl, hRc, hRs⟩, hI, rfl⟩ := h
  intro o1 o2 w1 ad H locs ls w2 hW hS hL
  exact kk (fun k v hk => o1 k v (lsub_gl hs k v hk)) o2 w1 ad H locs ls w2 hW hS (LH.of hL.1 hL.2.1 (fun k v hk => hL.at (lsub_gl hs k v hk)))
end RW
