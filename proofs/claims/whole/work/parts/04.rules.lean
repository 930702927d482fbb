/-! ===== the environment of every method ===== -/
def sTx (i : Nat) : String := if i = 0 then "age when or and not then now dust own read shelf kind alive paper " else ";+-*/()<=>"
def sPool (i : Nat) : Nat := if i = 0 then 54 else 66
def sLen : List Nat := [66, 10]
def sByt : List (List Int32) := [[97, 103, 101, 32, 119, 104, 101, 110, 32, 111, 114, 32, 97, 110, 100, 32, 110, 111, 116, 32, 116, 104, 101, 110, 32, 110, 111, 119, 32, 100, 117, 115, 116, 32, 111, 119, 110, 32, 114, 101, 97, 100, 32, 115, 104, 101, 108, 102, 32, 107, 105, 110, 100, 32, 97, 108, 105, 118, 101, 32, 112, 97, 112, 101, 114, 32], [59, 43, 45, 42, 47, 40, 41, 60, 61, 62]]
def isNest : Jvm.Cond → Bool
  | .methodLinkNest _ _ _ _ => true
  | _ => false
def nests : List Jvm.Cond := lw_tbl.filter isNest
theorem nests_of {w : Jvm.Cond} (h : w ∈ nests) : ∃ a i x b, w = .methodLinkNest a i x b := by
  have h2 := (List.mem_filter.mp h).2
  cases w <;> first | exact ⟨_, _, _, _, rfl⟩ | cases h2
def Env0 (D : va_G) (tc : Nat → ClassId) (sa : Ad) (A : Nat → Prop) (U : State) (H : Heap) : Prop :=
  va_K D vwCl (tysOf tc) U ∧ (∀ w ∈ nests, va_Nw w U) ∧ vk_S 2 sLen sByt (sa 90) (sa 91) A U H ∧ (∀ i, i < 2 → vk_R "PaperAger$Token" (sPool i) (sTx i) (sa 90 i) U) ∧ va_Z "java/lang/String" "COMPACT_STRINGS" "Z" (.int 1) A U H ∧ va_AO "PaperAger$Reader" U ∧ va_AO "PaperAger$Paper" U ∧ (va_Z "jdk/internal/util/Preconditions" "SIOOBE_FORMATTER" "Ljava/util/function/BiFunction;" .null A U H ∨ va_Z "jdk/internal/util/Preconditions" "SIOOBE_FORMATTER" "Ljava/util/function/BiFunction;" (.ref (sa 98 0)) A U H)
theorem Env0.moved {D : va_G} {tc : Nat → ClassId} {sa : Ad} {A : Nat → Prop} {s U : State} {H H1 : Heap} (h : Env0 D tc sa A s H) (hW : s.WarmedH U.vm) (hq : ∀ a : Nat, a < H.size → ¬ A a → H1[a]? = H[a]?) : Env0 D tc sa A U H1 := by
  obtain ⟨h1, h2, h3, h4, h5, h6, h7, h8⟩ := h
  refine ⟨va_K.moved hW.alike h1, fun w hw => ?_, (vk_S.moved hW.alike h3).kept hq, fun i hi => (h4 i hi).warm hW, ?_, h6.moved hW.alike, h7.moved hW.alike, h8.imp (fun z => (va_Z.moved hW.alike z).kept hq) (fun z => (va_Z.moved hW.alike z).kept hq)⟩
  · obtain ⟨a, i, x, b, rfl⟩ := nests_of hw
    exact va_Nw.warmM hW (h2 _ hw)
  · exact (va_Z.moved hW.alike h5).kept hq
/-! ===== the judgement of the abstract machine ===== -/
def Scr (sa : Ad) (A : Nat → Prop) (s : State) (sc : Option (Nat × (Nat → Int32))) : Prop := match sc with
  | none => True
  | some q => va_X (sa 99 0) q.1 q.2 s s.heap ∧ sa 99 0 < s.heap.size ∧ ¬ A (sa 99 0)
def Cx (p : Program) (s : State) (m : MethodId) (args : Array Value) (meth : Method) (c : Code) (D : va_G) (tc : Nat → ClassId) (sa : Ad) (A : Nat → Prop) (own : String) (cc : ByteArray) (nL : Nat) (Ts : List Jvm.Cond) (sc : Option (Nat × (Nat → Int32))) : Prop :=
  CallFix p m c cc nL s args Ts own ∧ (∀ w ∈ GT, w ∈ Ts) ∧ Env0 D tc sa A s s.heap ∧ (∀ q, s.heap.size ≤ q → A q) ∧ Scr sa A s sc
def Jw (p : Program) (l : Launch) (e : Env) (R : Room) (s : State) (m : MethodId) (args : Array Value) (below : List Frame) (meth : Method) (c : Code) (Q : State → Prop) (D : va_G) (tc : Nat → ClassId) (sa : Ad) (A : Nat → Prop) (nL : Nat) (wp : Obs) (ap : Ad) : Nat → Lv → List AV → Obs → Lay → Nat → Nat → Mem → Mem → Prop := fun pc lv st wl L ce sz Sc Sm =>
  okL wl lv → okS wl st → (∀ q ∈ wp, q ∈ wl) → ∀ (ad : Ad) (H : Heap) (locs : List Loc) (ls : Array Slot), (∀ q ∈ wp, ad q.1 q.2 = ap q.1 q.2) → Wok D tc sa A ad wl L (mm Sc Sm) H → va_S A s.heap H locs → LH ad ls nL lv →
    W p l e R s m args below meth c H locs ce sz Q (F0 m pc ls (st.map (cv ad)))
/-- J is the judgement at some method of class own with code cc and so much room -/
def Cl (own : String) (cc : ByteArray) (nL fr lo rc rs : Nat) (sc : Option (Nat × (Nat → Int32))) (isI : Bool) (J : Nat → Lv → List AV → Obs → Lay → Nat → Nat → Mem → Mem → Prop) : Prop :=
  ∃ (p : Program) (l : Launch) (e : Env) (R : Room) (s : State) (m : MethodId) (args : Array Value) (below : List Frame) (meth : Method) (c : Code) (Q : State → Prop) (D : va_G) (tc : Nat → ClassId) (sa : Ad) (A : Nat → Prop) (Ts : List Jvm.Cond) (wp : Obs) (ap : Ad),
    Cx p s m args meth c D tc sa A own cc nL Ts sc ∧ (R.frames = fr ∧ R.locals = lo ∧ R.cells = rc ∧ R.slots = rs) ∧ (isI = true → meth.name = "<init>") ∧ J = Jw p l e R s m args below meth c Q D tc sa A nL wp ap
section RU
variable {own : String} {cc : ByteArray} {nL fr lo rc rs : Nat} {sc : Option (Nat × (Nat → Int32))} {isI : Bool} {J : Nat → Lv → List AV → Obs → Lay → Nat → Nat → Mem → Mem → Prop}
variable {pc : Nat} {lv : Lv} {st : List AV} {wl : Obs} {L : Lay} {ce sz : Nat} {Sc Sm : Mem}
theorem Cl.iload_n (h : Cl own cc nL fr lo rc rs sc isI J) {k : Fin 4} {x : Int32} (hd : decode cc pc = .ok (.iload_n k, 1)) (hl : gl lv k.val = some (vi x)) (kk : J (pc + 1) lv (vi x :: st) wl L ce sz Sc Sm) : J pc lv st wl L ce sz Sc Sm := by
  obtain ⟨p, l, e, R, s, m, args, below, meth, c, Q, D, tc, sa, A, Ts, wp, ap, ⟨⟨hx, hb, hml, hown, hts⟩, hG, hE, hA, hX⟩, ⟨hRf, hRl, hRc, hRs⟩, hI, rfl⟩ := h
  intro o1 o2 w1 ad H locs ls w2 hW hS hL
  exact lv_iload_n hx hb hd rfl (hL.at hl) (kk o1 o2.i w1 ad H locs ls w2 hW hS hL)
theorem Cl.iload (h : Cl own cc nL fr lo rc rs sc isI J) {i : Nat} {x : Int32} (hd : decode cc pc = .ok (.iload i, 2)) (hl : gl lv i = some (vi x)) (kk : J (pc + 2) lv (vi x :: st) wl L ce sz Sc Sm) : J pc lv st wl L ce sz Sc Sm := by
  obtain ⟨p, l, e, R, s, m, args, below, meth, c, Q, D, tc, sa, A, Ts, wp, ap, ⟨⟨hx, hb, hml, hown, hts⟩, hG, hE, hA, hX⟩, ⟨hRf, hRl, hRc, hRs⟩, hI, rfl⟩ := h
  intro o1 o2 w1 ad H locs ls w2 hW hS hL
  exact lv_iload hx hb hd (hL.at hl) (kk o1 o2.i w1 ad H locs ls w2 hW hS hL)
theorem Cl.aload_n (h : Cl own cc nL fr lo rc rs sc isI J) {k : Fin 4} {r : Option (Nat × Nat)} (hd : decode cc pc = .ok (.aload_n k, 1)) (hl : gl lv k.val = some (.inr r)) (kk : J (pc + 1) lv (.inr r :: st) wl L ce sz Sc Sm) : J pc lv st wl L ce sz Sc Sm := by
  obtain ⟨p, l, e, R, s, m, args, below, meth, c, Q, D, tc, sa, A, Ts, wp, ap, ⟨⟨hx, hb, hml, hown, hts⟩, hG, hE, hA, hX⟩, ⟨hRf, hRl, hRc, hRs⟩, hI, rfl⟩ := h
  intro o1 o2 w1 ad H locs ls w2 hW hS hL
  have hk := kk o1 (okS.cons (o1 _ _ hl) o2) w1 ad H locs ls w2 hW hS hL
  cases r with
  | none => exact lv_aload_nN hx hb hd rfl (hL.at hl) hk
  | some q => exact lv_aload_n hx hb hd rfl (hL.at hl) hk
theorem Cl.aload (h : Cl own cc nL fr lo rc rs sc isI J) {i : Nat} {r : Option (Nat × Nat)} (hd : decode cc pc = .ok (.aload i, 2)) (hl : gl lv i = some (.inr r)) (kk : J (pc + 2) lv (.inr r :: st) wl L ce sz Sc Sm) : J pc lv st wl L ce sz Sc Sm := by
  obtain ⟨p, l, e, R, s, m, args, below, meth, c, Q, D, tc, sa, A, Ts, wp, ap, ⟨⟨hx, hb, hml, hown, hts⟩, hG, hE, hA, hX⟩, ⟨hRf, hRl, hRc, hRs⟩, hI, rfl⟩ := h
  intro o1 o2 w1 ad H locs ls w2 hW hS hL
  have hk := kk o1 (okS.cons (o1 _ _ hl) o2) w1 ad H locs ls w2 hW hS hL
  cases r with
  | none => exact lv_aloadN hx hb hd (hL.at hl) hk
  | some q => exact lv_aload hx hb hd (hL.at hl) hk
theorem Cl.istore_n (h : Cl own cc nL fr lo rc rs sc isI J) {k : Fin 4} {x : Int32} (lv' : Lv) (hd : decode cc pc = .ok (.istore_n k, 1)) (hn : k.val < nL) (hl : sl lv k.val (vi x) = lv') (kk : J (pc + 1) lv' st wl L ce sz Sc Sm) : J pc lv (vi x :: st) wl L ce sz Sc Sm := by
  obtain ⟨p, l, e, R, s, m, args, below, meth, c, Q, D, tc, sa, A, Ts, wp, ap, ⟨⟨hx, hb, hml, hown, hts⟩, hG, hE, hA, hX⟩, ⟨hRf, hRl, hRc, hRs⟩, hI, rfl⟩ := h
  subst hl
  intro o1 o2 w1 ad H locs ls w2 hW hS hL
  exact lv_istore_n hx hb hd rfl hL hn rfl (fun ls' h' => kk (o1.set (v := vi x) trivial) o2.tl w1 ad H locs ls' w2 hW hS (LH.stored (v := vi x) h'))
theorem Cl.istore (h : Cl own cc nL fr lo rc rs sc isI J) {i : Nat} {x : Int32} (lv' : Lv) (hd : decode cc pc = .ok (.istore i, 2)) (hn : i < nL) (hl : sl lv i (vi x) = lv') (kk : J (pc + 2) lv' st wl L ce sz Sc Sm) : J pc lv (vi x :: st) wl L ce sz Sc Sm := by
  obtain ⟨p, l, e, R, s, m, args, below, meth, c, Q, D, tc, sa, A, Ts, wp, ap, ⟨⟨hx, hb, hml, hown, hts⟩, hG, hE, hA, hX⟩, ⟨hRf, hRl, hRc, hRs⟩, hI, rfl⟩ := h
  subst hl
  intro o1 o2 w1 ad H locs ls w2 hW hS hL
  exact lv_istore hx hb hd hL hn rfl (fun ls' h' => kk (o1.set (v := vi x) trivial) o2.tl w1 ad H locs ls' w2 hW hS (LH.stored (v := vi x) h'))
theorem Cl.astore_n (h : Cl own cc nL fr lo rc rs sc isI J) {k : Fin 4} {r : Option (Nat × Nat)} (lv' : Lv) (hd : decode cc pc = .ok (.astore_n k, 1)) (hn : k.val < nL) (hl : sl lv k.val (.inr r) = lv') (kk : J (pc + 1) lv' st wl L ce sz Sc Sm) : J pc lv (.inr r :: st) wl L ce sz Sc Sm := by
  obtain ⟨p, l, e, R, s, m, args, below, meth, c, Q, D, tc, sa, A, Ts, wp, ap, ⟨⟨hx, hb, hml, hown, hts⟩, hG, hE, hA, hX⟩, ⟨hRf, hRl, hRc, hRs⟩, hI, rfl⟩ := h
  subst hl
  intro o1 o2 w1 ad H locs ls w2 hW hS hL
  cases r with
  | none => exact lv_astore_nN hx hb hd rfl hL hn rfl (fun ls' h' => kk (o1.set o2.hd) o2.tl w1 ad H locs ls' w2 hW hS (LH.stored (v := vn) h'))
  | some q => exact lv_astore_n hx hb hd rfl hL hn rfl (fun ls' h' => kk (o1.set o2.hd) o2.tl w1 ad H locs ls' w2 hW hS (LH.stored (v := vr q.1 q.2) h'))
theorem Cl.astore (h : Cl own cc nL fr lo rc rs sc isI J) {i : Nat} {r : Option (Nat × Nat)} (lv' : Lv) (hd : decode cc pc = .ok (.astore i, 2)) (hn : i < nL) (hl : sl lv i (.inr r) = lv') (kk : J (pc + 2) lv' st wl L ce sz Sc Sm) : J pc lv (.inr r :: st) wl L ce sz Sc Sm := by
  obtain ⟨p, l, e, R, s, m, args, below, meth, c, Q, D, tc, sa, A, Ts, wp, ap, ⟨⟨hx, hb, hml, hown, hts⟩, hG, hE, hA, hX⟩, ⟨hRf, hRl, hRc, hRs⟩, hI, rfl⟩ := h
  subst hl
  intro o1 o2 w1 ad H locs ls w2 hW hS hL
  cases r with
  | none => exact lv_astoreN hx hb hd hL hn rfl (fun ls' h' => kk (o1.set o2.hd) o2.tl w1 ad H locs ls' w2 hW hS (LH.stored (v := vn) h'))
  | some q => exact lv_astore hx hb hd hL hn rfl (fun ls' h' => kk (o1.set o2.hd) o2.tl w1 ad H locs ls' w2 hW hS (LH.stored (v := vr q.1 q.2) h'))
theorem lvl_get {ad : Ad} {lv : Lv} {n k : Nat} {v : AV} (h : gl lv k = some v) : ∃ j : Nat, (lvl ad n lv)[j]? = some (n + k, cv ad v) := by
  obtain ⟨j, hj⟩ := List.getElem?_of_mem (lvl_in (ad := ad) (n := n) h)
  exact ⟨j, hj⟩
theorem Cl.iinc (h : Cl own cc nL fr lo rc rs sc isI J) {i : Nat} {n : Int} {x : Int32} (v : Int32) (lv' : Lv) (hd : decode cc pc = .ok (.iinc i n, 3)) (hn : i < nL) (hg : gl lv i = some (vi x)) (hv : x + Int32.ofInt n = v) (hl : sl lv i (vi v) = lv') (kk : J (pc + 3) lv' st wl L ce sz Sc Sm) : J pc lv st wl L ce sz Sc Sm := by
  obtain ⟨p, l, e, R, s, m, args, below, meth, c, Q, D, tc, sa, A, Ts, wp, ap, ⟨⟨hx, hb, hml, hown, hts⟩, hG, hE, hA, hX⟩, ⟨hRf, hRl, hRc, hRs⟩, hI, rfl⟩ := h
  subst hl
  intro o1 o2 w1 ad H locs ls w2 hW hS hL
  obtain ⟨j, hj⟩ := lvl_get (ad := ad) (n := 0) hg
  rw [Nat.zero_add] at hj
  exact lv_iinc (k := j) hx hb hd hL hj hv hn rfl (fun ls' h' => kk (o1.set (v := vi v) trivial) o2 w1 ad H locs ls' w2 hW hS (LH.stored (v := vi v) h'))
theorem Cl.iconst (h : Cl own cc nL fr lo rc rs sc isI J) {n : Int} (v : Int32) (hd : decode cc pc = .ok (.iconst n, 1)) (hv : Int32.ofInt n = v) (kk : J (pc + 1) lv (vi v :: st) wl L ce sz Sc Sm) : J pc lv st wl L ce sz Sc Sm := by
  obtain ⟨p, l, e, R, s, m, args, below, meth, c, Q, D, tc, sa, A, Ts, wp, ap, ⟨⟨hx, hb, hml, hown, hts⟩, hG, hE, hA, hX⟩, ⟨hRf, hRl, hRc, hRs⟩, hI, rfl⟩ := h
  intro o1 o2 w1 ad H locs ls w2 hW hS hL
  exact lv_iconst hx hb hd hv (kk o1 o2.i w1 ad H locs ls w2 hW hS hL)
theorem Cl.bipush (h : Cl own cc nL fr lo rc rs sc isI J) {n : Int} (v : Int32) (hd : decode cc pc = .ok (.bipush n, 2)) (hv : (Int8.ofInt n).toInt32 = v) (kk : J (pc + 2) lv (vi v :: st) wl L ce sz Sc Sm) : J pc lv st wl L ce sz Sc Sm := by
  obtain ⟨p, l, e, R, s, m, args, below, meth, c, Q, D, tc, sa, A, Ts, wp, ap, ⟨⟨hx, hb, hml, hown, hts⟩, hG, hE, hA, hX⟩, ⟨hRf, hRl, hRc, hRs⟩, hI, rfl⟩ := h
  intro o1 o2 w1 ad H locs ls w2 hW hS hL
  exact lv_bipush hx hb hd hv (kk o1 o2.i w1 ad H locs ls w2 hW hS hL)
theorem Cl.sipush (h : Cl own cc nL fr lo rc rs sc isI J) {n : Int} (v : Int32) (hd : decode cc pc = .ok (.sipush n, 3)) (hv : (Int16.ofInt n).toInt32 = v) (kk : J (pc + 3) lv (vi v :: st) wl L ce sz Sc Sm) : J pc lv st wl L ce sz Sc Sm := by
  obtain ⟨p, l, e, R, s, m, args, below, meth, c, Q, D, tc, sa, A, Ts, wp, ap, ⟨⟨hx, hb, hml, hown, hts⟩, hG, hE, hA, hX⟩, ⟨hRf, hRl, hRc, hRs⟩, hI, rfl⟩ := h
  intro o1 o2 w1 ad H locs ls w2 hW hS hL
  exact lv_sipush hx hb hd hv (kk o1 o2.i w1 ad H locs ls w2 hW hS hL)
theorem Cl.ldc (h : Cl own cc nL fr lo rc rs sc isI J) {i : Nat} {v : Int32} (hd : decode cc pc = .ok (.ldc i, 2)) (hv : Jvm.Cond.constant own i v ∈ GT) (kk : J (pc + 2) lv (vi v :: st) wl L ce sz Sc Sm) : J pc lv st wl L ce sz Sc Sm := by
  obtain ⟨p, l, e, R, s, m, args, below, meth, c, Q, D, tc, sa, A, Ts, wp, ap, ⟨⟨hx, hb, hml, hown, hts⟩, hG, hE, hA, hX⟩, ⟨hRf, hRl, hRc, hRs⟩, hI, rfl⟩ := h
  intro o1 o2 w1 ad H locs ls w2 hW hS hL
  exact lv_ldc hx hb hown (hts _ (hG _ hv)) hd (kk o1 o2.i w1 ad H locs ls w2 hW hS hL)
theorem Cl.ldc_w (h : Cl own cc nL fr lo rc rs sc isI J) {i : Nat} {v : Int32} (hd : decode cc pc = .ok (.ldc_w i, 3)) (hv : Jvm.Cond.constant own i v ∈ GT) (kk : J (pc + 3) lv (vi v :: st) wl L ce sz Sc Sm) : J pc lv st wl L ce sz Sc Sm := by
  obtain ⟨p, l, e, R, s, m, args, below, meth, c, Q, D, tc, sa, A, Ts, wp, ap, ⟨⟨hx, hb, hml, hown, hts⟩, hG, hE, hA, hX⟩, ⟨hRf, hRl, hRc, hRs⟩, hI, rfl⟩ := h
  intro o1 o2 w1 ad H locs ls w2 hW hS hL
  exact lv_ldcw hx hb hown (hts _ (hG _ hv)) hd (kk o1 o2.i w1 ad H locs ls w2 hW hS hL)
theorem Cl.aconst_null (h : Cl own cc nL fr lo rc rs sc isI J) (hd : decode cc pc = .ok (.aconst_null, 1)) (kk : J (pc + 1) lv (vn :: st) wl L ce sz Sc Sm) : J pc lv st wl L ce sz Sc Sm := by
  obtain ⟨p, l, e, R, s, m, args, below, meth, c, Q, D, tc, sa, A, Ts, wp, ap, ⟨⟨hx, hb, hml, hown, hts⟩, hG, hE, hA, hX⟩, ⟨hRf, hRl, hRc, hRs⟩, hI, rfl⟩ := h
  intro o1 o2 w1 ad H locs ls w2 hW hS hL
  exact lv_null hx hb hd (kk o1 o2.n w1 ad H locs ls w2 hW hS hL)
theorem Cl.iadd (h : Cl own cc nL fr lo rc rs sc isI J) {x y : Int32} (hd : decode cc pc = .ok (.iadd, 1)) (kk : J (pc + 1) lv (vi (x + y) :: st) wl L ce sz Sc Sm) : J pc lv (vi y :: vi x :: st) wl L ce sz Sc Sm := by
  obtain ⟨p, l, e, R, s, m, args, below, meth, c, Q, D, tc, sa, A, Ts, wp, ap, ⟨⟨hx, hb, hml, hown, hts⟩, hG, hE, hA, hX⟩, ⟨hRf, hRl, hRc, hRs⟩, hI, rfl⟩ := h
  intro o1 o2 w1 ad H locs ls w2 hW hS hL
  exact lv_iadd hx hb hd (kk o1 o2.tl.tl.i w1 ad H locs ls w2 hW hS hL)
theorem Cl.isub (h : Cl own cc nL fr lo rc rs sc isI J) {x y : Int32} (hd : decode cc pc = .ok (.isub, 1)) (kk : J (pc + 1) lv (vi (x - y) :: st) wl L ce sz Sc Sm) : J pc lv (vi y :: vi x :: st) wl L ce sz Sc Sm := by
  obtain ⟨p, l, e, R, s, m, args, below, meth, c, Q, D, tc, sa, A, Ts, wp, ap, ⟨⟨hx, hb, hml, hown, hts⟩, hG, hE, hA, hX⟩, ⟨hRf, hRl, hRc, hRs⟩, hI, rfl⟩ := h
  intro o1 o2 w1 ad H locs ls w2 hW hS hL
  exact lv_isub hx hb hd (kk o1 o2.tl.tl.i w1 ad H locs ls w2 hW hS hL)
theorem Cl.imul (h : Cl own cc nL fr lo rc rs sc isI J) {x y : Int32} (hd : decode cc pc = .ok (.imul, 1)) (kk : J (pc + 1) lv (vi (x * y) :: st) wl L ce sz Sc Sm) : J pc lv (vi y :: vi x :: st) wl L ce sz Sc Sm := by
  obtain ⟨p, l, e, R, s, m, args, below, meth, c, Q, D, tc, sa, A, Ts, wp, ap, ⟨⟨hx, hb, hml, hown, hts⟩, hG, hE, hA, hX⟩, ⟨hRf, hRl, hRc, hRs⟩, hI, rfl⟩ := h
  intro o1 o2 w1 ad H locs ls w2 hW hS hL
  exact lv_imul hx hb hd (kk o1 o2.tl.tl.i w1 ad H locs ls w2 hW hS hL)
theorem Cl.iand (h : Cl own cc nL fr lo rc rs sc isI J) {x y : Int32} (hd : decode cc pc = .ok (.iand, 1)) (kk : J (pc + 1) lv (vi (x &&& y) :: st) wl L ce sz Sc Sm) : J pc lv (vi y :: vi x :: st) wl L ce sz Sc Sm := by
  obtain ⟨p, l, e, R, s, m, args, below, meth, c, Q, D, tc, sa, A, Ts, wp, ap, ⟨⟨hx, hb, hml, hown, hts⟩, hG, hE, hA, hX⟩, ⟨hRf, hRl, hRc, hRs⟩, hI, rfl⟩ := h
  intro o1 o2 w1 ad H locs ls w2 hW hS hL
  exact lv_iand hx hb hd (kk o1 o2.tl.tl.i w1 ad H locs ls w2 hW hS hL)
theorem Cl.ior (h : Cl own cc nL fr lo rc rs sc isI J) {x y : Int32} (hd : decode cc pc = .ok (.ior, 1)) (kk : J (pc + 1) lv (vi (x ||| y) :: st) wl L ce sz Sc Sm) : J pc lv (vi y :: vi x :: st) wl L ce sz Sc Sm := by
  obtain ⟨p, l, e, R, s, m, args, below, meth, c, Q, D, tc, sa, A, Ts, wp, ap, ⟨⟨hx, hb, hml, hown, hts⟩, hG, hE, hA, hX⟩, ⟨hRf, hRl, hRc, hRs⟩, hI, rfl⟩ := h
  intro o1 o2 w1 ad H locs ls w2 hW hS hL
  exact lv_ior hx hb hd (kk o1 o2.tl.tl.i w1 ad H locs ls w2 hW hS hL)
theorem Cl.ixor (h : Cl own cc nL fr lo rc rs sc isI J) {x y : Int32} (hd : decode cc pc = .ok (.ixor, 1)) (kk : J (pc + 1) lv (vi (x ^^^ y) :: st) wl L ce sz Sc Sm) : J pc lv (vi y :: vi x :: st) wl L ce sz Sc Sm := by
  obtain ⟨p, l, e, R, s, m, args, below, meth, c, Q, D, tc, sa, A, Ts, wp, ap, ⟨⟨hx, hb, hml, hown, hts⟩, hG, hE, hA, hX⟩, ⟨hRf, hRl, hRc, hRs⟩, hI, rfl⟩ := h
  intro o1 o2 w1 ad H locs ls w2 hW hS hL
  exact lv_ixor hx hb hd (kk o1 o2.tl.tl.i w1 ad H locs ls w2 hW hS hL)
theorem Cl.ishl (h : Cl own cc nL fr lo rc rs sc isI J) {x y : Int32} (hd : decode cc pc = .ok (.ishl, 1)) (kk : J (pc + 1) lv (vi (x <<< (y &&& 31)) :: st) wl L ce sz Sc Sm) : J pc lv (vi y :: vi x :: st) wl L ce sz Sc Sm := by
  obtain ⟨p, l, e, R, s, m, args, below, meth, c, Q, D, tc, sa, A, Ts, wp, ap, ⟨⟨hx, hb, hml, hown, hts⟩, hG, hE, hA, hX⟩, ⟨hRf, hRl, hRc, hRs⟩, hI, rfl⟩ := h
  intro o1 o2 w1 ad H locs ls w2 hW hS hL
  exact lv_ishl hx hb hd (kk o1 o2.tl.tl.i w1 ad H locs ls w2 hW hS hL)
theorem Cl.ishr (h : Cl own cc nL fr lo rc rs sc isI J) {x y : Int32} (hd : decode cc pc = .ok (.ishr, 1)) (kk : J (pc + 1) lv (vi (x >>> (y &&& 31)) :: st) wl L ce sz Sc Sm) : J pc lv (vi y :: vi x :: st) wl L ce sz Sc Sm := by
  obtain ⟨p, l, e, R, s, m, args, below, meth, c, Q, D, tc, sa, A, Ts, wp, ap, ⟨⟨hx, hb, hml, hown, hts⟩, hG, hE, hA, hX⟩, ⟨hRf, hRl, hRc, hRs⟩, hI, rfl⟩ := h
  intro o1 o2 w1 ad H locs ls w2 hW hS hL
  exact lv_ishr hx hb hd (kk o1 o2.tl.tl.i w1 ad H locs ls w2 hW hS hL)
theorem Cl.idiv (h : Cl own cc nL fr lo rc rs sc isI J) {x y : Int32} (hd : decode cc pc = .ok (.idiv, 1)) (hne : ¬ y = 0) (kk : J (pc + 1) lv (vi (x / y) :: st) wl L ce sz Sc Sm) : J pc lv (vi y :: vi x :: st) wl L ce sz Sc Sm := by
  obtain ⟨p, l, e, R, s, m, args, below, meth, c, Q, D, tc, sa, A, Ts, wp, ap, ⟨⟨hx, hb, hml, hown, hts⟩, hG, hE, hA, hX⟩, ⟨hRf, hRl, hRc, hRs⟩, hI, rfl⟩ := h
  intro o1 o2 w1 ad H locs ls w2 hW hS hL
  exact lv_idiv hx hb hd hne (kk o1 o2.tl.tl.i w1 ad H locs ls w2 hW hS hL)
theorem Cl.irem (h : Cl own cc nL fr lo rc rs sc isI J) {x y : Int32} (hd : decode cc pc = .ok (.irem, 1)) (hne : ¬ y = 0) (kk : J (pc + 1) lv (vi (x - x / y * y) :: st) wl L ce sz Sc Sm) : J pc lv (vi y :: vi x :: st) wl L ce sz Sc Sm := by
  obtain ⟨p, l, e, R, s, m, args, below, meth, c, Q, D, tc, sa, A, Ts, wp, ap, ⟨⟨hx, hb, hml, hown, hts⟩, hG, hE, hA, hX⟩, ⟨hRf, hRl, hRc, hRs⟩, hI, rfl⟩ := h
  intro o1 o2 w1 ad H locs ls w2 hW hS hL
  exact lv_irem hx hb hd hne (kk o1 o2.tl.tl.i w1 ad H locs ls w2 hW hS hL)
def ushr (x y : Int32) : Int32 := (x.toUInt32 >>> (y.toUInt32 &&& Int32.toUInt32 31)).toInt32
theorem Cl.iushr (h : Cl own cc nL fr lo rc rs sc isI J) {x y : Int32} (hd : decode cc pc = .ok (.iushr, 1)) (kk : J (pc + 1) lv (vi (ushr x y) :: st) wl L ce sz Sc Sm) : J pc lv (vi y :: vi x :: st) wl L ce sz Sc Sm := by
  obtain ⟨p, l, e, R, s, m, args, below, meth, c, Q, D, tc, sa, A, Ts, wp, ap, ⟨⟨hx, hb, hml, hown, hts⟩, hG, hE, hA, hX⟩, ⟨hRf, hRl, hRc, hRs⟩, hI, rfl⟩ := h
  intro o1 o2 w1 ad H locs ls w2 hW hS hL
  exact lv_iushr hx hb hd rfl (kk o1 o2.tl.tl.i w1 ad H locs ls w2 hW hS hL)
theorem Cl.ineg (h : Cl own cc nL fr lo rc rs sc isI J) {x : Int32} (hd : decode cc pc = .ok (.ineg, 1)) (kk : J (pc + 1) lv (vi (-x) :: st) wl L ce sz Sc Sm) : J pc lv (vi x :: st) wl L ce sz Sc Sm := by
  obtain ⟨p, l, e, R, s, m, args, below, meth, c, Q, D, tc, sa, A, Ts, wp, ap, ⟨⟨hx, hb, hml, hown, hts⟩, hG, hE, hA, hX⟩, ⟨hRf, hRl, hRc, hRs⟩, hI, rfl⟩ := h
  intro o1 o2 w1 ad H locs ls w2 hW hS hL
  exact lv_ineg hx hb hd (kk o1 o2.tl.i w1 ad H locs ls w2 hW hS hL)
theorem Cl.i2b (h : Cl own cc nL fr lo rc rs sc isI J) {x : Int32} (hd : decode cc pc = .ok (.i2b, 1)) (kk : J (pc + 1) lv (vi x.toInt8.toInt32 :: st) wl L ce sz Sc Sm) : J pc lv (vi x :: st) wl L ce sz Sc Sm := by
  obtain ⟨p, l, e, R, s, m, args, below, meth, c, Q, D, tc, sa, A, Ts, wp, ap, ⟨⟨hx, hb, hml, hown, hts⟩, hG, hE, hA, hX⟩, ⟨hRf, hRl, hRc, hRs⟩, hI, rfl⟩ := h
  intro o1 o2 w1 ad H locs ls w2 hW hS hL
  exact lv_i2b hx hb hd rfl (kk o1 o2.tl.i w1 ad H locs ls w2 hW hS hL)
def i2c (x : Int32) : Int32 := (x.toUInt32 % 65536).toInt32
theorem Cl.i2c (h : Cl own cc nL fr lo rc rs sc isI J) {x : Int32} (hd : decode cc pc = .ok (.i2c, 1)) (kk : J (pc + 1) lv (vi (i2c x) :: st) wl L ce sz Sc Sm) : J pc lv (vi x :: st) wl L ce sz Sc Sm := by
  obtain ⟨p, l, e, R, s, m, args, below, meth, c, Q, D, tc, sa, A, Ts, wp, ap, ⟨⟨hx, hb, hml, hown, hts⟩, hG, hE, hA, hX⟩, ⟨hRf, hRl, hRc, hRs⟩, hI, rfl⟩ := h
  intro o1 o2 w1 ad H locs ls w2 hW hS hL
  exact lv_i2c hx hb hd rfl (kk o1 o2.tl.i w1 ad H locs ls w2 hW hS hL)
theorem Cl.dup (h : Cl own cc nL fr lo rc rs sc isI J) {v : AV} (hd : decode cc pc = .ok (.dup, 1)) (kk : J (pc + 1) lv (v :: v :: st) wl L ce sz Sc Sm) : J pc lv (v :: st) wl L ce sz Sc Sm := by
  obtain ⟨p, l, e, R, s, m, args, below, meth, c, Q, D, tc, sa, A, Ts, wp, ap, ⟨⟨hx, hb, hml, hown, hts⟩, hG, hE, hA, hX⟩, ⟨hRf, hRl, hRc, hRs⟩, hI, rfl⟩ := h
  intro o1 o2 w1 ad H locs ls w2 hW hS hL
  exact lv_dup hx hb hd (cv_cat ad v) (kk o1 (okS.cons o2.hd o2) w1 ad H locs ls w2 hW hS hL)
theorem Cl.pop (h : Cl own cc nL fr lo rc rs sc isI J) {v : AV} (hd : decode cc pc = .ok (.pop, 1)) (kk : J (pc + 1) lv st wl L ce sz Sc Sm) : J pc lv (v :: st) wl L ce sz Sc Sm := by
  obtain ⟨p, l, e, R, s, m, args, below, meth, c, Q, D, tc, sa, A, Ts, wp, ap, ⟨⟨hx, hb, hml, hown, hts⟩, hG, hE, hA, hX⟩, ⟨hRf, hRl, hRc, hRs⟩, hI, rfl⟩ := h
  intro o1 o2 w1 ad H locs ls w2 hW hS hL
  exact lv_pop hx hb hd (cv_cat ad v) (kk o1 o2.tl w1 ad H locs ls w2 hW hS hL)
theorem Cl.dup2 (h : Cl own cc nL fr lo rc rs sc isI J) {v w : AV} (hd : decode cc pc = .ok (.dup2, 1)) (kk : J (pc + 1) lv (v :: w :: v :: w :: st) wl L ce sz Sc Sm) : J pc lv (v :: w :: st) wl L ce sz Sc Sm := by
  obtain ⟨p, l, e, R, s, m, args, below, meth, c, Q, D, tc, sa, A, Ts, wp, ap, ⟨⟨hx, hb, hml, hown, hts⟩, hG, hE, hA, hX⟩, ⟨hRf, hRl, hRc, hRs⟩, hI, rfl⟩ := h
  intro o1 o2 w1 ad H locs ls w2 hW hS hL
  exact lv_dup2_11 hx hb hd (cv_cat ad v) (cv_cat ad w) (kk o1 (okS.cons o2.hd (okS.cons o2.tl.hd o2)) w1 ad H locs ls w2 hW hS hL)
theorem Cl.goto (h : Cl own cc nL fr lo rc rs sc isI J) {off : Int} (tgt : Nat) (hd : decode cc pc = .ok (.goto off, 3)) (ht : (pc : Int) + off = (tgt : Int)) (kk : J tgt lv st wl L ce sz Sc Sm) : J pc lv st wl L ce sz Sc Sm := by
  obtain ⟨p, l, e, R, s, m, args, below, meth, c, Q, D, tc, sa, A, Ts, wp, ap, ⟨⟨hx, hb, hml, hown, hts⟩, hG, hE, hA, hX⟩, ⟨hRf, hRl, hRc, hRs⟩, hI, rfl⟩ := h
  intro o1 o2 w1 ad H locs ls w2 hW hS hL
  exact lv_goto hx hb hd ht (kk o1 o2 w1 ad H locs ls w2 hW hS hL)
theorem Cl.icmp_eq (h : Cl own cc nL fr lo rc rs sc isI J) {x y : Int32} {off : Int} (tgt : Nat) (hd : decode cc pc = .ok (.if_icmp .eq off, 3)) (ht : (pc : Int) + off = (tgt : Int)) (kt : x = y → J tgt lv st wl L ce sz Sc Sm) (kf : ¬ x = y → J (pc + 3) lv st wl L ce sz Sc Sm) : J pc lv (vi y :: vi x :: st) wl L ce sz Sc Sm := by
  obtain ⟨p, l, e, R, s, m, args, below, meth, c, Q, D, tc, sa, A, Ts, wp, ap, ⟨⟨hx, hb, hml, hown, hts⟩, hG, hE, hA, hX⟩, ⟨hRf, hRl, hRc, hRs⟩, hI, rfl⟩ := h
  intro o1 o2 w1 ad H locs ls w2 hW hS hL
  exact lv_icmp_eq hx hb hd ht (fun q => kt q o1 o2.tl.tl w1 ad H locs ls w2 hW hS hL) (fun q => kf q o1 o2.tl.tl w1 ad H locs ls w2 hW hS hL)
theorem Cl.if_eq (h : Cl own cc nL fr lo rc rs sc isI J) {x : Int32} {off : Int} (tgt : Nat) (hd : decode cc pc = .ok (.ifCond .eq off, 3)) (ht : (pc : Int) + off = (tgt : Int)) (kt : x = 0 → J tgt lv st wl L ce sz Sc Sm) (kf : ¬ x = 0 → J (pc + 3) lv st wl L ce sz Sc Sm) : J pc lv (vi x :: st) wl L ce sz Sc Sm := by
  obtain ⟨p, l, e, R, s, m, args, below, meth, c, Q, D, tc, sa, A, Ts, wp, ap, ⟨⟨hx, hb, hml, hown, hts⟩, hG, hE, hA, hX⟩, ⟨hRf, hRl, hRc, hRs⟩, hI, rfl⟩ := h
  intro o1 o2 w1 ad H locs ls w2 hW hS hL
  exact lv_if_eq hx hb hd ht (fun q => kt q o1 o2.tl w1 ad H locs ls w2 hW hS hL) (fun q => kf q o1 o2.tl w1 ad H locs ls w2 hW hS hL)
theorem Cl.icmp_ne (h : Cl own cc nL fr lo rc rs sc isI J) {x y : Int32} {off : Int} (tgt : Nat) (hd : decode cc pc = .ok (.if_icmp .ne off, 3)) (ht : (pc : Int) + off = (tgt : Int)) (kt : ¬ x = y → J tgt lv st wl L ce sz Sc Sm) (kf : x = y → J (pc + 3) lv st wl L ce sz Sc Sm) : J pc lv (vi y :: vi x :: st) wl L ce sz Sc Sm := by
  obtain ⟨p, l, e, R, s, m, args, below, meth, c, Q, D, tc, sa, A, Ts, wp, ap, ⟨⟨hx, hb, hml, hown, hts⟩, hG, hE, hA, hX⟩, ⟨hRf, hRl, hRc, hRs⟩, hI, rfl⟩ := h
  intro o1 o2 w1 ad H locs ls w2 hW hS hL
  exact lv_icmp_ne hx hb hd ht (fun q => kt q o1 o2.tl.tl w1 ad H locs ls w2 hW hS hL) (fun q => kf q o1 o2.tl.tl w1 ad H locs ls w2 hW hS hL)
theorem Cl.if_ne (h : Cl own cc nL fr lo rc rs sc isI J) {x : Int32} {off : Int} (tgt : Nat) (hd : decode cc pc = .ok (.ifCond .ne off, 3)) (ht : (pc : Int) + off = (tgt : Int)) (kt : ¬ x = 0 → J tgt lv st wl L ce sz Sc Sm) (kf : x = 0 → J (pc + 3) lv st wl L ce sz Sc Sm) : J pc lv (vi x :: st) wl L ce sz Sc Sm := by
  obtain ⟨p, l, e, R, s, m, args, below, meth, c, Q, D, tc, sa, A, Ts, wp, ap, ⟨⟨hx, hb, hml, hown, hts⟩, hG, hE, hA, hX⟩, ⟨hRf, hRl, hRc, hRs⟩, hI, rfl⟩ := h
  intro o1 o2 w1 ad H locs ls w2 hW hS hL
  exact lv_if_ne hx hb hd ht (fun q => kt q o1 o2.tl w1 ad H locs ls w2 hW hS hL) (fun q => kf q o1 o2.tl w1 ad H locs ls w2 hW hS hL)
theorem Cl.icmp_lt (h : Cl own cc nL fr lo rc rs sc isI J) {x y : Int32} {off : Int} (tgt : Nat) (hd : decode cc pc = .ok (.if_icmp .lt off, 3)) (ht : (pc : Int) + off = (tgt : Int)) (kt : x < y → J tgt lv st wl L ce sz Sc Sm) (kf : ¬ x < y → J (pc + 3) lv st wl L ce sz Sc Sm) : J pc lv (vi y :: vi x :: st) wl L ce sz Sc Sm := by
  obtain ⟨p, l, e, R, s, m, args, below, meth, c, Q, D, tc, sa, A, Ts, wp, ap, ⟨⟨hx, hb, hml, hown, hts⟩, hG, hE, hA, hX⟩, ⟨hRf, hRl, hRc, hRs⟩, hI, rfl⟩ := h
  intro o1 o2 w1 ad H locs ls w2 hW hS hL
  exact lv_icmp_lt hx hb hd ht (fun q => kt q o1 o2.tl.tl w1 ad H locs ls w2 hW hS hL) (fun q => kf q o1 o2.tl.tl w1 ad H locs ls w2 hW hS hL)
theorem Cl.if_lt (h : Cl own cc nL fr lo rc rs sc isI J) {x : Int32} {off : Int} (tgt : Nat) (hd : decode cc pc = .ok (.ifCond .lt off, 3)) (ht : (pc : Int) + off = (tgt : Int)) (kt : x < 0 → J tgt lv st wl L ce sz Sc Sm) (kf : ¬ x < 0 → J (pc + 3) lv st wl L ce sz Sc Sm) : J pc lv (vi x :: st) wl L ce sz Sc Sm := by
  obtain ⟨p, l, e, R, s, m, args, below, meth, c, Q, D, tc, sa, A, Ts, wp, ap, ⟨⟨hx, hb, hml, hown, hts⟩, hG, hE, hA, hX⟩, ⟨hRf, hRl, hRc, hRs⟩, hI, rfl⟩ := h
  intro o1 o2 w1 ad H locs ls w2 hW hS hL
  exact lv_if_lt hx hb hd ht (fun q => kt q o1 o2.tl w1 ad H locs ls w2 hW hS hL) (fun q => kf q o1 o2.tl w1 ad H locs ls w2 hW hS hL)
theorem Cl.icmp_ge (h : Cl own cc nL fr lo rc rs sc isI J) {x y : Int32} {off : Int} (tgt : Nat) (hd : decode cc pc = .ok (.if_icmp .ge off, 3)) (ht : (pc : Int) + off = (tgt : Int)) (kt : y ≤ x → J tgt lv st wl L ce sz Sc Sm) (kf : ¬ y ≤ x → J (pc + 3) lv st wl L ce sz Sc Sm) : J pc lv (vi y :: vi x :: st) wl L ce sz Sc Sm := by
  obtain ⟨p, l, e, R, s, m, args, below, meth, c, Q, D, tc, sa, A, Ts, wp, ap, ⟨⟨hx, hb, hml, hown, hts⟩, hG, hE, hA, hX⟩, ⟨hRf, hRl, hRc, hRs⟩, hI, rfl⟩ := h
  intro o1 o2 w1 ad H locs ls w2 hW hS hL
  exact lv_icmp_ge hx hb hd ht (fun q => kt q o1 o2.tl.tl w1 ad H locs ls w2 hW hS hL) (fun q => kf q o1 o2.tl.tl w1 ad H locs ls w2 hW hS hL)
theorem Cl.if_ge (h : Cl own cc nL fr lo rc rs sc isI J) {x : Int32} {off : Int} (tgt : Nat) (hd : decode cc pc = .ok (.ifCond .ge off, 3)) (ht : (pc : Int) + off = (tgt : Int)) (kt : 0 ≤ x → J tgt lv st wl L ce sz Sc Sm) (kf : ¬ 0 ≤ x → J (pc + 3) lv st wl L ce sz Sc Sm) : J pc lv (vi x :: st) wl L ce sz Sc Sm := by
  obtain ⟨p, l, e, R, s, m, args, below, meth, c, Q, D, tc, sa, A, Ts, wp, ap, ⟨⟨hx, hb, hml, hown, hts⟩, hG, hE, hA, hX⟩, ⟨hRf, hRl, hRc, hRs⟩, hI, rfl⟩ := h
  intro o1 o2 w1 ad H locs ls w2 hW hS hL
  exact lv_if_ge hx hb hd ht (fun q => kt q o1 o2.tl w1 ad H locs ls w2 hW hS hL) (fun q => kf q o1 o2.tl w1 ad H locs ls w2 hW hS hL)
theorem Cl.icmp_gt (h : Cl own cc nL fr lo rc rs sc isI J) {x y : Int32} {off : Int} (tgt : Nat) (hd : decode cc pc = .ok (.if_icmp .gt off, 3)) (ht : (pc : Int) + off = (tgt : Int)) (kt : y < x → J tgt lv st wl L ce sz Sc Sm) (kf : ¬ y < x → J (pc + 3) lv st wl L ce sz Sc Sm) : J pc lv (vi y :: vi x :: st) wl L ce sz Sc Sm := by
  obtain ⟨p, l, e, R, s, m, args, below, meth, c, Q, D, tc, sa, A, Ts, wp, ap, ⟨⟨hx, hb, hml, hown, hts⟩, hG, hE, hA, hX⟩, ⟨hRf, hRl, hRc, hRs⟩, hI, rfl⟩ := h
  intro o1 o2 w1 ad H locs ls w2 hW hS hL
  exact lv_icmp_gt hx hb hd ht (fun q => kt q o1 o2.tl.tl w1 ad H locs ls w2 hW hS hL) (fun q => kf q o1 o2.tl.tl w1 ad H locs ls w2 hW hS hL)
theorem Cl.if_gt (h : Cl own cc nL fr lo rc rs sc isI J) {x : Int32} {off : Int} (tgt : Nat) (hd : decode cc pc = .ok (.ifCond .gt off, 3)) (ht : (pc : Int) + off = (tgt : Int)) (kt : 0 < x → J tgt lv st wl L ce sz Sc Sm) (kf : ¬ 0 < x → J (pc + 3) lv st wl L ce sz Sc Sm) : J pc lv (vi x :: st) wl L ce sz Sc Sm := by
  obtain ⟨p, l, e, R, s, m, args, below, meth, c, Q, D, tc, sa, A, Ts, wp, ap, ⟨⟨hx, hb, hml, hown, hts⟩, hG, hE, hA, hX⟩, ⟨hRf, hRl, hRc, hRs⟩, hI, rfl⟩ := h
  intro o1 o2 w1 ad H locs ls w2 hW hS hL
  exact lv_if_gt hx hb hd ht (fun q => kt q o1 o2.tl w1 ad H locs ls w2 hW hS hL) (fun q => kf q o1 o2.tl w1 ad H locs ls w2 hW hS hL)
theorem Cl.icmp_le (h : Cl own cc nL fr lo rc rs sc isI J) {x y : Int32} {off : Int} (tgt : Nat) (hd : decode cc pc = .ok (.if_icmp .le off, 3)) (ht : (pc : Int) + off = (tgt : Int)) (kt : x ≤ y → J tgt lv st wl L ce sz Sc Sm) (kf : ¬ x ≤ y → J (pc + 3) lv st wl L ce sz Sc Sm) : J pc lv (vi y :: vi x :: st) wl L ce sz Sc Sm := by
  obtain ⟨p, l, e, R, s, m, args, below, meth, c, Q, D, tc, sa, A, Ts, wp, ap, ⟨⟨hx, hb, hml, hown, hts⟩, hG, hE, hA, hX⟩, ⟨hRf, hRl, hRc, hRs⟩, hI, rfl⟩ := h
  intro o1 o2 w1 ad H locs ls w2 hW hS hL
  exact lv_icmp_le hx hb hd ht (fun q => kt q o1 o2.tl.tl w1 ad H locs ls w2 hW hS hL) (fun q => kf q o1 o2.tl.tl w1 ad H locs ls w2 hW hS hL)
theorem Cl.if_le (h : Cl own cc nL fr lo rc rs sc isI J) {x : Int32} {off : Int} (tgt : Nat) (hd : decode cc pc = .ok (.ifCond .le off, 3)) (ht : (pc : Int) + off = (tgt : Int)) (kt : x ≤ 0 → J tgt lv st wl L ce sz Sc Sm) (kf : ¬ x ≤ 0 → J (pc + 3) lv st wl L ce sz Sc Sm) : J pc lv (vi x :: st) wl L ce sz Sc Sm := by
  obtain ⟨p, l, e, R, s, m, args, below, meth, c, Q, D, tc, sa, A, Ts, wp, ap, ⟨⟨hx, hb, hml, hown, hts⟩, hG, hE, hA, hX⟩, ⟨hRf, hRl, hRc, hRs⟩, hI, rfl⟩ := h
  intro o1 o2 w1 ad H locs ls w2 hW hS hL
  exact lv_if_le hx hb hd ht (fun q => kt q o1 o2.tl w1 ad H locs ls w2 hW hS hL) (fun q => kf q o1 o2.tl w1 ad H locs ls w2 hW hS hL)
theorem Cl.ifnullY (h : Cl own cc nL fr lo rc rs sc isI J) {off : Int} (tgt : Nat) (hd : decode cc pc = .ok (.ifnull off, 3)) (ht : (pc : Int) + off = (tgt : Int)) (kk : J tgt lv st wl L ce sz Sc Sm) : J pc lv (vn :: st) wl L ce sz Sc Sm := by
  obtain ⟨p, l, e, R, s, m, args, below, meth, c, Q, D, tc, sa, A, Ts, wp, ap, ⟨⟨hx, hb, hml, hown, hts⟩, hG, hE, hA, hX⟩, ⟨hRf, hRl, hRc, hRs⟩, hI, rfl⟩ := h
  intro o1 o2 w1 ad H locs ls w2 hW hS hL
  exact lv_ifnullN hx hb hd ht (kk o1 o2.tl w1 ad H locs ls w2 hW hS hL)
theorem Cl.ifnullN (h : Cl own cc nL fr lo rc rs sc isI J) {off : Int} {k i : Nat} (hd : decode cc pc = .ok (.ifnull off, 3)) (kk : J (pc + 3) lv st wl L ce sz Sc Sm) : J pc lv (vr k i :: st) wl L ce sz Sc Sm := by
  obtain ⟨p, l, e, R, s, m, args, below, meth, c, Q, D, tc, sa, A, Ts, wp, ap, ⟨⟨hx, hb, hml, hown, hts⟩, hG, hE, hA, hX⟩, ⟨hRf, hRl, hRc, hRs⟩, hI, rfl⟩ := h
  intro o1 o2 w1 ad H locs ls w2 hW hS hL
  exact lv_ifnull hx hb hd (kk o1 o2.tl w1 ad H locs ls w2 hW hS hL)
theorem Cl.ifnonnullY (h : Cl own cc nL fr lo rc rs sc isI J) {off : Int} {k i : Nat} (tgt : Nat) (hd : decode cc pc = .ok (.ifnonnull off, 3)) (ht : (pc : Int) + off = (tgt : Int)) (kk : J tgt lv st wl L ce sz Sc Sm) : J pc lv (vr k i :: st) wl L ce sz Sc Sm := by
  obtain ⟨p, l, e, R, s, m, args, below, meth, c, Q, D, tc, sa, A, Ts, wp, ap, ⟨⟨hx, hb, hml, hown, hts⟩, hG, hE, hA, hX⟩, ⟨hRf, hRl, hRc, hRs⟩, hI, rfl⟩ := h
  intro o1 o2 w1 ad H locs ls w2 hW hS hL
  exact lv_ifnonnull hx hb hd ht (kk o1 o2.tl w1 ad H locs ls w2 hW hS hL)
theorem Cl.ifnonnullN (h : Cl own cc nL fr lo rc rs sc isI J) {off : Int} (hd : decode cc pc = .ok (.ifnonnull off, 3)) (kk : J (pc + 3) lv st wl L ce sz Sc Sm) : J pc lv (vn :: st) wl L ce sz Sc Sm := by
  obtain ⟨p, l, e, R, s, m, args, below, meth, c, Q, D, tc, sa, A, Ts, wp, ap, ⟨⟨hx, hb, hml, hown, hts⟩, hG, hE, hA, hX⟩, ⟨hRf, hRl, hRc, hRs⟩, hI, rfl⟩ := h
  intro o1 o2 w1 ad H locs ls w2 hW hS hL
  exact lv_ifnonnullN hx hb hd (kk o1 o2.tl w1 ad H locs ls w2 hW hS hL)
theorem Cl.tswIn (h : Cl own cc nL fr lo rc rs sc isI J) {dflt lo' hi' : Int} {offs : Array Int} {len : Nat} {x : Int32} {off : Int} (tgt : Nat) (hd : decode cc pc = .ok (.tableswitch dflt lo' hi' offs, len)) (h1 : ¬ x.toInt < lo') (h2 : ¬ hi' < x.toInt) (ho : offs[(x.toInt - lo').toNat]? = some off) (ht : (pc : Int) + off = (tgt : Int)) (kk : J tgt lv st wl L ce sz Sc Sm) : J pc lv (vi x :: st) wl L ce sz Sc Sm := by
  obtain ⟨p, l, e, R, s, m, args, below, meth, c, Q, D, tc, sa, A, Ts, wp, ap, ⟨⟨hx, hb, hml, hown, hts⟩, hG, hE, hA, hX⟩, ⟨hRf, hRl, hRc, hRs⟩, hI, rfl⟩ := h
  intro o1 o2 w1 ad H locs ls w2 hW hS hL
  exact lv_tableIn hx hb hd h1 h2 ho ht (kk o1 o2.tl w1 ad H locs ls w2 hW hS hL)
theorem Cl.tswOut (h : Cl own cc nL fr lo rc rs sc isI J) {dflt lo' hi' : Int} {offs : Array Int} {len : Nat} {x : Int32} (tgt : Nat) (hd : decode cc pc = .ok (.tableswitch dflt lo' hi' offs, len)) (h1 : x.toInt < lo' ∨ hi' < x.toInt) (ht : (pc : Int) + dflt = (tgt : Int)) (kk : J tgt lv st wl L ce sz Sc Sm) : J pc lv (vi x :: st) wl L ce sz Sc Sm := by
  obtain ⟨p, l, e, R, s, m, args, below, meth, c, Q, D, tc, sa, A, Ts, wp, ap, ⟨⟨hx, hb, hml, hown, hts⟩, hG, hE, hA, hX⟩, ⟨hRf, hRl, hRc, hRs⟩, hI, rfl⟩ := h
  intro o1 o2 w1 ad H locs ls w2 hW hS hL
  exact lv_tableOut hx hb hd h1 ht (kk o1 o2.tl w1 ad H locs ls w2 hW hS hL)
theorem Cl.tswD (h : Cl own cc nL fr lo rc rs sc isI J) {dflt lo' hi' : Int} {offs : Array Int} {len : Nat} {x : Int32} (tgt : Nat) (sp : List Int) (hd : decode cc pc = .ok (.tableswitch dflt lo' hi' offs, len)) (hx' : ∀ c ∈ sp, ¬ x.toInt = c) (hchk : ((hi' < lo' + offs.size) && ((List.range offs.size).all fun k => offs[k]? == some dflt || sp.contains (lo' + (k : Int)))) = true) (ht : (pc : Int) + dflt = (tgt : Int)) (kk : J tgt lv st wl L ce sz Sc Sm) : J pc lv (vi x :: st) wl L ce sz Sc Sm := by
  rw [Bool.and_eq_true, decide_eq_true_eq] at hchk
  by_cases h1 : x.toInt < lo' ∨ hi' < x.toInt
  · exact h.tswOut tgt hd h1 ht kk
  · have e : ((x.toInt - lo').toNat : Int) = x.toInt - lo' := by omega
    have hk : (x.toInt - lo').toNat < offs.size := by omega
    have h2 := List.all_eq_true.mp hchk.2 _ (List.mem_range.mpr hk)
    rw [Bool.or_eq_true] at h2
    rcases h2 with h2 | h2
    · exact h.tswIn tgt hd (by omega) (by omega) (by simpa using h2) ht kk
    · rw [e, show lo' + (x.toInt - lo') = x.toInt by omega] at h2
      exact absurd rfl (hx' x.toInt (by simpa using h2))
theorem Cl.lsw (h : Cl own cc nL fr lo rc rs sc isI J) {dflt : Int} {ps : Array (Int × Int)} {len : Nat} {x : Int32} {off : Int} (tgt : Nat) (hd : decode cc pc = .ok (.lookupswitch dflt ps, len)) (hp : (ps.toList.zip (ps.toList.drop 1)).all (fun (a, next) => a.1 < next.1) = true) (ho : Op.lookupswitch.offset ps.toList dflt x.toInt = off) (ht : (pc : Int) + off = (tgt : Int)) (kk : J tgt lv st wl L ce sz Sc Sm) : J pc lv (vi x :: st) wl L ce sz Sc Sm := by
  obtain ⟨p, l, e, R, s, m, args, below, meth, c, Q, D, tc, sa, A, Ts, wp, ap, ⟨⟨hx, hb, hml, hown, hts⟩, hG, hE, hA, hX⟩, ⟨hRf, hRl, hRc, hRs⟩, hI, rfl⟩ := h
  intro o1 o2 w1 ad H locs ls w2 hW hS hL
  exact lv_lookup hx hb hd hp ho ht (kk o1 o2.tl w1 ad H locs ls w2 hW hS hL)
end RU
