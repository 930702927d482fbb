/-! ===== the law from its entry ===== -/
set_option maxRecDepth 100000 in
set_option maxHeartbeats 4000000 in
theorem law_body {n : Nat} {xs : Nat → Int32} {J : Nat → Lv → List AV → Obs → Lay → Nat → Nat → Mem → Mem → Prop} (hJ : Cl RL cL_law 4 13 494 600000 7302250 (some (n, xs)) false J) (hn : n ≤ 3072) (fin : ∀ (lv : Lv) (C M : Mem), J 1027 lv [vi 1] wl0 L0 141 9171 C M) : J 0 [some (vr 99 0), none, none, none] [] nw0 nl0 0 0 nc0 nm0 := by
  refine hJ.newC (pc := 0) (k := 11) (i := 0) dL_law_0 nnw_L_7 (by decide +kernel) rfl ⟨Nat.le_of_ble_eq_true rfl, Nat.le_of_ble_eq_true rfl⟩ ?_
  show J 3 [some (vr 99 0), none, none, none] [vr 11 0] nw1 nl1 1 7 nc1 nm0
  refine hJ.dup (pc := 3) dL_law_3 ?_
  refine hJ.callI (pc := 4) (as := []) (rest := [vr 11 0]) dL_law_4 nlk_L_9 rfl nnm_X11_init nt_X11_init_0 rfl ⟨Nat.le_of_ble_eq_true rfl, Nat.le_of_ble_eq_true rfl, Nat.le_of_ble_eq_true rfl, Nat.le_of_ble_eq_true rfl, by decide⟩ ?_
  show J 7 [some (vr 99 0), none, none, none] [vr 11 0] nw110 nl219 110 3738 nc147 nm0
  refine hJ.astore_n (pc := 7) [some (vr 99 0), some (vr 11 0), none, none] dL_law_7 (by decide) rfl ?_
  refine hJ.newM (pc := 8) (k := 12) (i := 0) dL_law_8 nnw_L_10 (by decide +kernel) rfl ⟨Nat.le_of_ble_eq_true rfl, Nat.le_of_ble_eq_true rfl⟩ ?_
  show J 11 [some (vr 99 0), some (vr 11 0), none, none] [vr 12 0] nw111 nl220 111 3793 nc147 nm1
  refine hJ.dup (pc := 11) dL_law_11 ?_
  refine hJ.callI (pc := 12) (as := []) (rest := [vr 12 0]) dL_law_12 nlk_L_12 rfl nnm_X12_init nt_X12_init_0 rfl ⟨Nat.le_of_ble_eq_true rfl, Nat.le_of_ble_eq_true rfl, Nat.le_of_ble_eq_true rfl, Nat.le_of_ble_eq_true rfl, by decide⟩ ?_
  show J 15 [some (vr 99 0), some (vr 11 0), none, none] [vr 12 0] nw141 nl280 141 9171 nc147 nm99
  refine hJ.astore_n (pc := 15) [some (vr 99 0), some (vr 11 0), some (vr 12 0), none] dL_law_15 (by decide) rfl ?_
  refine hJ.iconst (pc := 16) 0 dL_law_16 (by decide) ?_
  refine hJ.istore_n (pc := 17) [some (vr 99 0), some (vr 11 0), some (vr 12 0), some (vi (nI 0))] dL_law_17 (by decide) rfl ?_
  rw [nw_wl0]
  refine hJ.lay lay_all ?_
  exact law_loop hJ hn fin (n + 1) 0 nc147 nm99 first_rel (Nat.zero_le _) (by omega)
set_option maxHeartbeats 4000000 in
/-- from the entry, for every script of at most 3072 ints, the law comes to its end with true -/
theorem whole_start {p : Program} {e : Env} {s : State} {m : MethodId} {below : List Frame} {meth : Method} {c : Code} (l : Launch) (hflags : l.flags = flags0) {b L : Nat} {xs : Nat → Int32} (hL : L ≤ 3072) (C0 : lw_At p s m meth c b L xs) : W p l e room_1 s m #[Value.ref b] below meth c s.heap [] 0 0 (lw_Z below #[Value.ref b] s) (entryFrame m ([Value.ref b] : List Value).toArray 4) := by
  obtain ⟨hx, hb, hr, hml, hown, hts, hX, hbl, hlocks, hgv⟩ := id C0
  obtain ⟨D, tc, sa, hsb, hE⟩ := env0 hts hgv
  have hJ : Cl RL cL_law 4 13 494 600000 7302250 (some (L, xs)) false (Jw p l e room_1 s m #[Value.ref b] below meth c (lw_Z below #[Value.ref b] s) D tc sa (fun q : Nat => s.heap.size ≤ q) 4 [] sa) := by
    refine ⟨p, l, e, room_1, s, m, #[Value.ref b], below, meth, c, lw_Z below #[Value.ref b] s, D, tc, sa, fun q : Nat => s.heap.size ≤ q, lw_tbl, [], sa, ⟨⟨hx, hb, hml, hown, hts⟩, fun w h => GT_in h, hE, fun _ h => h, ?_⟩, ⟨rfl, rfl, rfl, rfl⟩, fun h => (by cases h), rfl⟩
    show va_X (sa 99 0) L xs s s.heap ∧ sa 99 0 < s.heap.size ∧ ¬ s.heap.size ≤ sa 99 0
    rw [hsb]
    exact ⟨hX, hbl, Nat.not_le.mpr hbl⟩
  have fin : ∀ (lv : Lv) (C M : Mem), Jw p l e room_1 s m #[Value.ref b] below meth c (lw_Z below #[Value.ref b] s) D tc sa (fun q : Nat => s.heap.size ≤ q) 4 [] sa 1027 lv [vi 1] wl0 L0 141 9171 C M := by
    intro lv C M o1 o2 w1 ad H locs ls w2 hW hS hLh
    exact va_forget (fun q hq => hS.2.2 q hq) (W.widen (k := 600000) (n := 7302250) (Nat.le_of_ble_eq_true rfl) (Nat.le_of_ble_eq_true rfl) (lw_ret hx hb hr hlocks dL_law_1027))
  have K := law_body hJ hL fin
  have h1 := lv_entry ([Value.ref b]) (n := 4) (Nat.le_of_ble_eq_true rfl)
  rw [lg_entry_eq]
  have gk : ∀ (k : Nat) (v : AV), gl [some (vr 99 0), none, none, none] k = some v → k = 0 ∧ v = vr 99 0 := by
    intro k v hk
    match k, hk with
    | 0, hk => exact ⟨rfl, (Option.some.inj hk).symm⟩
    | 1, hk => cases hk
    | 2, hk => cases hk
    | 3, hk => cases hk
    | k + 4, hk => cases hk
  refine K (fun k v hk => ?_) (fun v hv => by cases hv) (fun q hq => by cases hq) sa s.heap [] _ (fun _ _ => rfl) ⟨fun _ _ _ => rfl, ⟨fun i j p q hi => ?_, fun q hq => (by cases hq)⟩, fun q hq => (by cases hq), fun k q hq => ?_, fun q hq => (by cases hq)⟩ va_S.rf (LH.of h1.1 h1.2.1 (fun k v hk => ?_))
  · obtain ⟨-, rfl⟩ := gk k v hk
    exact Or.inr (by decide)
  · simp [nw0] at hi
  · simp [nw0, wls] at hq
  · obtain ⟨rfl, rfl⟩ := gk k v hk
    have h2 := h1.2.2 (0, Value.ref b) List.mem_cons_self
    show _ = some (Slot.val (Value.ref (sa 99 0)))
    rw [hsb]
    exact h2
