/-! ===== the environment at the law's entry ===== -/
def FTL : List Jvm.Cond := flatC (Jvm.Cond.and given_1 narrow_1)
def tmS (i : Nat) : Term := .string "PaperAger$Token" (sPool i)
theorem ft_ex : ∀ i, i < 2 → FTL[35 + 70 * i]? = some (Jvm.Cond.exactly (tmS i) "java/lang/String") := by decide +kernel
theorem ft_co : ∀ i, i < 2 → FTL[36 + 70 * i]? = some (Jvm.Cond.eq (.field (tmS i) "java/lang/String" "coder" "B") (.int 0)) := by decide +kernel
theorem ft_ar : ∀ i, i < 2 → FTL[37 + 70 * i]? = some (Jvm.Cond.arrayOf (.field (tmS i) "java/lang/String" "value" "[B") .byte) := by decide +kernel
theorem ft_le : ∀ i, i < 2 → FTL[38 + 70 * i]? = some (Jvm.Cond.eq (.length (.field (tmS i) "java/lang/String" "value" "[B")) (.int (Int32.ofNat (sLen.getD i 0)))) := by decide +kernel
theorem ft_el : ∀ i, i < 2 → ∀ j, j < sLen.getD i 0 → FTL[39 + 70 * i + j]? = some (Jvm.Cond.eq (.elem (.field (tmS i) "java/lang/String" "value" "[B") (.int (Int32.ofNat j))) (.int ((sByt.getD i []).getD j 0))) := by decide +kernel
theorem ft_ne : FTL[119]? = some (Jvm.Cond.not (Jvm.Cond.eq (tmS 0) (tmS 1))) := by decide +kernel
theorem ft_cs : FTL[4]? = some (Jvm.Cond.eq (.static "java/lang/String" "COMPACT_STRINGS" "Z") (.int 1)) := by decide +kernel
theorem ft_si : FTL[5]? = some (Jvm.Cond.isRef (.static "jdk/internal/util/Preconditions" "SIOOBE_FORMATTER" "Ljava/util/function/BiFunction;")) := by decide +kernel
theorem tw_s : ∀ i, i < 2 → lw_tbl[if i = 0 then 698 else 758]? = some (Jvm.Cond.stringRef "PaperAger$Token" (sPool i) (sTx i)) := by decide +kernel
theorem tw_cs : lw_tbl[708]? = some (Jvm.Cond.laysStatic "java/lang/String" "COMPACT_STRINGS" "Z") := by decide +kernel
theorem tw_si : lw_tbl[724]? = some (Jvm.Cond.laysStatic "jdk/internal/util/Preconditions" "SIOOBE_FORMATTER" "Ljava/util/function/BiFunction;") := by decide +kernel
theorem tw_is : lw_tbl[91]? = some (Jvm.Cond.initialized "java/lang/String") := by decide +kernel
theorem tw_ip : lw_tbl[93]? = some (Jvm.Cond.initialized "jdk/internal/util/Preconditions") := by decide +kernel
theorem tw_ar : lw_tbl[113]? = some (Jvm.Cond.arrayOver (.object "PaperAger$Reader")) := by decide +kernel
theorem tw_ap : lw_tbl[115]? = some (Jvm.Cond.arrayOver (.object "PaperAger$Paper")) := by decide +kernel
theorem GT_in {w : Jvm.Cond} (h : w ∈ GT) : w ∈ lw_tbl := (List.mem_filter.mp h).1
theorem known {s : State} {args : Array Value} (hts : ∀ w ∈ lw_tbl, w.before args s = true) {own : String} {idx k : Nat} (hw : NW own idx k) : ∃ d : ClassId × (Nat → Nat), ∀ q, vwCl[k]? = some q → u_Kn s q.1 q.2.1 q.2.2 d.1 d.2 := by
  obtain ⟨C, T, ty0, ⟨k1, k2, k3, k4, k5, k6⟩, f1, f2, f3⟩ := hw
  obtain ⟨cC, iS, h⟩ := u_known (C := C) (T := T) (N := nsl k) (n := nsl k) hts (fun w h => GT_in (k3 w h)) (hts _ (GT_in f2))
  refine ⟨(cC, iS), fun q hq => ?_⟩
  rw [k1] at hq
  cases hq
  exact h
theorem arr_p {s : State} {args : Array Value} {ty : FieldType} (h : (Jvm.Cond.arrayClass ty).before args s = true) : ∃ c, ArrOfT s c ty ∧ s.vm.findClass ("[" ++ ty.toString) = some c := by
  obtain ⟨c, k, comp, h1, h2, h3⟩ := Cond.arrayClass_spec h
  exact ⟨c, fun n z => ⟨fun k h => (by cases h), k, h2, comp, h3⟩, h1⟩
theorem arr_q {s : State} {args : Array Value} {C : String} (h : (Jvm.Cond.arrayOver (.object C)).before args s = true) : ∃ c, ArrOfT s c (.object C) ∧ va_RA s c (.object C) := by
  obtain ⟨comp, c, k, h1, h2, h3, h4, h5⟩ := Cond.arrayOver_spec h
  exact ⟨c, fun n z => ⟨fun k h => (by cases h), k, h3, comp, h4⟩, k, comp, h3, h4, h1, h5⟩
def saF (adK adV : Nat → Nat) (t b : Nat) : Ad := fun k i => if k = 90 then adK i else if k = 91 then adV i else if k = 98 then t else b
set_option maxRecDepth 100000 in
set_option maxHeartbeats 4000000 in
theorem env0 {s : State} {b : Nat} (hts : ∀ w ∈ lw_tbl, w.before #[Value.ref b] s = true) (hgv : (Jvm.Cond.and given_1 narrow_1).before #[Value.ref b] s = true) : ∃ (D : va_G) (tc : Nat → ClassId) (sa : Ad), sa 99 0 = b ∧ Env0 D tc sa (fun q => s.heap.size ≤ q) s s.heap := by
  have hA : ∀ a : Nat, a < s.heap.size → ¬ (fun q : Nat => s.heap.size ≤ q) a := fun a h q => by
    have q : s.heap.size ≤ a := q
    omega
  have hfl : ∀ c ∈ FTL, c.before #[Value.ref b] s = true := flat_of_before _ hgv
  have h1 : ∀ c : Nat, ∃ d : ClassId × (Nat → Nat), ∀ q : vw_C, vwCl[c]? = some q → u_Kn s q.1 q.2.1 q.2.2 d.1 d.2 := by
    intro c
    match c with
    | 0 => exact known hts nnw_X11_7
    | 1 => exact known hts nnw_X0_23
    | 2 => exact known hts nnw_X0_30
    | 3 => exact known hts nnw_X0_37
    | 4 => exact known hts nnw_X11_30
    | 5 => exact known hts nnw_X0_17
    | 6 => exact known hts nnw_X0_9
    | 7 => exact known hts nnw_X11_23
    | 8 => exact known hts nnw_X11_44
    | 9 => exact known hts nnw_X4_18
    | 10 => exact known hts nnw_X11_37
    | 11 => exact known hts nnw_L_7
    | 12 => exact known hts nnw_L_10
    | c + 13 =>
      obtain ⟨d, _⟩ := known hts nnw_X11_7
      exact ⟨d, fun q hq => by
        rw [List.getElem?_eq_none (by show 13 ≤ c + 13; omega)] at hq
        cases hq⟩
  obtain ⟨f, hf⟩ := Classical.axiomOfChoice h1
  obtain ⟨c0, a0, r0⟩ := arr_p (hts _ (GT_in nac_0))
  obtain ⟨c1, a1, r1⟩ := arr_p (hts _ (GT_in nac_1))
  obtain ⟨c2, a2, r2⟩ := arr_p (hts _ (GT_in nac_2))
  obtain ⟨c3, a3, r3⟩ := arr_q (hts _ (List.mem_of_getElem? tw_ar))
  obtain ⟨c4, a4, r4⟩ := arr_q (hts _ (List.mem_of_getElem? tw_ap))
  obtain ⟨adK, adV, hS, hev⟩ := vk_Sof (args := #[Value.ref b]) (s := s) (N := 2) (tm := tmS) (len := sLen) (byt := sByt) (A := fun q : Nat => s.heap.size ≤ q) (by decide) (fun i hi => hfl _ (List.mem_of_getElem? (ft_ex i hi))) (fun i hi => hfl _ (List.mem_of_getElem? (ft_co i hi))) (fun i hi => hfl _ (List.mem_of_getElem? (ft_ar i hi))) (fun i hi => hfl _ (List.mem_of_getElem? (ft_le i hi))) (fun i hi j hj => hfl _ (List.mem_of_getElem? (ft_el i hi j hj))) (fun i j hi hj hij => by
      have := hfl _ (List.mem_of_getElem? ft_ne)
      rcases (show (i = 0 ∧ j = 1) ∨ (i = 1 ∧ j = 0) by omega) with ⟨rfl, rfl⟩ | ⟨rfl, rfl⟩
      · exact Or.inl this
      · exact Or.inr this) hA
  have hcs := va_Zof (A := fun q : Nat => s.heap.size ≤ q) (hts _ (List.mem_of_getElem? tw_cs)) (hts _ (List.mem_of_getElem? tw_is)) (va_eqt (hfl _ (List.mem_of_getElem? ft_cs))) hA
  have hsi := va_Zqof (A := fun q : Nat => s.heap.size ≤ q) (hts _ (List.mem_of_getElem? tw_si)) (hts _ (List.mem_of_getElem? tw_ip)) (hfl _ (List.mem_of_getElem? ft_si)) hA
  have hK : va_K (fun c => (f c).1, fun c => (f c).2) vwCl (tysOf (fun t => if t = 0 then c0 else if t = 1 then c1 else if t = 2 then c2 else if t = 3 then c3 else c4)) s := by
    refine ⟨fun c q hq => hf c q hq, fun k q hq => ?_⟩
    match k, hq with
    | 0, hq => cases hq; exact ⟨a0, r0⟩
    | 1, hq => cases hq; exact ⟨a1, r1⟩
    | 2, hq => cases hq; exact ⟨a2, r2⟩
    | 3, hq => cases hq; exact ⟨a3, r3⟩
    | 4, hq => cases hq; exact ⟨a4, r4⟩
    | k + 5, hq =>
      rw [List.getElem?_eq_none (by show 5 ≤ k + 5; omega)] at hq
      cases hq
  have hN : ∀ w ∈ nests, va_Nw w s := by
    intro w hw
    have hw2 := hts w (List.mem_filter.mp hw).1
    obtain ⟨a, i, x, b', rfl⟩ := nests_of hw
    exact va_Nw.of rfl hw2
  have hR : ∀ i, i < 2 → vk_R "PaperAger$Token" (sPool i) (sTx i) (adK i) s := fun i hi => vk_R.of (A := #[Value.ref b]) (hts _ (List.mem_of_getElem? (tw_s i hi))) (hev i hi)
  have hAr : va_AO "PaperAger$Reader" s := va_AO.of (hts _ (List.mem_of_getElem? tw_ar))
  have hAp : va_AO "PaperAger$Paper" s := va_AO.of (hts _ (List.mem_of_getElem? tw_ap))
  rcases hsi with hz | ⟨t, hz⟩
  · exact ⟨_, _, saF adK adV 0 b, rfl, hK, hN, hS, hR, hcs, hAr, hAp, Or.inl hz⟩
  · exact ⟨_, _, saF adK adV t b, rfl, hK, hN, hS, hR, hcs, hAr, hAp, Or.inr hz⟩
