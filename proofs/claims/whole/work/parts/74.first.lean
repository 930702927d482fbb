/-! ===== the first memories ===== -/
theorem first_rel : Rel nc147 nm99 := by
  refine ⟨0, 0, 0, 0, 0, ⟨?_, fun i hi => absurd hi (by omega), fun i hi => absurd hi (by omega), fun i hi => absurd hi (by omega), fun i hi => absurd hi (by omega), [], [], by simp, by simp, ?_, ?_, fun k q hk => (by cases hk), fun l q hl => (by cases hl)⟩, Und.zero ?_ ?_ 0 (by omega) ?_, ⟨0, by omega, ?_, ?_, fun j hj => absurd hj (by omega)⟩, ?_, ⟨?_, ?_⟩, Or.inl ⟨?_, ?_⟩⟩
  · unfold CtR
    decide +kernel
  · show nc147 3 0 6 = nI 0
    decide +kernel
  · show nm99 12 0 27 = nI 0
    decide +kernel
  · decide +kernel
  · decide +kernel
  · decide +kernel
  · decide +kernel
  · decide +kernel
  · unfold Wrd
    decide +kernel
  · decide +kernel
  · decide +kernel
  · decide +kernel
  · decide +kernel
theorem nw_wl0 : nw141 = wl0 := by decide +kernel
theorem L0_bd : Bd L0 := by
  intro k i j h
  unfold L0
  split <;> first | rfl | (split <;> first | rfl | omega)
theorem layq_13 : ∀ q ∈ wl0, ∀ j, j < 13 → nl280 q.1 q.2 j = L0 q.1 q.2 j := by decide +kernel
theorem layq_12 : ∀ j, j < 60 → nl280 12 0 j = L0 12 0 j := by decide +kernel
theorem wl_12 : ∀ q ∈ wl0, q.1 = 12 → q.2 = 0 := by decide +kernel
theorem lay_all : ∀ q ∈ wl0, ∀ j, L0 q.1 q.2 j = nl280 q.1 q.2 j := by
  intro q hq j
  by_cases h : (q.1 ≠ 12 ∧ 13 ≤ j) ∨ 60 ≤ j
  · rw [L0_bd _ _ _ h, bd_nl280 _ _ _ h]
  · by_cases h13 : j < 13
    · exact (layq_13 q hq j h13).symm
    · have e1 : q.1 = 12 := by omega
      have e2 := wl_12 q hq e1
      rw [e1, e2]
      exact (layq_12 j (by omega)).symm
theorem Cl.lay {own : String} {cc : ByteArray} {nL fr lo rc rs : Nat} {sc : Option (Nat × (Nat → Int32))} {isI : Bool} {J : Nat → Lv → List AV → Obs → Lay → Nat → Nat → Mem → Mem → Prop} {pc : Nat} {lv : Lv} {st : List AV} {wl : Obs} {L L' : Lay} {ce sz : Nat} {Sc Sm : Mem} (h : Cl own cc nL fr lo rc rs sc isI J) (ha : ∀ q ∈ wl, ∀ j, L' q.1 q.2 j = L q.1 q.2 j) (kk : J pc lv st wl L' ce sz Sc Sm) : J pc lv st wl L ce sz Sc Sm := by
  obtain ⟨p, l, e, R, s, m, args, below, meth, c, Q, D, tc, sa, A, Ts, wp, ap, ⟨⟨hx, hb, hml, hown, hts⟩, hG, hE, hA, hX⟩, ⟨hRf, hRl, hRc, hRs⟩, hI, rfl⟩ := h
  intro o1 o2 w1 ad H locs ls w2 hW hS hL
  obtain ⟨g1, g2, g3, g4, g5⟩ := hW
  refine kk o1 o2 w1 ad H locs ls w2 ⟨g1, g2, fun q hq j r hr => g3 q hq j r (by rw [← ha q hq j]; exact hr), ?_, g5⟩ hS hL
  have e : wls tc ad wl L' (mm Sc Sm) = wls tc ad wl L (mm Sc Sm) := by
    unfold wls
    refine List.map_congr_left (fun q hq => ?_)
    rw [ent_congr (ad := ad) (L := L) (X := mm Sc Sm) (fun _ => rfl) (fun j => ha q hq j) (fun _ _ _ => rfl)]
  unfold PW
  rw [e]
  exact g4
