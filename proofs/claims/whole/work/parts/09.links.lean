/-! ===== the settled world ===== -/
def wl0 : Obs := [(11, 0), (0, 0), (13, 0), (14, 0), (1, 0), (16, 0), (2, 0), (17, 0), (18, 0), (19, 0), (20, 0), (3, 0), (21, 0), (22, 0), (23, 0), (24, 0), (25, 0), (15, 0), (6, 0), (6, 1), (6, 2), (6, 3), (6, 4), (6, 5), (6, 6), (6, 7), (6, 8), (6, 9), (6, 10), (6, 11), (5, 0), (5, 1), (5, 2), (5, 3), (5, 4), (5, 5), (5, 6), (5, 7), (5, 8), (5, 9), (5, 10), (5, 11), (0, 1), (13, 1), (14, 1), (1, 1), (16, 1), (2, 1), (17, 1), (18, 1), (19, 1), (20, 1), (3, 1), (21, 1), (22, 1), (23, 1), (24, 1), (25, 1), (15, 1), (6, 12), (6, 13), (6, 14), (6, 15), (6, 16), (6, 17), (6, 18), (6, 19), (6, 20), (6, 21), (6, 22), (6, 23), (5, 12), (5, 13), (5, 14), (5, 15), (5, 16), (5, 17), (5, 18), (5, 19), (5, 20), (5, 21), (5, 22), (5, 23), (7, 0), (27, 0), (4, 0), (3, 2), (21, 2), (22, 2), (23, 2), (24, 2), (25, 2), (9, 0), (26, 0), (10, 0), (29, 0), (30, 0), (5, 25), (5, 26), (5, 27), (5, 28), (5, 29), (5, 30), (5, 31), (5, 32), (5, 33), (5, 34), (8, 0), (28, 0), (5, 24), (12, 0), (60, 0), (61, 0), (62, 0), (63, 0), (64, 0), (65, 0), (66, 0), (67, 0), (68, 0), (69, 0), (70, 0), (71, 0), (72, 0), (73, 0), (74, 0), (75, 0), (76, 0), (77, 0), (78, 0), (79, 0), (80, 0), (81, 0), (82, 0), (83, 0), (84, 0), (85, 0), (86, 0), (87, 0), (88, 0), (89, 0)]
theorem L0_13 {i j : Nat} (h : j < 12) : L0 13 i j = some (6, (12 * i + j)) := if_pos h
theorem L0_13_0 {j : Nat} (h : j < 12) : L0 13 0 j = some (6, j) := (L0_13 h).trans (by rw [Nat.mul_zero, Nat.zero_add])
theorem aq_13 : ak 13 = 3 ∨ ak 13 = 4 := by decide
theorem L0_14 {i j : Nat} (h : j < 12) : L0 14 i j = some (5, (12 * i + j)) := if_pos h
theorem L0_14_0 {j : Nat} (h : j < 12) : L0 14 0 j = some (5, j) := (L0_14 h).trans (by rw [Nat.mul_zero, Nat.zero_add])
theorem aq_14 : ak 14 = 3 ∨ ak 14 = 4 := by decide
theorem al_15 : AL 0 15 9 false := ⟨rfl, rfl, rfl⟩
theorem al_16 : AL 0 16 600 false := ⟨rfl, rfl, rfl⟩
theorem al_17 : AL 0 17 6 false := ⟨rfl, rfl, rfl⟩
theorem al_18 : AL 0 18 6 false := ⟨rfl, rfl, rfl⟩
theorem al_19 : AL 0 19 6 false := ⟨rfl, rfl, rfl⟩
theorem al_20 : AL 0 20 6 false := ⟨rfl, rfl, rfl⟩
theorem al_21 : AL 0 21 400 false := ⟨rfl, rfl, rfl⟩
theorem al_22 : AL 0 22 16 false := ⟨rfl, rfl, rfl⟩
theorem al_23 : AL 0 23 16 false := ⟨rfl, rfl, rfl⟩
theorem al_24 : AL 0 24 16 false := ⟨rfl, rfl, rfl⟩
theorem al_25 : AL 0 25 40 false := ⟨rfl, rfl, rfl⟩
theorem al_26 : AL 0 26 40 false := ⟨rfl, rfl, rfl⟩
theorem al_27 : AL 1 27 400 false := ⟨rfl, rfl, rfl⟩
theorem al_28 : AL 0 28 12 false := ⟨rfl, rfl, rfl⟩
theorem L0_29 {i j : Nat} (h : j < 10) : L0 29 i j = some (5, (25 + j)) := if_pos h
theorem aq_29 : ak 29 = 3 ∨ ak 29 = 4 := by decide
theorem al_30 : AL 2 30 10 false := ⟨rfl, rfl, rfl⟩
theorem al_60 : AL 0 60 12 true := ⟨rfl, rfl, rfl⟩
theorem al_61 : AL 0 61 12 true := ⟨rfl, rfl, rfl⟩
theorem al_62 : AL 0 62 12 true := ⟨rfl, rfl, rfl⟩
theorem al_63 : AL 0 63 12 true := ⟨rfl, rfl, rfl⟩
theorem al_64 : AL 0 64 12 true := ⟨rfl, rfl, rfl⟩
theorem al_65 : AL 0 65 13 true := ⟨rfl, rfl, rfl⟩
theorem al_66 : AL 0 66 13 true := ⟨rfl, rfl, rfl⟩
theorem al_67 : AL 0 67 13 true := ⟨rfl, rfl, rfl⟩
theorem al_68 : AL 0 68 13 true := ⟨rfl, rfl, rfl⟩
theorem al_69 : AL 0 69 13 true := ⟨rfl, rfl, rfl⟩
theorem al_70 : AL 0 70 13 true := ⟨rfl, rfl, rfl⟩
theorem al_71 : AL 0 71 12 true := ⟨rfl, rfl, rfl⟩
theorem al_72 : AL 0 72 600 true := ⟨rfl, rfl, rfl⟩
theorem al_73 : AL 0 73 400 true := ⟨rfl, rfl, rfl⟩
theorem al_74 : AL 0 74 67 true := ⟨rfl, rfl, rfl⟩
theorem al_75 : AL 0 75 32 true := ⟨rfl, rfl, rfl⟩
theorem al_76 : AL 0 76 32 true := ⟨rfl, rfl, rfl⟩
theorem al_77 : AL 0 77 32 true := ⟨rfl, rfl, rfl⟩
theorem al_78 : AL 0 78 800 true := ⟨rfl, rfl, rfl⟩
theorem al_79 : AL 0 79 800 true := ⟨rfl, rfl, rfl⟩
theorem al_80 : AL 0 80 40 true := ⟨rfl, rfl, rfl⟩
theorem al_81 : AL 0 81 9 true := ⟨rfl, rfl, rfl⟩
theorem al_82 : AL 0 82 420 true := ⟨rfl, rfl, rfl⟩
theorem al_83 : AL 0 83 60 true := ⟨rfl, rfl, rfl⟩
theorem al_84 : AL 0 84 6 true := ⟨rfl, rfl, rfl⟩
theorem al_85 : AL 0 85 6 true := ⟨rfl, rfl, rfl⟩
theorem al_86 : AL 0 86 6 true := ⟨rfl, rfl, rfl⟩
theorem al_87 : AL 0 87 6 true := ⟨rfl, rfl, rfl⟩
theorem al_88 : AL 0 88 12 true := ⟨rfl, rfl, rfl⟩
theorem al_89 : AL 0 89 1900 true := ⟨rfl, rfl, rfl⟩
/-! ===== numbers ===== -/
theorem ic_m8 : Int32.ofInt (-8) = (-8) := by decide
theorem ic_m1 : Int32.ofInt (-1) = (-1) := by decide
theorem ic_0 : Int32.ofInt (0) = 0 := by decide
theorem ic_1 : Int32.ofInt (1) = 1 := by decide
theorem ic_2 : Int32.ofInt (2) = 2 := by decide
theorem ic_3 : Int32.ofInt (3) = 3 := by decide
theorem ic_4 : Int32.ofInt (4) = 4 := by decide
theorem ic_5 : Int32.ofInt (5) = 5 := by decide
theorem ic_8 : Int32.ofInt (8) = 8 := by decide
theorem ic_16 : Int32.ofInt (16) = 16 := by decide
theorem bc_m7 : (Int8.ofInt (-7)).toInt32 = (-7) := by decide
theorem bc_m2 : (Int8.ofInt (-2)).toInt32 = (-2) := by decide
theorem bc_6 : (Int8.ofInt (6)).toInt32 = 6 := by decide
theorem bc_7 : (Int8.ofInt (7)).toInt32 = 7 := by decide
theorem bc_8 : (Int8.ofInt (8)).toInt32 = 8 := by decide
theorem bc_9 : (Int8.ofInt (9)).toInt32 = 9 := by decide
theorem bc_10 : (Int8.ofInt (10)).toInt32 = 10 := by decide
theorem bc_11 : (Int8.ofInt (11)).toInt32 = 11 := by decide
theorem bc_12 : (Int8.ofInt (12)).toInt32 = 12 := by decide
theorem bc_13 : (Int8.ofInt (13)).toInt32 = 13 := by decide
theorem bc_16 : (Int8.ofInt (16)).toInt32 = 16 := by decide
theorem bc_17 : (Int8.ofInt (17)).toInt32 = 17 := by decide
theorem bc_18 : (Int8.ofInt (18)).toInt32 = 18 := by decide
theorem bc_20 : (Int8.ofInt (20)).toInt32 = 20 := by decide
theorem bc_21 : (Int8.ofInt (21)).toInt32 = 21 := by decide
theorem bc_22 : (Int8.ofInt (22)).toInt32 = 22 := by decide
theorem bc_23 : (Int8.ofInt (23)).toInt32 = 23 := by decide
theorem bc_24 : (Int8.ofInt (24)).toInt32 = 24 := by decide
theorem bc_26 : (Int8.ofInt (26)).toInt32 = 26 := by decide
theorem bc_32 : (Int8.ofInt (32)).toInt32 = 32 := by decide
theorem bc_40 : (Int8.ofInt (40)).toInt32 = 40 := by decide
theorem bc_41 : (Int8.ofInt (41)).toInt32 = 41 := by decide
theorem bc_42 : (Int8.ofInt (42)).toInt32 = 42 := by decide
theorem bc_43 : (Int8.ofInt (43)).toInt32 = 43 := by decide
theorem bc_45 : (Int8.ofInt (45)).toInt32 = 45 := by decide
theorem bc_47 : (Int8.ofInt (47)).toInt32 = 47 := by decide
theorem bc_48 : (Int8.ofInt (48)).toInt32 = 48 := by decide
theorem bc_57 : (Int8.ofInt (57)).toInt32 = 57 := by decide
theorem bc_59 : (Int8.ofInt (59)).toInt32 = 59 := by decide
theorem bc_60 : (Int8.ofInt (60)).toInt32 = 60 := by decide
theorem bc_61 : (Int8.ofInt (61)).toInt32 = 61 := by decide
theorem bc_62 : (Int8.ofInt (62)).toInt32 = 62 := by decide
theorem bc_63 : (Int8.ofInt (63)).toInt32 = 63 := by decide
theorem bc_65 : (Int8.ofInt (65)).toInt32 = 65 := by decide
theorem bc_66 : (Int8.ofInt (66)).toInt32 = 66 := by decide
theorem bc_90 : (Int8.ofInt (90)).toInt32 = 90 := by decide
theorem bc_97 : (Int8.ofInt (97)).toInt32 = 97 := by decide
theorem bc_99 : (Int8.ofInt (99)).toInt32 = 99 := by decide
theorem bc_120 : (Int8.ofInt (120)).toInt32 = 120 := by decide
theorem bc_122 : (Int8.ofInt (122)).toInt32 = 122 := by decide
theorem sc_255 : (Int16.ofInt (255)).toInt32 = 255 := by decide
theorem sc_256 : (Int16.ofInt (256)).toInt32 = 256 := by decide
theorem sc_365 : (Int16.ofInt (365)).toInt32 = 365 := by decide
theorem sc_380 : (Int16.ofInt (380)).toInt32 = 380 := by decide
theorem sc_400 : (Int16.ofInt (400)).toInt32 = 400 := by decide
theorem sc_600 : (Int16.ofInt (600)).toInt32 = 600 := by decide
theorem sc_999 : (Int16.ofInt (999)).toInt32 = 999 := by decide
theorem sc_4096 : (Int16.ofInt (4096)).toInt32 = 4096 := by decide
theorem sc_9999 : (Int16.ofInt (9999)).toInt32 = 9999 := by decide
theorem sc_10000 : (Int16.ofInt (10000)).toInt32 = 10000 := by decide
/-! ===== the classes ===== -/
theorem lay_0 : ∀ j, j < 11 → lw_tbl[([292, 294, 296, 298, 300, 302, 304, 306, 308, 310, 312] : List Nat).getD j 0]? = some (u_lay RX0 TX0 j) := by decide +kernel
theorem gl_0 : ∀ j, j < 11 → goodWord (u_lay RX0 TX0 j) = true := by decide +kernel
theorem tk_0 : ∀ j, j < nsl 0 → (isRf 0 j = false → tyX0 j = .int ∨ tyX0 j = .boolean) ∧ (isRf 0 j = true → (∃ n, tyX0 j = .object n) ∨ ∃ t, tyX0 j = .array t) := by
  intro j hj
  have hj : j < 11 := hj
  match j, hj with
  | 0, _ => exact ⟨fun h => (by cases h), fun _ => Or.inr ⟨_, rfl⟩⟩
  | 1, _ => exact ⟨fun h => (by cases h), fun _ => Or.inr ⟨_, rfl⟩⟩
  | 2, _ => exact ⟨fun h => (by cases h), fun _ => Or.inl ⟨_, rfl⟩⟩
  | 3, _ => exact ⟨fun h => (by cases h), fun _ => Or.inl ⟨_, rfl⟩⟩
  | 4, _ => exact ⟨fun h => (by cases h), fun _ => Or.inl ⟨_, rfl⟩⟩
  | 5, _ => exact ⟨fun h => (by cases h), fun _ => Or.inr ⟨_, rfl⟩⟩
  | 6, _ => exact ⟨fun _ => Or.inl rfl, fun h => by cases h⟩
  | 7, _ => exact ⟨fun _ => Or.inl rfl, fun h => by cases h⟩
  | 8, _ => exact ⟨fun _ => Or.inl rfl, fun h => by cases h⟩
  | 9, _ => exact ⟨fun _ => Or.inl rfl, fun h => by cases h⟩
  | 10, _ => exact ⟨fun _ => Or.inl rfl, fun h => by cases h⟩
  | q + 11, h => exact absurd h (by omega)
theorem kc_0 : KC 0 RX0 TX0 tyX0 := ⟨rfl, by decide, fun w hw => by obtain ⟨j, hj, rfl⟩ := List.mem_map.mp hw; exact mg _ (lay_0 j (List.mem_range.mp hj)) (gl_0 j (List.mem_range.mp hj)), tyX0_ok, nmX0, tk_0⟩
theorem lay_1 : ∀ j, j < 2 → lw_tbl[([126, 128] : List Nat).getD j 0]? = some (u_lay RX1 TX1 j) := by decide +kernel
theorem gl_1 : ∀ j, j < 2 → goodWord (u_lay RX1 TX1 j) = true := by decide +kernel
theorem tk_1 : ∀ j, j < nsl 1 → (isRf 1 j = false → tyX1 j = .int ∨ tyX1 j = .boolean) ∧ (isRf 1 j = true → (∃ n, tyX1 j = .object n) ∨ ∃ t, tyX1 j = .array t) := by
  intro j hj
  have hj : j < 2 := hj
  match j, hj with
  | 0, _ => exact ⟨fun h => (by cases h), fun _ => Or.inr ⟨_, rfl⟩⟩
  | 1, _ => exact ⟨fun _ => Or.inl rfl, fun h => by cases h⟩
  | q + 2, h => exact absurd h (by omega)
theorem kc_1 : KC 1 RX1 TX1 tyX1 := ⟨rfl, by decide, fun w hw => by obtain ⟨j, hj, rfl⟩ := List.mem_map.mp hw; exact mg _ (lay_1 j (List.mem_range.mp hj)) (gl_1 j (List.mem_range.mp hj)), tyX1_ok, nmX1, tk_1⟩
theorem lay_2 : ∀ j, j < 5 → lw_tbl[([149, 151, 153, 155, 157] : List Nat).getD j 0]? = some (u_lay RX2 TX2 j) := by decide +kernel
theorem gl_2 : ∀ j, j < 5 → goodWord (u_lay RX2 TX2 j) = true := by decide +kernel
theorem tk_2 : ∀ j, j < nsl 2 → (isRf 2 j = false → tyX2 j = .int ∨ tyX2 j = .boolean) ∧ (isRf 2 j = true → (∃ n, tyX2 j = .object n) ∨ ∃ t, tyX2 j = .array t) := by
  intro j hj
  have hj : j < 5 := hj
  match j, hj with
  | 0, _ => exact ⟨fun h => (by cases h), fun _ => Or.inr ⟨_, rfl⟩⟩
  | 1, _ => exact ⟨fun h => (by cases h), fun _ => Or.inr ⟨_, rfl⟩⟩
  | 2, _ => exact ⟨fun h => (by cases h), fun _ => Or.inr ⟨_, rfl⟩⟩
  | 3, _ => exact ⟨fun h => (by cases h), fun _ => Or.inr ⟨_, rfl⟩⟩
  | 4, _ => exact ⟨fun _ => Or.inl rfl, fun h => by cases h⟩
  | q + 5, h => exact absurd h (by omega)
theorem kc_2 : KC 2 RX2 TX2 tyX2 := ⟨rfl, by decide, fun w hw => by obtain ⟨j, hj, rfl⟩ := List.mem_map.mp hw; exact mg _ (lay_2 j (List.mem_range.mp hj)) (gl_2 j (List.mem_range.mp hj)), tyX2_ok, nmX2, tk_2⟩
theorem lay_3 : ∀ j, j < 7 → lw_tbl[([174, 176, 178, 180, 182, 184, 186] : List Nat).getD j 0]? = some (u_lay RX3 TX3 j) := by decide +kernel
theorem gl_3 : ∀ j, j < 7 → goodWord (u_lay RX3 TX3 j) = true := by decide +kernel
theorem tk_3 : ∀ j, j < nsl 3 → (isRf 3 j = false → tyX3 j = .int ∨ tyX3 j = .boolean) ∧ (isRf 3 j = true → (∃ n, tyX3 j = .object n) ∨ ∃ t, tyX3 j = .array t) := by
  intro j hj
  have hj : j < 7 := hj
  match j, hj with
  | 0, _ => exact ⟨fun h => (by cases h), fun _ => Or.inr ⟨_, rfl⟩⟩
  | 1, _ => exact ⟨fun h => (by cases h), fun _ => Or.inr ⟨_, rfl⟩⟩
  | 2, _ => exact ⟨fun h => (by cases h), fun _ => Or.inr ⟨_, rfl⟩⟩
  | 3, _ => exact ⟨fun h => (by cases h), fun _ => Or.inr ⟨_, rfl⟩⟩
  | 4, _ => exact ⟨fun h => (by cases h), fun _ => Or.inr ⟨_, rfl⟩⟩
  | 5, _ => exact ⟨fun _ => Or.inl rfl, fun h => by cases h⟩
  | 6, _ => exact ⟨fun _ => Or.inl rfl, fun h => by cases h⟩
  | q + 7, h => exact absurd h (by omega)
theorem kc_3 : KC 3 RX3 TX3 tyX3 := ⟨rfl, by decide, fun w hw => by obtain ⟨j, hj, rfl⟩ := List.mem_map.mp hw; exact mg _ (lay_3 j (List.mem_range.mp hj)) (gl_3 j (List.mem_range.mp hj)), tyX3_ok, nmX3, tk_3⟩
theorem lay_4 : ∀ j, j < 9 → lw_tbl[([373, 375, 377, 379, 381, 383, 385, 387, 389] : List Nat).getD j 0]? = some (u_lay RX4 TX4 j) := by decide +kernel
theorem gl_4 : ∀ j, j < 9 → goodWord (u_lay RX4 TX4 j) = true := by decide +kernel
theorem tk_4 : ∀ j, j < nsl 4 → (isRf 4 j = false → tyX4 j = .int ∨ tyX4 j = .boolean) ∧ (isRf 4 j = true → (∃ n, tyX4 j = .object n) ∨ ∃ t, tyX4 j = .array t) := by
  intro j hj
  have hj : j < 9 := hj
  match j, hj with
  | 0, _ => exact ⟨fun h => (by cases h), fun _ => Or.inl ⟨_, rfl⟩⟩
  | 1, _ => exact ⟨fun h => (by cases h), fun _ => Or.inl ⟨_, rfl⟩⟩
  | 2, _ => exact ⟨fun h => (by cases h), fun _ => Or.inr ⟨_, rfl⟩⟩
  | 3, _ => exact ⟨fun _ => Or.inl rfl, fun h => by cases h⟩
  | 4, _ => exact ⟨fun _ => Or.inl rfl, fun h => by cases h⟩
  | 5, _ => exact ⟨fun _ => Or.inl rfl, fun h => by cases h⟩
  | 6, _ => exact ⟨fun _ => Or.inr rfl, fun h => by cases h⟩
  | 7, _ => exact ⟨fun _ => Or.inl rfl, fun h => by cases h⟩
  | 8, _ => exact ⟨fun _ => Or.inl rfl, fun h => by cases h⟩
  | q + 9, h => exact absurd h (by omega)
theorem kc_4 : KC 4 RX4 TX4 tyX4 := ⟨rfl, by decide, fun w hw => by obtain ⟨j, hj, rfl⟩ := List.mem_map.mp hw; exact mg _ (lay_4 j (List.mem_range.mp hj)) (gl_4 j (List.mem_range.mp hj)), tyX4_ok, nmX4, tk_4⟩
theorem lay_5 : ∀ j, j < 8 → lw_tbl[([249, 251, 253, 255, 257, 259, 261, 263] : List Nat).getD j 0]? = some (u_lay RX5 TX5 j) := by decide +kernel
theorem gl_5 : ∀ j, j < 8 → goodWord (u_lay RX5 TX5 j) = true := by decide +kernel
theorem tk_5 : ∀ j, j < nsl 5 → (isRf 5 j = false → tyX5 j = .int ∨ tyX5 j = .boolean) ∧ (isRf 5 j = true → (∃ n, tyX5 j = .object n) ∨ ∃ t, tyX5 j = .array t) := by
  intro j hj
  have hj : j < 8 := hj
  match j, hj with
  | 0, _ => exact ⟨fun _ => Or.inl rfl, fun h => by cases h⟩
  | 1, _ => exact ⟨fun _ => Or.inl rfl, fun h => by cases h⟩
  | 2, _ => exact ⟨fun _ => Or.inl rfl, fun h => by cases h⟩
  | 3, _ => exact ⟨fun _ => Or.inl rfl, fun h => by cases h⟩
  | 4, _ => exact ⟨fun _ => Or.inl rfl, fun h => by cases h⟩
  | 5, _ => exact ⟨fun _ => Or.inl rfl, fun h => by cases h⟩
  | 6, _ => exact ⟨fun _ => Or.inl rfl, fun h => by cases h⟩
  | 7, _ => exact ⟨fun _ => Or.inl rfl, fun h => by cases h⟩
  | q + 8, h => exact absurd h (by omega)
theorem kc_5 : KC 5 RX5 TX5 tyX5 := ⟨rfl, by decide, fun w hw => by obtain ⟨j, hj, rfl⟩ := List.mem_map.mp hw; exact mg _ (lay_5 j (List.mem_range.mp hj)) (gl_5 j (List.mem_range.mp hj)), tyX5_ok, nmX5, tk_5⟩
theorem lay_6 : ∀ j, j < 5 → lw_tbl[([207, 209, 211, 213, 215] : List Nat).getD j 0]? = some (u_lay RX6 TX6 j) := by decide +kernel
theorem gl_6 : ∀ j, j < 5 → goodWord (u_lay RX6 TX6 j) = true := by decide +kernel
theorem tk_6 : ∀ j, j < nsl 6 → (isRf 6 j = false → tyX6 j = .int ∨ tyX6 j = .boolean) ∧ (isRf 6 j = true → (∃ n, tyX6 j = .object n) ∨ ∃ t, tyX6 j = .array t) := by
  intro j hj
  have hj : j < 5 := hj
  match j, hj with
  | 0, _ => exact ⟨fun _ => Or.inl rfl, fun h => by cases h⟩
  | 1, _ => exact ⟨fun _ => Or.inl rfl, fun h => by cases h⟩
  | 2, _ => exact ⟨fun _ => Or.inl rfl, fun h => by cases h⟩
  | 3, _ => exact ⟨fun _ => Or.inl rfl, fun h => by cases h⟩
  | 4, _ => exact ⟨fun _ => Or.inl rfl, fun h => by cases h⟩
  | q + 5, h => exact absurd h (by omega)
theorem kc_6 : KC 6 RX6 TX6 tyX6 := ⟨rfl, by decide, fun w hw => by obtain ⟨j, hj, rfl⟩ := List.mem_map.mp hw; exact mg _ (lay_6 j (List.mem_range.mp hj)) (gl_6 j (List.mem_range.mp hj)), tyX6_ok, nmX6, tk_6⟩
theorem lay_7 : ∀ j, j < 2 → lw_tbl[([325, 327] : List Nat).getD j 0]? = some (u_lay RX7 TX7 j) := by decide +kernel
theorem gl_7 : ∀ j, j < 2 → goodWord (u_lay RX7 TX7 j) = true := by decide +kernel
theorem tk_7 : ∀ j, j < nsl 7 → (isRf 7 j = false → tyX7 j = .int ∨ tyX7 j = .boolean) ∧ (isRf 7 j = true → (∃ n, tyX7 j = .object n) ∨ ∃ t, tyX7 j = .array t) := by
  intro j hj
  have hj : j < 2 := hj
  match j, hj with
  | 0, _ => exact ⟨fun h => (by cases h), fun _ => Or.inr ⟨_, rfl⟩⟩
  | 1, _ => exact ⟨fun _ => Or.inl rfl, fun h => by cases h⟩
  | q + 2, h => exact absurd h (by omega)
theorem kc_7 : KC 7 RX7 TX7 tyX7 := ⟨rfl, by decide, fun w hw => by obtain ⟨j, hj, rfl⟩ := List.mem_map.mp hw; exact mg _ (lay_7 j (List.mem_range.mp hj)) (gl_7 j (List.mem_range.mp hj)), tyX7_ok, nmX7, tk_7⟩
theorem lay_8 : ∀ j, j < 5 → lw_tbl[([431, 433, 435, 437, 439] : List Nat).getD j 0]? = some (u_lay RX8 TX8 j) := by decide +kernel
theorem gl_8 : ∀ j, j < 5 → goodWord (u_lay RX8 TX8 j) = true := by decide +kernel
theorem tk_8 : ∀ j, j < nsl 8 → (isRf 8 j = false → tyX8 j = .int ∨ tyX8 j = .boolean) ∧ (isRf 8 j = true → (∃ n, tyX8 j = .object n) ∨ ∃ t, tyX8 j = .array t) := by
  intro j hj
  have hj : j < 5 := hj
  match j, hj with
  | 0, _ => exact ⟨fun h => (by cases h), fun _ => Or.inr ⟨_, rfl⟩⟩
  | 1, _ => exact ⟨fun h => (by cases h), fun _ => Or.inl ⟨_, rfl⟩⟩
  | 2, _ => exact ⟨fun _ => Or.inl rfl, fun h => by cases h⟩
  | 3, _ => exact ⟨fun _ => Or.inl rfl, fun h => by cases h⟩
  | 4, _ => exact ⟨fun _ => Or.inl rfl, fun h => by cases h⟩
  | q + 5, h => exact absurd h (by omega)
theorem kc_8 : KC 8 RX8 TX8 tyX8 := ⟨rfl, by decide, fun w hw => by obtain ⟨j, hj, rfl⟩ := List.mem_map.mp hw; exact mg _ (lay_8 j (List.mem_range.mp hj)) (gl_8 j (List.mem_range.mp hj)), tyX8_ok, nmX8, tk_8⟩
theorem lay_9 : ∀ j, j < 4 → lw_tbl[([352, 354, 356, 358] : List Nat).getD j 0]? = some (u_lay RX9 TX9 j) := by decide +kernel
theorem gl_9 : ∀ j, j < 4 → goodWord (u_lay RX9 TX9 j) = true := by decide +kernel
theorem tk_9 : ∀ j, j < nsl 9 → (isRf 9 j = false → tyX9 j = .int ∨ tyX9 j = .boolean) ∧ (isRf 9 j = true → (∃ n, tyX9 j = .object n) ∨ ∃ t, tyX9 j = .array t) := by
  intro j hj
  have hj : j < 4 := hj
  match j, hj with
  | 0, _ => exact ⟨fun _ => Or.inl rfl, fun h => by cases h⟩
  | 1, _ => exact ⟨fun _ => Or.inl rfl, fun h => by cases h⟩
  | 2, _ => exact ⟨fun _ => Or.inl rfl, fun h => by cases h⟩
  | 3, _ => exact ⟨fun _ => Or.inl rfl, fun h => by cases h⟩
  | q + 4, h => exact absurd h (by omega)
theorem kc_9 : KC 9 RX9 TX9 tyX9 := ⟨rfl, by decide, fun w hw => by obtain ⟨j, hj, rfl⟩ := List.mem_map.mp hw; exact mg _ (lay_9 j (List.mem_range.mp hj)) (gl_9 j (List.mem_range.mp hj)), tyX9_ok, nmX9, tk_9⟩
theorem lay_10 : ∀ j, j < 4 → lw_tbl[([405, 407, 409, 411] : List Nat).getD j 0]? = some (u_lay RX10 TX10 j) := by decide +kernel
theorem gl_10 : ∀ j, j < 4 → goodWord (u_lay RX10 TX10 j) = true := by decide +kernel
theorem tk_10 : ∀ j, j < nsl 10 → (isRf 10 j = false → tyX10 j = .int ∨ tyX10 j = .boolean) ∧ (isRf 10 j = true → (∃ n, tyX10 j = .object n) ∨ ∃ t, tyX10 j = .array t) := by
  intro j hj
  have hj : j < 4 := hj
  match j, hj with
  | 0, _ => exact ⟨fun h => (by cases h), fun _ => Or.inr ⟨_, rfl⟩⟩
  | 1, _ => exact ⟨fun h => (by cases h), fun _ => Or.inr ⟨_, rfl⟩⟩
  | 2, _ => exact ⟨fun _ => Or.inl rfl, fun h => by cases h⟩
  | 3, _ => exact ⟨fun _ => Or.inl rfl, fun h => by cases h⟩
  | q + 4, h => exact absurd h (by omega)
theorem kc_10 : KC 10 RX10 TX10 tyX10 := ⟨rfl, by decide, fun w hw => by obtain ⟨j, hj, rfl⟩ := List.mem_map.mp hw; exact mg _ (lay_10 j (List.mem_range.mp hj)) (gl_10 j (List.mem_range.mp hj)), tyX10_ok, nmX10, tk_10⟩
theorem lay_11 : ∀ j, j < 7 → lw_tbl[([449, 451, 453, 455, 457, 459, 461] : List Nat).getD j 0]? = some (u_lay RX11 TX11 j) := by decide +kernel
theorem gl_11 : ∀ j, j < 7 → goodWord (u_lay RX11 TX11 j) = true := by decide +kernel
theorem tk_11 : ∀ j, j < nsl 11 → (isRf 11 j = false → tyX11 j = .int ∨ tyX11 j = .boolean) ∧ (isRf 11 j = true → (∃ n, tyX11 j = .object n) ∨ ∃ t, tyX11 j = .array t) := by
  intro j hj
  have hj : j < 7 := hj
  match j, hj with
  | 0, _ => exact ⟨fun h => (by cases h), fun _ => Or.inl ⟨_, rfl⟩⟩
  | 1, _ => exact ⟨fun h => (by cases h), fun _ => Or.inl ⟨_, rfl⟩⟩
  | 2, _ => exact ⟨fun _ => Or.inr rfl, fun h => by cases h⟩
  | 3, _ => exact ⟨fun h => (by cases h), fun _ => Or.inl ⟨_, rfl⟩⟩
  | 4, _ => exact ⟨fun h => (by cases h), fun _ => Or.inl ⟨_, rfl⟩⟩
  | 5, _ => exact ⟨fun h => (by cases h), fun _ => Or.inl ⟨_, rfl⟩⟩
  | 6, _ => exact ⟨fun h => (by cases h), fun _ => Or.inl ⟨_, rfl⟩⟩
  | q + 7, h => exact absurd h (by omega)
theorem kc_11 : KC 11 RX11 TX11 tyX11 := ⟨rfl, by decide, fun w hw => by obtain ⟨j, hj, rfl⟩ := List.mem_map.mp hw; exact mg _ (lay_11 j (List.mem_range.mp hj)) (gl_11 j (List.mem_range.mp hj)), tyX11_ok, nmX11, tk_11⟩
theorem lay_12 : ∀ j, j < 55 → lw_tbl[([1167, 1169, 1171, 1173, 1175, 1177, 1179, 1181, 1183, 1185, 1187, 1189, 1191, 1193, 1195, 1197, 1199, 1201, 1203, 1205, 1207, 1209, 1211, 1213, 1215, 1217, 1219, 1221, 1223, 1225, 1227, 1229, 1231, 1233, 1235, 1237, 1239, 1241, 1243, 1245, 1247, 1249, 1251, 1253, 1255, 1257, 1259, 1261, 1263, 1265, 1267, 1269, 1271, 1273, 1275] : List Nat).getD j 0]? = some (u_lay RX12 TX12 j) := by decide +kernel
theorem gl_12 : ∀ j, j < 55 → goodWord (u_lay RX12 TX12 j) = true := by decide +kernel
theorem tk_12 : ∀ j, j < nsl 12 → (isRf 12 j = false → tyX12 j = .int ∨ tyX12 j = .boolean) ∧ (isRf 12 j = true → (∃ n, tyX12 j = .object n) ∨ ∃ t, tyX12 j = .array t) := by
  intro j hj
  have hj : j < 55 := hj
  match j, hj with
  | 0, _ => exact ⟨fun _ => Or.inl rfl, fun h => by cases h⟩
  | 1, _ => exact ⟨fun _ => Or.inl rfl, fun h => by cases h⟩
  | 2, _ => exact ⟨fun _ => Or.inl rfl, fun h => by cases h⟩
  | 3, _ => exact ⟨fun _ => Or.inl rfl, fun h => by cases h⟩
  | 4, _ => exact ⟨fun h => (by cases h), fun _ => Or.inr ⟨_, rfl⟩⟩
  | 5, _ => exact ⟨fun h => (by cases h), fun _ => Or.inr ⟨_, rfl⟩⟩
  | 6, _ => exact ⟨fun h => (by cases h), fun _ => Or.inr ⟨_, rfl⟩⟩
  | 7, _ => exact ⟨fun h => (by cases h), fun _ => Or.inr ⟨_, rfl⟩⟩
  | 8, _ => exact ⟨fun h => (by cases h), fun _ => Or.inr ⟨_, rfl⟩⟩
  | 9, _ => exact ⟨fun _ => Or.inl rfl, fun h => by cases h⟩
  | 10, _ => exact ⟨fun _ => Or.inl rfl, fun h => by cases h⟩
  | 11, _ => exact ⟨fun h => (by cases h), fun _ => Or.inr ⟨_, rfl⟩⟩
  | 12, _ => exact ⟨fun h => (by cases h), fun _ => Or.inr ⟨_, rfl⟩⟩
  | 13, _ => exact ⟨fun h => (by cases h), fun _ => Or.inr ⟨_, rfl⟩⟩
  | 14, _ => exact ⟨fun h => (by cases h), fun _ => Or.inr ⟨_, rfl⟩⟩
  | 15, _ => exact ⟨fun h => (by cases h), fun _ => Or.inr ⟨_, rfl⟩⟩
  | 16, _ => exact ⟨fun h => (by cases h), fun _ => Or.inr ⟨_, rfl⟩⟩
  | 17, _ => exact ⟨fun h => (by cases h), fun _ => Or.inr ⟨_, rfl⟩⟩
  | 18, _ => exact ⟨fun _ => Or.inl rfl, fun h => by cases h⟩
  | 19, _ => exact ⟨fun h => (by cases h), fun _ => Or.inr ⟨_, rfl⟩⟩
  | 20, _ => exact ⟨fun h => (by cases h), fun _ => Or.inr ⟨_, rfl⟩⟩
  | 21, _ => exact ⟨fun _ => Or.inl rfl, fun h => by cases h⟩
  | 22, _ => exact ⟨fun _ => Or.inl rfl, fun h => by cases h⟩
  | 23, _ => exact ⟨fun _ => Or.inl rfl, fun h => by cases h⟩
  | 24, _ => exact ⟨fun _ => Or.inl rfl, fun h => by cases h⟩
  | 25, _ => exact ⟨fun _ => Or.inl rfl, fun h => by cases h⟩
  | 26, _ => exact ⟨fun h => (by cases h), fun _ => Or.inr ⟨_, rfl⟩⟩
  | 27, _ => exact ⟨fun _ => Or.inl rfl, fun h => by cases h⟩
  | 28, _ => exact ⟨fun h => (by cases h), fun _ => Or.inr ⟨_, rfl⟩⟩
  | 29, _ => exact ⟨fun h => (by cases h), fun _ => Or.inr ⟨_, rfl⟩⟩
  | 30, _ => exact ⟨fun h => (by cases h), fun _ => Or.inr ⟨_, rfl⟩⟩
  | 31, _ => exact ⟨fun h => (by cases h), fun _ => Or.inr ⟨_, rfl⟩⟩
  | 32, _ => exact ⟨fun h => (by cases h), fun _ => Or.inr ⟨_, rfl⟩⟩
  | 33, _ => exact ⟨fun _ => Or.inl rfl, fun h => by cases h⟩
  | 34, _ => exact ⟨fun _ => Or.inl rfl, fun h => by cases h⟩
  | 35, _ => exact ⟨fun h => (by cases h), fun _ => Or.inr ⟨_, rfl⟩⟩
  | 36, _ => exact ⟨fun _ => Or.inl rfl, fun h => by cases h⟩
  | 37, _ => exact ⟨fun _ => Or.inl rfl, fun h => by cases h⟩
  | 38, _ => exact ⟨fun _ => Or.inl rfl, fun h => by cases h⟩
  | 39, _ => exact ⟨fun _ => Or.inl rfl, fun h => by cases h⟩
  | 40, _ => exact ⟨fun _ => Or.inl rfl, fun h => by cases h⟩
  | 41, _ => exact ⟨fun h => (by cases h), fun _ => Or.inr ⟨_, rfl⟩⟩
  | 42, _ => exact ⟨fun h => (by cases h), fun _ => Or.inr ⟨_, rfl⟩⟩
  | 43, _ => exact ⟨fun h => (by cases h), fun _ => Or.inr ⟨_, rfl⟩⟩
  | 44, _ => exact ⟨fun _ => Or.inl rfl, fun h => by cases h⟩
  | 45, _ => exact ⟨fun _ => Or.inl rfl, fun h => by cases h⟩
  | 46, _ => exact ⟨fun h => (by cases h), fun _ => Or.inr ⟨_, rfl⟩⟩
  | 47, _ => exact ⟨fun h => (by cases h), fun _ => Or.inr ⟨_, rfl⟩⟩
  | 48, _ => exact ⟨fun h => (by cases h), fun _ => Or.inr ⟨_, rfl⟩⟩
  | 49, _ => exact ⟨fun h => (by cases h), fun _ => Or.inr ⟨_, rfl⟩⟩
  | 50, _ => exact ⟨fun h => (by cases h), fun _ => Or.inr ⟨_, rfl⟩⟩
  | 51, _ => exact ⟨fun _ => Or.inr rfl, fun h => by cases h⟩
  | 52, _ => exact ⟨fun _ => Or.inr rfl, fun h => by cases h⟩
  | 53, _ => exact ⟨fun _ => Or.inl rfl, fun h => by cases h⟩
  | 54, _ => exact ⟨fun h => (by cases h), fun _ => Or.inr ⟨_, rfl⟩⟩
  | q + 55, h => exact absurd h (by omega)
theorem kc_12 : KC 12 RX12 TX12 tyX12 := ⟨rfl, by decide, fun w hw => by obtain ⟨j, hj, rfl⟩ := List.mem_map.mp hw; exact mg _ (lay_12 j (List.mem_range.mp hj)) (gl_12 j (List.mem_range.mp hj)), tyX12_ok, nmX12, tk_12⟩
/-! ===== fields ===== -/
theorem fr_X11_10 : FR RX11 10 11 0 := ⟨⟨_, _, _, kc_11, by decide, mg 442 (by decide +kernel) rfl⟩, rfl⟩
theorem fr_X11_16 : FR RX11 16 11 1 := ⟨⟨_, _, _, kc_11, by decide, mg 443 (by decide +kernel) rfl⟩, rfl⟩
theorem fi_X11_19 : FI RX11 19 11 2 := ⟨⟨_, _, _, kc_11, by decide, mg 444 (by decide +kernel) rfl⟩, rfl, rfl⟩
theorem fr_X11_26 : FR RX11 26 11 3 := ⟨⟨_, _, _, kc_11, by decide, mg 445 (by decide +kernel) rfl⟩, rfl⟩
theorem fr_X11_33 : FR RX11 33 11 4 := ⟨⟨_, _, _, kc_11, by decide, mg 446 (by decide +kernel) rfl⟩, rfl⟩
theorem fr_X11_40 : FR RX11 40 11 5 := ⟨⟨_, _, _, kc_11, by decide, mg 447 (by decide +kernel) rfl⟩, rfl⟩
theorem fr_X11_47 : FR RX11 47 11 6 := ⟨⟨_, _, _, kc_11, by decide, mg 448 (by decide +kernel) rfl⟩, rfl⟩
theorem fi_X11_51 : FI RX11 51 0 9 := ⟨⟨_, _, _, kc_0, by decide, mg 289 (by decide +kernel) rfl⟩, rfl, rfl⟩
theorem fi_X11_60 : FI RX11 60 0 6 := ⟨⟨_, _, _, kc_0, by decide, mg 281 (by decide +kernel) rfl⟩, rfl, rfl⟩
theorem fr_X11_66 : FR RX11 66 0 0 := ⟨⟨_, _, _, kc_0, by decide, mg 267 (by decide +kernel) rfl⟩, rfl⟩
theorem fi_X11_80 : FI RX11 80 0 8 := ⟨⟨_, _, _, kc_0, by decide, mg 287 (by decide +kernel) rfl⟩, rfl, rfl⟩
theorem fi_X11_90 : FI RX11 90 0 7 := ⟨⟨_, _, _, kc_0, by decide, mg 284 (by decide +kernel) rfl⟩, rfl, rfl⟩
theorem fr_X11_93 : FR RX11 93 0 1 := ⟨⟨_, _, _, kc_0, by decide, mg 270 (by decide +kernel) rfl⟩, rfl⟩
theorem fi_X11_106 : FI RX11 106 5 1 := ⟨⟨_, _, _, kc_5, by decide, mg 229 (by decide +kernel) rfl⟩, rfl, rfl⟩
theorem fr_X11_124 : FR RX11 124 0 2 := ⟨⟨_, _, _, kc_0, by decide, mg 272 (by decide +kernel) rfl⟩, rfl⟩
theorem fi_X11_148 : FI RX11 148 5 7 := ⟨⟨_, _, _, kc_5, by decide, mg 247 (by decide +kernel) rfl⟩, rfl, rfl⟩
theorem fi_X11_161 : FI RX11 161 7 1 := ⟨⟨_, _, _, kc_7, by decide, mg 324 (by decide +kernel) rfl⟩, rfl, rfl⟩
theorem fr_X11_168 : FR RX11 168 0 4 := ⟨⟨_, _, _, kc_0, by decide, mg 277 (by decide +kernel) rfl⟩, rfl⟩
theorem fr_X11_172 : FR RX11 172 4 0 := ⟨⟨_, _, _, kc_4, by decide, mg 362 (by decide +kernel) rfl⟩, rfl⟩
theorem fi_X11_181 : FI RX11 181 3 6 := ⟨⟨_, _, _, kc_3, by decide, mg 173 (by decide +kernel) rfl⟩, rfl, rfl⟩
theorem fi_X11_184 : FI RX11 184 4 7 := ⟨⟨_, _, _, kc_4, by decide, mg 370 (by decide +kernel) rfl⟩, rfl, rfl⟩
theorem fi_X11_187 : FI RX11 187 4 8 := ⟨⟨_, _, _, kc_4, by decide, mg 372 (by decide +kernel) rfl⟩, rfl, rfl⟩
theorem fi_X11_190 : FI RX11 190 5 2 := ⟨⟨_, _, _, kc_5, by decide, mg 233 (by decide +kernel) rfl⟩, rfl, rfl⟩
theorem fi_X11_193 : FI RX11 193 5 3 := ⟨⟨_, _, _, kc_5, by decide, mg 236 (by decide +kernel) rfl⟩, rfl, rfl⟩
theorem fi_X11_196 : FI RX11 196 5 4 := ⟨⟨_, _, _, kc_5, by decide, mg 239 (by decide +kernel) rfl⟩, rfl, rfl⟩
theorem fi_X11_199 : FI RX11 199 5 5 := ⟨⟨_, _, _, kc_5, by decide, mg 242 (by decide +kernel) rfl⟩, rfl, rfl⟩
theorem fi_X11_202 : FI RX11 202 5 6 := ⟨⟨_, _, _, kc_5, by decide, mg 245 (by decide +kernel) rfl⟩, rfl, rfl⟩
theorem fi_X11_210 : FI RX11 210 6 0 := ⟨⟨_, _, _, kc_6, by decide, mg 195 (by decide +kernel) rfl⟩, rfl, rfl⟩
theorem fi_X11_213 : FI RX11 213 6 1 := ⟨⟨_, _, _, kc_6, by decide, mg 198 (by decide +kernel) rfl⟩, rfl, rfl⟩
theorem fi_X11_216 : FI RX11 216 6 2 := ⟨⟨_, _, _, kc_6, by decide, mg 200 (by decide +kernel) rfl⟩, rfl, rfl⟩
theorem fi_X11_219 : FI RX11 219 6 3 := ⟨⟨_, _, _, kc_6, by decide, mg 203 (by decide +kernel) rfl⟩, rfl, rfl⟩
theorem fi_X11_222 : FI RX11 222 6 4 := ⟨⟨_, _, _, kc_6, by decide, mg 206 (by decide +kernel) rfl⟩, rfl, rfl⟩
theorem fr_X11_232 : FR RX11 232 0 3 := ⟨⟨_, _, _, kc_0, by decide, mg 275 (by decide +kernel) rfl⟩, rfl⟩
theorem fi_X11_262 : FI RX11 262 8 2 := ⟨⟨_, _, _, kc_8, by decide, mg 426 (by decide +kernel) rfl⟩, rfl, rfl⟩
theorem fi_X11_265 : FI RX11 265 8 3 := ⟨⟨_, _, _, kc_8, by decide, mg 428 (by decide +kernel) rfl⟩, rfl, rfl⟩
theorem fi_X11_268 : FI RX11 268 8 4 := ⟨⟨_, _, _, kc_8, by decide, mg 430 (by decide +kernel) rfl⟩, rfl, rfl⟩
theorem fi_X11_286 : FI RX11 286 10 3 := ⟨⟨_, _, _, kc_10, by decide, mg 404 (by decide +kernel) rfl⟩, rfl, rfl⟩
theorem fi_X11_294 : FI RX11 294 5 0 := ⟨⟨_, _, _, kc_5, by decide, mg 226 (by decide +kernel) rfl⟩, rfl, rfl⟩
theorem fi_X11_305 : FI RX11 305 1 1 := ⟨⟨_, _, _, kc_1, by decide, mg 125 (by decide +kernel) rfl⟩, rfl, rfl⟩
theorem fi_X11_306 : FI RX11 306 2 4 := ⟨⟨_, _, _, kc_2, by decide, mg 148 (by decide +kernel) rfl⟩, rfl, rfl⟩
theorem fi_X11_307 : FI RX11 307 0 10 := ⟨⟨_, _, _, kc_0, by decide, mg 291 (by decide +kernel) rfl⟩, rfl, rfl⟩
theorem fr_X0_11 : FR RX0 11 0 0 := ⟨⟨_, _, _, kc_0, by decide, mg 266 (by decide +kernel) rfl⟩, rfl⟩
theorem fr_X0_19 : FR RX0 19 0 1 := ⟨⟨_, _, _, kc_0, by decide, mg 268 (by decide +kernel) rfl⟩, rfl⟩
theorem fr_X0_26 : FR RX0 26 0 2 := ⟨⟨_, _, _, kc_0, by decide, mg 271 (by decide +kernel) rfl⟩, rfl⟩
theorem fr_X0_33 : FR RX0 33 0 3 := ⟨⟨_, _, _, kc_0, by decide, mg 273 (by decide +kernel) rfl⟩, rfl⟩
theorem fr_X0_40 : FR RX0 40 0 4 := ⟨⟨_, _, _, kc_0, by decide, mg 276 (by decide +kernel) rfl⟩, rfl⟩
theorem fr_X0_46 : FR RX0 46 0 5 := ⟨⟨_, _, _, kc_0, by decide, mg 278 (by decide +kernel) rfl⟩, rfl⟩
theorem fi_X0_50 : FI RX0 50 0 6 := ⟨⟨_, _, _, kc_0, by decide, mg 279 (by decide +kernel) rfl⟩, rfl, rfl⟩
theorem fi_X0_54 : FI RX0 54 0 7 := ⟨⟨_, _, _, kc_0, by decide, mg 282 (by decide +kernel) rfl⟩, rfl, rfl⟩
theorem fi_X0_57 : FI RX0 57 0 8 := ⟨⟨_, _, _, kc_0, by decide, mg 285 (by decide +kernel) rfl⟩, rfl, rfl⟩
theorem fi_X0_60 : FI RX0 60 0 9 := ⟨⟨_, _, _, kc_0, by decide, mg 288 (by decide +kernel) rfl⟩, rfl, rfl⟩
theorem fi_X0_63 : FI RX0 63 0 10 := ⟨⟨_, _, _, kc_0, by decide, mg 290 (by decide +kernel) rfl⟩, rfl, rfl⟩
theorem fi_X0_72 : FI RX0 72 5 3 := ⟨⟨_, _, _, kc_5, by decide, mg 235 (by decide +kernel) rfl⟩, rfl, rfl⟩
theorem fi_X0_79 : FI RX0 79 5 4 := ⟨⟨_, _, _, kc_5, by decide, mg 238 (by decide +kernel) rfl⟩, rfl, rfl⟩
theorem fi_X0_86 : FI RX0 86 5 6 := ⟨⟨_, _, _, kc_5, by decide, mg 244 (by decide +kernel) rfl⟩, rfl, rfl⟩
theorem fi_X0_89 : FI RX0 89 5 2 := ⟨⟨_, _, _, kc_5, by decide, mg 231 (by decide +kernel) rfl⟩, rfl, rfl⟩
theorem fi_X0_92 : FI RX0 92 5 5 := ⟨⟨_, _, _, kc_5, by decide, mg 241 (by decide +kernel) rfl⟩, rfl, rfl⟩
theorem fi_X0_95 : FI RX0 95 5 1 := ⟨⟨_, _, _, kc_5, by decide, mg 228 (by decide +kernel) rfl⟩, rfl, rfl⟩
theorem fi_X0_98 : FI RX0 98 6 3 := ⟨⟨_, _, _, kc_6, by decide, mg 202 (by decide +kernel) rfl⟩, rfl, rfl⟩
theorem fi_X0_105 : FI RX0 105 5 0 := ⟨⟨_, _, _, kc_5, by decide, mg 225 (by decide +kernel) rfl⟩, rfl, rfl⟩
theorem fi_X0_130 : FI RX0 130 6 4 := ⟨⟨_, _, _, kc_6, by decide, mg 205 (by decide +kernel) rfl⟩, rfl, rfl⟩
theorem fi_X0_141 : FI RX0 141 5 7 := ⟨⟨_, _, _, kc_5, by decide, mg 248 (by decide +kernel) rfl⟩, rfl, rfl⟩
theorem fi_X0_150 : FI RX0 150 1 1 := ⟨⟨_, _, _, kc_1, by decide, mg 124 (by decide +kernel) rfl⟩, rfl, rfl⟩
theorem fr_X1_11 : FR RX1 11 1 0 := ⟨⟨_, _, _, kc_1, by decide, mg 122 (by decide +kernel) rfl⟩, rfl⟩
theorem fi_X1_15 : FI RX1 15 1 1 := ⟨⟨_, _, _, kc_1, by decide, mg 123 (by decide +kernel) rfl⟩, rfl, rfl⟩
theorem fr_X2_11 : FR RX2 11 2 0 := ⟨⟨_, _, _, kc_2, by decide, mg 138 (by decide +kernel) rfl⟩, rfl⟩
theorem fr_X2_15 : FR RX2 15 2 1 := ⟨⟨_, _, _, kc_2, by decide, mg 140 (by decide +kernel) rfl⟩, rfl⟩
theorem fr_X2_18 : FR RX2 18 2 2 := ⟨⟨_, _, _, kc_2, by decide, mg 142 (by decide +kernel) rfl⟩, rfl⟩
theorem fr_X2_21 : FR RX2 21 2 3 := ⟨⟨_, _, _, kc_2, by decide, mg 144 (by decide +kernel) rfl⟩, rfl⟩
theorem fi_X2_24 : FI RX2 24 2 4 := ⟨⟨_, _, _, kc_2, by decide, mg 146 (by decide +kernel) rfl⟩, rfl, rfl⟩
theorem fr_X3_11 : FR RX3 11 3 0 := ⟨⟨_, _, _, kc_3, by decide, mg 166 (by decide +kernel) rfl⟩, rfl⟩
theorem fr_X3_17 : FR RX3 17 3 1 := ⟨⟨_, _, _, kc_3, by decide, mg 167 (by decide +kernel) rfl⟩, rfl⟩
theorem fr_X3_20 : FR RX3 20 3 2 := ⟨⟨_, _, _, kc_3, by decide, mg 168 (by decide +kernel) rfl⟩, rfl⟩
theorem fr_X3_23 : FR RX3 23 3 3 := ⟨⟨_, _, _, kc_3, by decide, mg 169 (by decide +kernel) rfl⟩, rfl⟩
theorem fr_X3_26 : FR RX3 26 3 4 := ⟨⟨_, _, _, kc_3, by decide, mg 170 (by decide +kernel) rfl⟩, rfl⟩
theorem fi_X3_29 : FI RX3 29 3 5 := ⟨⟨_, _, _, kc_3, by decide, mg 171 (by decide +kernel) rfl⟩, rfl, rfl⟩
theorem fi_X3_33 : FI RX3 33 3 6 := ⟨⟨_, _, _, kc_3, by decide, mg 172 (by decide +kernel) rfl⟩, rfl, rfl⟩
theorem fr_X4_12 : FR RX4 12 4 0 := ⟨⟨_, _, _, kc_4, by decide, mg 361 (by decide +kernel) rfl⟩, rfl⟩
theorem fr_X4_21 : FR RX4 21 4 1 := ⟨⟨_, _, _, kc_4, by decide, mg 363 (by decide +kernel) rfl⟩, rfl⟩
theorem fr_X4_25 : FR RX4 25 4 2 := ⟨⟨_, _, _, kc_4, by decide, mg 364 (by decide +kernel) rfl⟩, rfl⟩
theorem fi_X4_29 : FI RX4 29 4 3 := ⟨⟨_, _, _, kc_4, by decide, mg 365 (by decide +kernel) rfl⟩, rfl, rfl⟩
theorem fi_X4_33 : FI RX4 33 4 4 := ⟨⟨_, _, _, kc_4, by decide, mg 366 (by decide +kernel) rfl⟩, rfl, rfl⟩
theorem fi_X4_36 : FI RX4 36 4 5 := ⟨⟨_, _, _, kc_4, by decide, mg 367 (by decide +kernel) rfl⟩, rfl, rfl⟩
theorem fi_X4_39 : FI RX4 39 4 6 := ⟨⟨_, _, _, kc_4, by decide, mg 368 (by decide +kernel) rfl⟩, rfl, rfl⟩
theorem fi_X4_43 : FI RX4 43 4 7 := ⟨⟨_, _, _, kc_4, by decide, mg 369 (by decide +kernel) rfl⟩, rfl, rfl⟩
theorem fi_X4_58 : FI RX4 58 9 2 := ⟨⟨_, _, _, kc_9, by decide, mg 349 (by decide +kernel) rfl⟩, rfl, rfl⟩
theorem fi_X4_84 : FI RX4 84 9 0 := ⟨⟨_, _, _, kc_9, by decide, mg 346 (by decide +kernel) rfl⟩, rfl, rfl⟩
theorem fi_X4_97 : FI RX4 97 9 3 := ⟨⟨_, _, _, kc_9, by decide, mg 351 (by decide +kernel) rfl⟩, rfl, rfl⟩
theorem fi_X5_9 : FI RX5 9 5 0 := ⟨⟨_, _, _, kc_5, by decide, mg 223 (by decide +kernel) rfl⟩, rfl, rfl⟩
theorem fi_X5_15 : FI RX5 15 5 1 := ⟨⟨_, _, _, kc_5, by decide, mg 227 (by decide +kernel) rfl⟩, rfl, rfl⟩
theorem fi_X5_18 : FI RX5 18 5 2 := ⟨⟨_, _, _, kc_5, by decide, mg 230 (by decide +kernel) rfl⟩, rfl, rfl⟩
theorem fi_X5_21 : FI RX5 21 5 7 := ⟨⟨_, _, _, kc_5, by decide, mg 246 (by decide +kernel) rfl⟩, rfl, rfl⟩
theorem fi_X5_28 : FI RX5 28 5 3 := ⟨⟨_, _, _, kc_5, by decide, mg 234 (by decide +kernel) rfl⟩, rfl, rfl⟩
theorem fi_X5_31 : FI RX5 31 5 4 := ⟨⟨_, _, _, kc_5, by decide, mg 237 (by decide +kernel) rfl⟩, rfl, rfl⟩
theorem fi_X5_34 : FI RX5 34 5 5 := ⟨⟨_, _, _, kc_5, by decide, mg 240 (by decide +kernel) rfl⟩, rfl, rfl⟩
theorem fi_X5_37 : FI RX5 37 5 6 := ⟨⟨_, _, _, kc_5, by decide, mg 243 (by decide +kernel) rfl⟩, rfl, rfl⟩
theorem fi_X6_9 : FI RX6 9 6 0 := ⟨⟨_, _, _, kc_6, by decide, mg 194 (by decide +kernel) rfl⟩, rfl, rfl⟩
theorem fi_X6_15 : FI RX6 15 6 1 := ⟨⟨_, _, _, kc_6, by decide, mg 196 (by decide +kernel) rfl⟩, rfl, rfl⟩
theorem fi_X6_18 : FI RX6 18 6 2 := ⟨⟨_, _, _, kc_6, by decide, mg 199 (by decide +kernel) rfl⟩, rfl, rfl⟩
theorem fi_X6_21 : FI RX6 21 6 3 := ⟨⟨_, _, _, kc_6, by decide, mg 201 (by decide +kernel) rfl⟩, rfl, rfl⟩
theorem fi_X6_24 : FI RX6 24 6 4 := ⟨⟨_, _, _, kc_6, by decide, mg 204 (by decide +kernel) rfl⟩, rfl, rfl⟩
theorem fr_X7_11 : FR RX7 11 7 0 := ⟨⟨_, _, _, kc_7, by decide, mg 321 (by decide +kernel) rfl⟩, rfl⟩
theorem fi_X7_15 : FI RX7 15 7 1 := ⟨⟨_, _, _, kc_7, by decide, mg 322 (by decide +kernel) rfl⟩, rfl, rfl⟩
theorem fr_X8_9 : FR RX8 9 8 0 := ⟨⟨_, _, _, kc_8, by decide, mg 423 (by decide +kernel) rfl⟩, rfl⟩
theorem fr_X8_18 : FR RX8 18 8 1 := ⟨⟨_, _, _, kc_8, by decide, mg 424 (by decide +kernel) rfl⟩, rfl⟩
theorem fi_X8_22 : FI RX8 22 8 2 := ⟨⟨_, _, _, kc_8, by decide, mg 425 (by decide +kernel) rfl⟩, rfl, rfl⟩
theorem fi_X8_32 : FI RX8 32 0 7 := ⟨⟨_, _, _, kc_0, by decide, mg 283 (by decide +kernel) rfl⟩, rfl, rfl⟩
theorem fr_X8_37 : FR RX8 37 0 1 := ⟨⟨_, _, _, kc_0, by decide, mg 269 (by decide +kernel) rfl⟩, rfl⟩
theorem fi_X8_45 : FI RX8 45 0 6 := ⟨⟨_, _, _, kc_0, by decide, mg 280 (by decide +kernel) rfl⟩, rfl, rfl⟩
theorem fi_X8_48 : FI RX8 48 0 8 := ⟨⟨_, _, _, kc_0, by decide, mg 286 (by decide +kernel) rfl⟩, rfl, rfl⟩
theorem fr_X8_77 : FR RX8 77 0 3 := ⟨⟨_, _, _, kc_0, by decide, mg 274 (by decide +kernel) rfl⟩, rfl⟩
theorem fi_X8_81 : FI RX8 81 2 4 := ⟨⟨_, _, _, kc_2, by decide, mg 147 (by decide +kernel) rfl⟩, rfl, rfl⟩
theorem fr_X8_86 : FR RX8 86 2 0 := ⟨⟨_, _, _, kc_2, by decide, mg 139 (by decide +kernel) rfl⟩, rfl⟩
theorem fi_X8_88 : FI RX8 88 5 0 := ⟨⟨_, _, _, kc_5, by decide, mg 224 (by decide +kernel) rfl⟩, rfl, rfl⟩
theorem fr_X8_91 : FR RX8 91 2 1 := ⟨⟨_, _, _, kc_2, by decide, mg 141 (by decide +kernel) rfl⟩, rfl⟩
theorem fr_X8_98 : FR RX8 98 2 2 := ⟨⟨_, _, _, kc_2, by decide, mg 143 (by decide +kernel) rfl⟩, rfl⟩
theorem fr_X8_101 : FR RX8 101 2 3 := ⟨⟨_, _, _, kc_2, by decide, mg 145 (by decide +kernel) rfl⟩, rfl⟩
theorem fi_X8_120 : FI RX8 120 5 2 := ⟨⟨_, _, _, kc_5, by decide, mg 232 (by decide +kernel) rfl⟩, rfl, rfl⟩
theorem fi_X9_11 : FI RX9 11 9 0 := ⟨⟨_, _, _, kc_9, by decide, mg 345 (by decide +kernel) rfl⟩, rfl, rfl⟩
theorem fi_X9_15 : FI RX9 15 9 1 := ⟨⟨_, _, _, kc_9, by decide, mg 347 (by decide +kernel) rfl⟩, rfl, rfl⟩
theorem fi_X9_18 : FI RX9 18 9 2 := ⟨⟨_, _, _, kc_9, by decide, mg 348 (by decide +kernel) rfl⟩, rfl, rfl⟩
theorem fi_X9_21 : FI RX9 21 9 3 := ⟨⟨_, _, _, kc_9, by decide, mg 350 (by decide +kernel) rfl⟩, rfl, rfl⟩
theorem fi_X9_24 : FI RX9 24 7 1 := ⟨⟨_, _, _, kc_7, by decide, mg 323 (by decide +kernel) rfl⟩, rfl, rfl⟩
theorem fr_X10_11 : FR RX10 11 10 0 := ⟨⟨_, _, _, kc_10, by decide, mg 400 (by decide +kernel) rfl⟩, rfl⟩
theorem fr_X10_15 : FR RX10 15 10 1 := ⟨⟨_, _, _, kc_10, by decide, mg 401 (by decide +kernel) rfl⟩, rfl⟩
theorem fi_X10_19 : FI RX10 19 10 2 := ⟨⟨_, _, _, kc_10, by decide, mg 402 (by decide +kernel) rfl⟩, rfl, rfl⟩
theorem fi_X10_23 : FI RX10 23 10 3 := ⟨⟨_, _, _, kc_10, by decide, mg 403 (by decide +kernel) rfl⟩, rfl, rfl⟩
theorem fr_X12_7 : FR RX12 7 12 4 := ⟨⟨_, _, _, kc_12, by decide, mg 1116 (by decide +kernel) rfl⟩, rfl⟩
theorem fr_X12_13 : FR RX12 13 12 5 := ⟨⟨_, _, _, kc_12, by decide, mg 1117 (by decide +kernel) rfl⟩, rfl⟩
theorem fr_X12_16 : FR RX12 16 12 6 := ⟨⟨_, _, _, kc_12, by decide, mg 1118 (by decide +kernel) rfl⟩, rfl⟩
theorem fr_X12_19 : FR RX12 19 12 7 := ⟨⟨_, _, _, kc_12, by decide, mg 1119 (by decide +kernel) rfl⟩, rfl⟩
theorem fr_X12_22 : FR RX12 22 12 8 := ⟨⟨_, _, _, kc_12, by decide, mg 1120 (by decide +kernel) rfl⟩, rfl⟩
theorem fr_X12_25 : FR RX12 25 12 11 := ⟨⟨_, _, _, kc_12, by decide, mg 1123 (by decide +kernel) rfl⟩, rfl⟩
theorem fr_X12_28 : FR RX12 28 12 12 := ⟨⟨_, _, _, kc_12, by decide, mg 1124 (by decide +kernel) rfl⟩, rfl⟩
theorem fr_X12_31 : FR RX12 31 12 13 := ⟨⟨_, _, _, kc_12, by decide, mg 1125 (by decide +kernel) rfl⟩, rfl⟩
theorem fr_X12_34 : FR RX12 34 12 14 := ⟨⟨_, _, _, kc_12, by decide, mg 1126 (by decide +kernel) rfl⟩, rfl⟩
theorem fr_X12_37 : FR RX12 37 12 15 := ⟨⟨_, _, _, kc_12, by decide, mg 1127 (by decide +kernel) rfl⟩, rfl⟩
theorem fr_X12_40 : FR RX12 40 12 16 := ⟨⟨_, _, _, kc_12, by decide, mg 1128 (by decide +kernel) rfl⟩, rfl⟩
theorem fr_X12_43 : FR RX12 43 12 17 := ⟨⟨_, _, _, kc_12, by decide, mg 1129 (by decide +kernel) rfl⟩, rfl⟩
theorem fr_X12_46 : FR RX12 46 12 19 := ⟨⟨_, _, _, kc_12, by decide, mg 1131 (by decide +kernel) rfl⟩, rfl⟩
theorem fr_X12_49 : FR RX12 49 12 20 := ⟨⟨_, _, _, kc_12, by decide, mg 1132 (by decide +kernel) rfl⟩, rfl⟩
theorem fr_X12_52 : FR RX12 52 12 26 := ⟨⟨_, _, _, kc_12, by decide, mg 1138 (by decide +kernel) rfl⟩, rfl⟩
theorem fr_X12_55 : FR RX12 55 12 28 := ⟨⟨_, _, _, kc_12, by decide, mg 1140 (by decide +kernel) rfl⟩, rfl⟩
theorem fr_X12_58 : FR RX12 58 12 29 := ⟨⟨_, _, _, kc_12, by decide, mg 1141 (by decide +kernel) rfl⟩, rfl⟩
theorem fr_X12_61 : FR RX12 61 12 30 := ⟨⟨_, _, _, kc_12, by decide, mg 1142 (by decide +kernel) rfl⟩, rfl⟩
theorem fr_X12_64 : FR RX12 64 12 31 := ⟨⟨_, _, _, kc_12, by decide, mg 1143 (by decide +kernel) rfl⟩, rfl⟩
theorem fr_X12_67 : FR RX12 67 12 32 := ⟨⟨_, _, _, kc_12, by decide, mg 1144 (by decide +kernel) rfl⟩, rfl⟩
theorem fr_X12_70 : FR RX12 70 12 35 := ⟨⟨_, _, _, kc_12, by decide, mg 1147 (by decide +kernel) rfl⟩, rfl⟩
theorem fi_X12_73 : FM RX12 73 12 40 := ⟨⟨_, _, _, kc_12, by decide, mg 1152 (by decide +kernel) rfl⟩, rfl, rfl⟩
theorem fr_X12_77 : FR RX12 77 12 41 := ⟨⟨_, _, _, kc_12, by decide, mg 1153 (by decide +kernel) rfl⟩, rfl⟩
theorem fr_X12_80 : FR RX12 80 12 42 := ⟨⟨_, _, _, kc_12, by decide, mg 1154 (by decide +kernel) rfl⟩, rfl⟩
theorem fr_X12_83 : FR RX12 83 12 43 := ⟨⟨_, _, _, kc_12, by decide, mg 1155 (by decide +kernel) rfl⟩, rfl⟩
theorem fr_X12_86 : FR RX12 86 12 46 := ⟨⟨_, _, _, kc_12, by decide, mg 1158 (by decide +kernel) rfl⟩, rfl⟩
theorem fr_X12_89 : FR RX12 89 12 47 := ⟨⟨_, _, _, kc_12, by decide, mg 1159 (by decide +kernel) rfl⟩, rfl⟩
theorem fr_X12_92 : FR RX12 92 12 48 := ⟨⟨_, _, _, kc_12, by decide, mg 1160 (by decide +kernel) rfl⟩, rfl⟩
theorem fr_X12_95 : FR RX12 95 12 49 := ⟨⟨_, _, _, kc_12, by decide, mg 1161 (by decide +kernel) rfl⟩, rfl⟩
theorem fr_X12_98 : FR RX12 98 12 50 := ⟨⟨_, _, _, kc_12, by decide, mg 1162 (by decide +kernel) rfl⟩, rfl⟩
theorem fr_X12_101 : FR RX12 101 12 54 := ⟨⟨_, _, _, kc_12, by decide, mg 1166 (by decide +kernel) rfl⟩, rfl⟩
theorem fi_X12_107 : FM RX12 107 12 1 := ⟨⟨_, _, _, kc_12, by decide, mg 1113 (by decide +kernel) rfl⟩, rfl, rfl⟩
theorem fi_X12_112 : FM RX12 112 12 3 := ⟨⟨_, _, _, kc_12, by decide, mg 1115 (by decide +kernel) rfl⟩, rfl, rfl⟩
theorem fi_X12_120 : FM RX12 120 12 44 := ⟨⟨_, _, _, kc_12, by decide, mg 1156 (by decide +kernel) rfl⟩, rfl, rfl⟩
theorem fi_X12_127 : FM RX12 127 12 2 := ⟨⟨_, _, _, kc_12, by decide, mg 1114 (by decide +kernel) rfl⟩, rfl, rfl⟩
theorem fi_X12_130 : FM RX12 130 12 10 := ⟨⟨_, _, _, kc_12, by decide, mg 1122 (by decide +kernel) rfl⟩, rfl, rfl⟩
theorem fi_X12_147 : FM RX12 147 12 21 := ⟨⟨_, _, _, kc_12, by decide, mg 1133 (by decide +kernel) rfl⟩, rfl, rfl⟩
theorem fi_X12_153 : FM RX12 153 12 22 := ⟨⟨_, _, _, kc_12, by decide, mg 1134 (by decide +kernel) rfl⟩, rfl, rfl⟩
theorem fi_X12_160 : FM RX12 160 12 23 := ⟨⟨_, _, _, kc_12, by decide, mg 1135 (by decide +kernel) rfl⟩, rfl, rfl⟩
theorem fi_X12_163 : FM RX12 163 12 24 := ⟨⟨_, _, _, kc_12, by decide, mg 1136 (by decide +kernel) rfl⟩, rfl, rfl⟩
theorem fi_X12_166 : FM RX12 166 12 25 := ⟨⟨_, _, _, kc_12, by decide, mg 1137 (by decide +kernel) rfl⟩, rfl, rfl⟩
theorem fi_X12_182 : FM RX12 182 12 37 := ⟨⟨_, _, _, kc_12, by decide, mg 1149 (by decide +kernel) rfl⟩, rfl, rfl⟩
theorem fi_X12_185 : FM RX12 185 12 38 := ⟨⟨_, _, _, kc_12, by decide, mg 1150 (by decide +kernel) rfl⟩, rfl, rfl⟩
theorem fi_X12_188 : FM RX12 188 12 33 := ⟨⟨_, _, _, kc_12, by decide, mg 1145 (by decide +kernel) rfl⟩, rfl, rfl⟩
theorem fi_X12_214 : FM RX12 214 12 36 := ⟨⟨_, _, _, kc_12, by decide, mg 1148 (by decide +kernel) rfl⟩, rfl, rfl⟩
theorem fi_X12_217 : FM RX12 217 12 34 := ⟨⟨_, _, _, kc_12, by decide, mg 1146 (by decide +kernel) rfl⟩, rfl, rfl⟩
theorem fi_X12_235 : FM RX12 235 12 39 := ⟨⟨_, _, _, kc_12, by decide, mg 1151 (by decide +kernel) rfl⟩, rfl, rfl⟩
theorem fi_X12_241 : FM RX12 241 12 27 := ⟨⟨_, _, _, kc_12, by decide, mg 1139 (by decide +kernel) rfl⟩, rfl, rfl⟩
theorem fi_X12_260 : FM RX12 260 12 18 := ⟨⟨_, _, _, kc_12, by decide, mg 1130 (by decide +kernel) rfl⟩, rfl, rfl⟩
theorem fi_X12_276 : FM RX12 276 12 9 := ⟨⟨_, _, _, kc_12, by decide, mg 1121 (by decide +kernel) rfl⟩, rfl, rfl⟩
theorem fi_X12_289 : FM RX12 289 12 45 := ⟨⟨_, _, _, kc_12, by decide, mg 1157 (by decide +kernel) rfl⟩, rfl, rfl⟩
theorem fi_X12_322 : FM RX12 322 12 53 := ⟨⟨_, _, _, kc_12, by decide, mg 1165 (by decide +kernel) rfl⟩, rfl, rfl⟩
theorem fi_X12_325 : FM RX12 325 12 51 := ⟨⟨_, _, _, kc_12, by decide, mg 1163 (by decide +kernel) rfl⟩, rfl, rfl⟩
theorem fi_X12_332 : FM RX12 332 12 52 := ⟨⟨_, _, _, kc_12, by decide, mg 1164 (by decide +kernel) rfl⟩, rfl, rfl⟩
theorem fp_X11_19 : FPZ RX11 19 11 2 := ⟨⟨_, _, _, kc_11, by decide, mg 444 (by decide +kernel) rfl, rfl, by decide⟩, rfl, rfl⟩
theorem fp_X11_51 : FPI RX11 51 0 9 := ⟨⟨_, _, _, kc_0, by decide, mg 289 (by decide +kernel) rfl, rfl, by decide⟩, rfl, rfl⟩
theorem fp_X11_60 : FPI RX11 60 0 6 := ⟨⟨_, _, _, kc_0, by decide, mg 281 (by decide +kernel) rfl, rfl, by decide⟩, rfl, rfl⟩
theorem fp_X11_90 : FPI RX11 90 0 7 := ⟨⟨_, _, _, kc_0, by decide, mg 284 (by decide +kernel) rfl, rfl, by decide⟩, rfl, rfl⟩
theorem fp_X11_106 : FPI RX11 106 5 1 := ⟨⟨_, _, _, kc_5, by decide, mg 229 (by decide +kernel) rfl, rfl, by decide⟩, rfl, rfl⟩
theorem fp_X11_148 : FPI RX11 148 5 7 := ⟨⟨_, _, _, kc_5, by decide, mg 247 (by decide +kernel) rfl, rfl, by decide⟩, rfl, rfl⟩
theorem fp_X11_161 : FPI RX11 161 7 1 := ⟨⟨_, _, _, kc_7, by decide, mg 324 (by decide +kernel) rfl, rfl, by decide⟩, rfl, rfl⟩
theorem fp_X0_50 : FPI RX0 50 0 6 := ⟨⟨_, _, _, kc_0, by decide, mg 279 (by decide +kernel) rfl, rfl, by decide⟩, rfl, rfl⟩
theorem fp_X0_54 : FPI RX0 54 0 7 := ⟨⟨_, _, _, kc_0, by decide, mg 282 (by decide +kernel) rfl, rfl, by decide⟩, rfl, rfl⟩
theorem fp_X0_57 : FPI RX0 57 0 8 := ⟨⟨_, _, _, kc_0, by decide, mg 285 (by decide +kernel) rfl, rfl, by decide⟩, rfl, rfl⟩
theorem fp_X0_60 : FPI RX0 60 0 9 := ⟨⟨_, _, _, kc_0, by decide, mg 288 (by decide +kernel) rfl, rfl, by decide⟩, rfl, rfl⟩
theorem fp_X0_63 : FPI RX0 63 0 10 := ⟨⟨_, _, _, kc_0, by decide, mg 290 (by decide +kernel) rfl, rfl, by decide⟩, rfl, rfl⟩
theorem fp_X0_95 : FPI RX0 95 5 1 := ⟨⟨_, _, _, kc_5, by decide, mg 228 (by decide +kernel) rfl, rfl, by decide⟩, rfl, rfl⟩
theorem fp_X0_136 : FPI RX0 136 6 1 := ⟨⟨_, _, _, kc_6, by decide, mg 197 (by decide +kernel) rfl, rfl, by decide⟩, rfl, rfl⟩
theorem fp_X0_141 : FPI RX0 141 5 7 := ⟨⟨_, _, _, kc_5, by decide, mg 248 (by decide +kernel) rfl, rfl, by decide⟩, rfl, rfl⟩
theorem fp_X1_15 : FPI RX1 15 1 1 := ⟨⟨_, _, _, kc_1, by decide, mg 123 (by decide +kernel) rfl, rfl, by decide⟩, rfl, rfl⟩
theorem fp_X2_24 : FPI RX2 24 2 4 := ⟨⟨_, _, _, kc_2, by decide, mg 146 (by decide +kernel) rfl, rfl, by decide⟩, rfl, rfl⟩
theorem fp_X3_29 : FPI RX3 29 3 5 := ⟨⟨_, _, _, kc_3, by decide, mg 171 (by decide +kernel) rfl, rfl, by decide⟩, rfl, rfl⟩
theorem fp_X3_33 : FPI RX3 33 3 6 := ⟨⟨_, _, _, kc_3, by decide, mg 172 (by decide +kernel) rfl, rfl, by decide⟩, rfl, rfl⟩
theorem fp_X4_29 : FPI RX4 29 4 3 := ⟨⟨_, _, _, kc_4, by decide, mg 365 (by decide +kernel) rfl, rfl, by decide⟩, rfl, rfl⟩
theorem fp_X4_33 : FPI RX4 33 4 4 := ⟨⟨_, _, _, kc_4, by decide, mg 366 (by decide +kernel) rfl, rfl, by decide⟩, rfl, rfl⟩
theorem fp_X4_36 : FPI RX4 36 4 5 := ⟨⟨_, _, _, kc_4, by decide, mg 367 (by decide +kernel) rfl, rfl, by decide⟩, rfl, rfl⟩
theorem fp_X4_39 : FPZ RX4 39 4 6 := ⟨⟨_, _, _, kc_4, by decide, mg 368 (by decide +kernel) rfl, rfl, by decide⟩, rfl, rfl⟩
theorem fp_X4_43 : FPI RX4 43 4 7 := ⟨⟨_, _, _, kc_4, by decide, mg 369 (by decide +kernel) rfl, rfl, by decide⟩, rfl, rfl⟩
theorem fp_X4_46 : FPI RX4 46 4 8 := ⟨⟨_, _, _, kc_4, by decide, mg 371 (by decide +kernel) rfl, rfl, by decide⟩, rfl, rfl⟩
theorem fp_X5_9 : FPI RX5 9 5 0 := ⟨⟨_, _, _, kc_5, by decide, mg 223 (by decide +kernel) rfl, rfl, by decide⟩, rfl, rfl⟩
theorem fp_X5_15 : FPI RX5 15 5 1 := ⟨⟨_, _, _, kc_5, by decide, mg 227 (by decide +kernel) rfl, rfl, by decide⟩, rfl, rfl⟩
theorem fp_X5_18 : FPI RX5 18 5 2 := ⟨⟨_, _, _, kc_5, by decide, mg 230 (by decide +kernel) rfl, rfl, by decide⟩, rfl, rfl⟩
theorem fp_X5_21 : FPI RX5 21 5 7 := ⟨⟨_, _, _, kc_5, by decide, mg 246 (by decide +kernel) rfl, rfl, by decide⟩, rfl, rfl⟩
theorem fp_X5_28 : FPI RX5 28 5 3 := ⟨⟨_, _, _, kc_5, by decide, mg 234 (by decide +kernel) rfl, rfl, by decide⟩, rfl, rfl⟩
theorem fp_X5_31 : FPI RX5 31 5 4 := ⟨⟨_, _, _, kc_5, by decide, mg 237 (by decide +kernel) rfl, rfl, by decide⟩, rfl, rfl⟩
theorem fp_X5_34 : FPI RX5 34 5 5 := ⟨⟨_, _, _, kc_5, by decide, mg 240 (by decide +kernel) rfl, rfl, by decide⟩, rfl, rfl⟩
theorem fp_X5_37 : FPI RX5 37 5 6 := ⟨⟨_, _, _, kc_5, by decide, mg 243 (by decide +kernel) rfl, rfl, by decide⟩, rfl, rfl⟩
theorem fp_X6_9 : FPI RX6 9 6 0 := ⟨⟨_, _, _, kc_6, by decide, mg 194 (by decide +kernel) rfl, rfl, by decide⟩, rfl, rfl⟩
theorem fp_X6_15 : FPI RX6 15 6 1 := ⟨⟨_, _, _, kc_6, by decide, mg 196 (by decide +kernel) rfl, rfl, by decide⟩, rfl, rfl⟩
theorem fp_X6_18 : FPI RX6 18 6 2 := ⟨⟨_, _, _, kc_6, by decide, mg 199 (by decide +kernel) rfl, rfl, by decide⟩, rfl, rfl⟩
theorem fp_X6_21 : FPI RX6 21 6 3 := ⟨⟨_, _, _, kc_6, by decide, mg 201 (by decide +kernel) rfl, rfl, by decide⟩, rfl, rfl⟩
theorem fp_X6_24 : FPI RX6 24 6 4 := ⟨⟨_, _, _, kc_6, by decide, mg 204 (by decide +kernel) rfl, rfl, by decide⟩, rfl, rfl⟩
theorem fp_X7_15 : FPI RX7 15 7 1 := ⟨⟨_, _, _, kc_7, by decide, mg 322 (by decide +kernel) rfl, rfl, by decide⟩, rfl, rfl⟩
theorem fp_X8_22 : FPI RX8 22 8 2 := ⟨⟨_, _, _, kc_8, by decide, mg 425 (by decide +kernel) rfl, rfl, by decide⟩, rfl, rfl⟩
theorem fp_X8_26 : FPI RX8 26 8 3 := ⟨⟨_, _, _, kc_8, by decide, mg 427 (by decide +kernel) rfl, rfl, by decide⟩, rfl, rfl⟩
theorem fp_X8_29 : FPI RX8 29 8 4 := ⟨⟨_, _, _, kc_8, by decide, mg 429 (by decide +kernel) rfl, rfl, by decide⟩, rfl, rfl⟩
theorem fp_X9_11 : FPI RX9 11 9 0 := ⟨⟨_, _, _, kc_9, by decide, mg 345 (by decide +kernel) rfl, rfl, by decide⟩, rfl, rfl⟩
theorem fp_X9_15 : FPI RX9 15 9 1 := ⟨⟨_, _, _, kc_9, by decide, mg 347 (by decide +kernel) rfl, rfl, by decide⟩, rfl, rfl⟩
theorem fp_X9_18 : FPI RX9 18 9 2 := ⟨⟨_, _, _, kc_9, by decide, mg 348 (by decide +kernel) rfl, rfl, by decide⟩, rfl, rfl⟩
theorem fp_X9_21 : FPI RX9 21 9 3 := ⟨⟨_, _, _, kc_9, by decide, mg 350 (by decide +kernel) rfl, rfl, by decide⟩, rfl, rfl⟩
theorem fp_X10_19 : FPI RX10 19 10 2 := ⟨⟨_, _, _, kc_10, by decide, mg 402 (by decide +kernel) rfl, rfl, by decide⟩, rfl, rfl⟩
theorem fp_X10_23 : FPI RX10 23 10 3 := ⟨⟨_, _, _, kc_10, by decide, mg 403 (by decide +kernel) rfl, rfl, by decide⟩, rfl, rfl⟩
theorem fp_X12_73 : FPM RX12 73 12 40 := ⟨⟨_, _, _, kc_12, by decide, mg 1152 (by decide +kernel) rfl, rfl, by decide⟩, rfl, rfl⟩
theorem fp_X12_104 : FPM RX12 104 12 0 := ⟨⟨_, _, _, kc_12, by decide, mg 1112 (by decide +kernel) rfl, rfl, by decide⟩, rfl, rfl⟩
theorem fp_X12_107 : FPM RX12 107 12 1 := ⟨⟨_, _, _, kc_12, by decide, mg 1113 (by decide +kernel) rfl, rfl, by decide⟩, rfl, rfl⟩
theorem fp_X12_112 : FPM RX12 112 12 3 := ⟨⟨_, _, _, kc_12, by decide, mg 1115 (by decide +kernel) rfl, rfl, by decide⟩, rfl, rfl⟩
theorem fp_X12_120 : FPM RX12 120 12 44 := ⟨⟨_, _, _, kc_12, by decide, mg 1156 (by decide +kernel) rfl, rfl, by decide⟩, rfl, rfl⟩
theorem fp_X12_127 : FPM RX12 127 12 2 := ⟨⟨_, _, _, kc_12, by decide, mg 1114 (by decide +kernel) rfl, rfl, by decide⟩, rfl, rfl⟩
theorem fp_X12_130 : FPM RX12 130 12 10 := ⟨⟨_, _, _, kc_12, by decide, mg 1122 (by decide +kernel) rfl, rfl, by decide⟩, rfl, rfl⟩
theorem fp_X12_147 : FPM RX12 147 12 21 := ⟨⟨_, _, _, kc_12, by decide, mg 1133 (by decide +kernel) rfl, rfl, by decide⟩, rfl, rfl⟩
theorem fp_X12_153 : FPM RX12 153 12 22 := ⟨⟨_, _, _, kc_12, by decide, mg 1134 (by decide +kernel) rfl, rfl, by decide⟩, rfl, rfl⟩
theorem fp_X12_160 : FPM RX12 160 12 23 := ⟨⟨_, _, _, kc_12, by decide, mg 1135 (by decide +kernel) rfl, rfl, by decide⟩, rfl, rfl⟩
theorem fp_X12_163 : FPM RX12 163 12 24 := ⟨⟨_, _, _, kc_12, by decide, mg 1136 (by decide +kernel) rfl, rfl, by decide⟩, rfl, rfl⟩
theorem fp_X12_166 : FPM RX12 166 12 25 := ⟨⟨_, _, _, kc_12, by decide, mg 1137 (by decide +kernel) rfl, rfl, by decide⟩, rfl, rfl⟩
theorem fp_X12_182 : FPM RX12 182 12 37 := ⟨⟨_, _, _, kc_12, by decide, mg 1149 (by decide +kernel) rfl, rfl, by decide⟩, rfl, rfl⟩
theorem fp_X12_185 : FPM RX12 185 12 38 := ⟨⟨_, _, _, kc_12, by decide, mg 1150 (by decide +kernel) rfl, rfl, by decide⟩, rfl, rfl⟩
theorem fp_X12_188 : FPM RX12 188 12 33 := ⟨⟨_, _, _, kc_12, by decide, mg 1145 (by decide +kernel) rfl, rfl, by decide⟩, rfl, rfl⟩
theorem fp_X12_214 : FPM RX12 214 12 36 := ⟨⟨_, _, _, kc_12, by decide, mg 1148 (by decide +kernel) rfl, rfl, by decide⟩, rfl, rfl⟩
theorem fp_X12_217 : FPM RX12 217 12 34 := ⟨⟨_, _, _, kc_12, by decide, mg 1146 (by decide +kernel) rfl, rfl, by decide⟩, rfl, rfl⟩
theorem fp_X12_235 : FPM RX12 235 12 39 := ⟨⟨_, _, _, kc_12, by decide, mg 1151 (by decide +kernel) rfl, rfl, by decide⟩, rfl, rfl⟩
theorem fp_X12_241 : FPM RX12 241 12 27 := ⟨⟨_, _, _, kc_12, by decide, mg 1139 (by decide +kernel) rfl, rfl, by decide⟩, rfl, rfl⟩
theorem fp_X12_260 : FPM RX12 260 12 18 := ⟨⟨_, _, _, kc_12, by decide, mg 1130 (by decide +kernel) rfl, rfl, by decide⟩, rfl, rfl⟩
theorem fp_X12_276 : FPM RX12 276 12 9 := ⟨⟨_, _, _, kc_12, by decide, mg 1121 (by decide +kernel) rfl, rfl, by decide⟩, rfl, rfl⟩
theorem fp_X12_289 : FPM RX12 289 12 45 := ⟨⟨_, _, _, kc_12, by decide, mg 1157 (by decide +kernel) rfl, rfl, by decide⟩, rfl, rfl⟩
theorem fp_X12_322 : FPM RX12 322 12 53 := ⟨⟨_, _, _, kc_12, by decide, mg 1165 (by decide +kernel) rfl, rfl, by decide⟩, rfl, rfl⟩
theorem fp_X12_325 : FPZM RX12 325 12 51 := ⟨⟨_, _, _, kc_12, by decide, mg 1163 (by decide +kernel) rfl, rfl, by decide⟩, rfl, rfl⟩
theorem fp_X12_332 : FPZM RX12 332 12 52 := ⟨⟨_, _, _, kc_12, by decide, mg 1164 (by decide +kernel) rfl, rfl, by decide⟩, rfl, rfl⟩
theorem sl_J0_9 : Jvm.Cond.fieldLink RJ0 9 "java/lang/String" "value" "[B" ∈ GT := mg 1594 (by decide +kernel) rfl
theorem sl_J0_15 : Jvm.Cond.fieldLink RJ0 15 "java/lang/String" "coder" "B" ∈ GT := mg 1595 (by decide +kernel) rfl
theorem sl_J0_38 : Jvm.Cond.fieldLink RJ0 38 "java/lang/String" "COMPACT_STRINGS" "Z" ∈ GT := mg 707 (by decide +kernel) rfl
theorem sl_J0_1053 : Jvm.Cond.fieldLink RJ0 1053 "jdk/internal/util/Preconditions" "SIOOBE_FORMATTER" "Ljava/util/function/BiFunction;" ∈ GT := mg 723 (by decide +kernel) rfl
theorem kw_X11_55 : Jvm.Cond.constant RX11 55 (-36500) ∈ GT := mg 472 (by decide +kernel) rfl
theorem kw_X11_209 : Jvm.Cond.constant RX11 209 (-100000) ∈ GT := mg 932 (by decide +kernel) rfl
theorem kw_X0_139 : Jvm.Cond.constant RX0 139 1664525 ∈ GT := mg 627 (by decide +kernel) rfl
theorem kw_X0_140 : Jvm.Cond.constant RX0 140 1013904223 ∈ GT := mg 628 (by decide +kernel) rfl
theorem kw_X12_110 : Jvm.Cond.constant RX12 110 1664525 ∈ GT := mg 1479 (by decide +kernel) rfl
theorem kw_X12_111 : Jvm.Cond.constant RX12 111 1013904223 ∈ GT := mg 1480 (by decide +kernel) rfl
theorem kw_X12_115 : Jvm.Cond.constant RX12 115 (-36500) ∈ GT := mg 1286 (by decide +kernel) rfl
theorem kw_X12_288 : Jvm.Cond.constant RX12 288 (-100000) ∈ GT := mg 1501 (by decide +kernel) rfl
theorem kw_J6_264 : Jvm.Cond.constant RJ6 264 65536 ∈ GT := mg 1004 (by decide +kernel) rfl
theorem kw_J6_265 : Jvm.Cond.constant RJ6 265 1431655765 ∈ GT := mg 990 (by decide +kernel) rfl
theorem kw_J6_266 : Jvm.Cond.constant RJ6 266 858993459 ∈ GT := mg 991 (by decide +kernel) rfl
theorem kw_J6_267 : Jvm.Cond.constant RJ6 267 252645135 ∈ GT := mg 992 (by decide +kernel) rfl
/-! ===== calls ===== -/
theorem mw_X1_31 : MW RX1 31 Lib.Math.abs.name Lib.Math.abs.code 1 := ⟨mg 1036 (by decide +kernel) rfl, mg 1037 (by decide +kernel) rfl, mg 90 (by decide +kernel) rfl, mg 1038 (by decide +kernel) rfl⟩
theorem mw_X3_54 : MW RX3 54 Lib.Math.min.name Lib.Math.min.code 2 := ⟨mg 580 (by decide +kernel) rfl, mg 581 (by decide +kernel) rfl, mg 90 (by decide +kernel) rfl, mg 582 (by decide +kernel) rfl⟩
theorem mw_X3_60 : MW RX3 60 Lib.Math.max.name Lib.Math.max.code 2 := ⟨mg 583 (by decide +kernel) rfl, mg 560 (by decide +kernel) rfl, mg 90 (by decide +kernel) rfl, mg 561 (by decide +kernel) rfl⟩
theorem mw_X6_31 : MW RX6 31 Lib.Math.max.name Lib.Math.max.code 2 := ⟨mg 559 (by decide +kernel) rfl, mg 560 (by decide +kernel) rfl, mg 90 (by decide +kernel) rfl, mg 561 (by decide +kernel) rfl⟩
theorem mw_X8_123 : MW RX8 123 Lib.Math.max.name Lib.Math.max.code 2 := ⟨mg 1013 (by decide +kernel) rfl, mg 560 (by decide +kernel) rfl, mg 90 (by decide +kernel) rfl, mg 561 (by decide +kernel) rfl⟩
theorem mw_X10_31 : MW RX10 31 Lib.Math.min.name Lib.Math.min.code 2 := ⟨mg 596 (by decide +kernel) rfl, mg 581 (by decide +kernel) rfl, mg 90 (by decide +kernel) rfl, mg 582 (by decide +kernel) rfl⟩
theorem mw_J1_38 : MW RJ1 38 Lib.Math.min.name Lib.Math.min.code 2 := ⟨mg 775 (by decide +kernel) rfl, mg 581 (by decide +kernel) rfl, mg 90 (by decide +kernel) rfl, mg 582 (by decide +kernel) rfl⟩
theorem mw_J1_92 : MW RJ1 92 Lib.Math.max.name Lib.Math.max.code 2 := ⟨mg 774 (by decide +kernel) rfl, mg 560 (by decide +kernel) rfl, mg 90 (by decide +kernel) rfl, mg 561 (by decide +kernel) rfl⟩
theorem aw_X1_37 : AW RX1 37 := ⟨mg 1095 (by decide +kernel) rfl, mg 910 (by decide +kernel) rfl, mg 909 (by decide +kernel) rfl, mg 96 (by decide +kernel) rfl⟩
theorem aw_X2_32 : AW RX2 32 := ⟨mg 1100 (by decide +kernel) rfl, mg 910 (by decide +kernel) rfl, mg 909 (by decide +kernel) rfl, mg 96 (by decide +kernel) rfl⟩
theorem aw_X3_71 : AW RX3 71 := ⟨mg 908 (by decide +kernel) rfl, mg 910 (by decide +kernel) rfl, mg 909 (by decide +kernel) rfl, mg 96 (by decide +kernel) rfl⟩
theorem cw_X11_within : Jvm.Cond.code yX11_within cX11_within 3 (some .boolean) ∈ GT := mg 475 (by decide +kernel) rfl
theorem iw_X11_within : Jvm.Cond.initialized yX11_within.cls ∈ GT := mg 77 (by decide +kernel) rfl
theorem sw_X11_within : Jvm.Cond.static yX11_within ∈ GT := mg 474 (by decide +kernel) rfl
theorem lk_X11_56 : LkS RX11 56 yX11_within cX11_within 3 (some .boolean) 3 := ⟨⟨mg 473 (by decide +kernel) rfl, cw_X11_within, iw_X11_within, ⟨by decide, by decide, by decide⟩⟩, sw_X11_within⟩
theorem cw_X10_forget : Jvm.Cond.code yX10_forget cX10_forget 1 none ∈ GT := mg 479 (by decide +kernel) rfl
theorem iw_X10_forget : Jvm.Cond.initialized yX10_forget.cls ∈ GT := mg 87 (by decide +kernel) rfl
theorem nw_X10_forget : Jvm.Cond.instanceMethod yX10_forget ∈ GT := mg 477 (by decide +kernel) rfl
theorem ew_X10_forget : Jvm.Cond.selects RX10 yX10_forget yX10_forget ∈ GT := mg 478 (by decide +kernel) rfl
theorem lk_X11_63 : LkV RX11 63 10 yX10_forget cX10_forget 1 none 0 := ⟨⟨mg 476 (by decide +kernel) rfl, cw_X10_forget, iw_X10_forget, ⟨by decide, by decide, by decide⟩⟩, nw_X10_forget, RX10, _, _, ew_X10_forget, rfl, by decide⟩
theorem cw_X6_become : Jvm.Cond.code yX6_become cX6_become 5 none ∈ GT := mg 483 (by decide +kernel) rfl
theorem iw_X6_become : Jvm.Cond.initialized yX6_become.cls ∈ GT := mg 82 (by decide +kernel) rfl
theorem nw_X6_become : Jvm.Cond.instanceMethod yX6_become ∈ GT := mg 481 (by decide +kernel) rfl
theorem ew_X6_become : Jvm.Cond.selects RX6 yX6_become yX6_become ∈ GT := mg 482 (by decide +kernel) rfl
theorem lk_X11_70 : LkV RX11 70 6 yX6_become cX6_become 5 none 4 := ⟨⟨mg 480 (by decide +kernel) rfl, cw_X6_become, iw_X6_become, ⟨by decide, by decide, by decide⟩⟩, nw_X6_become, RX6, _, _, ew_X6_become, rfl, by decide⟩
theorem cw_X0_readerAt : Jvm.Cond.code yX0_readerAt cX0_readerAt 2 (some (.object "PaperAger$Reader")) ∈ GT := mg 491 (by decide +kernel) rfl
theorem iw_X0_readerAt : Jvm.Cond.initialized yX0_readerAt.cls ∈ GT := mg 78 (by decide +kernel) rfl
theorem nw_X0_readerAt : Jvm.Cond.instanceMethod yX0_readerAt ∈ GT := mg 489 (by decide +kernel) rfl
theorem ew_X0_readerAt : Jvm.Cond.selects RX0 yX0_readerAt yX0_readerAt ∈ GT := mg 490 (by decide +kernel) rfl
theorem lk_X11_76 : LkV RX11 76 0 yX0_readerAt cX0_readerAt 2 (some (.object "PaperAger$Reader")) 1 := ⟨⟨mg 488 (by decide +kernel) rfl, cw_X0_readerAt, iw_X0_readerAt, ⟨by decide, by decide, by decide⟩⟩, nw_X0_readerAt, RX0, _, _, ew_X0_readerAt, rfl, by decide⟩
theorem cw_X6_tell : Jvm.Cond.code yX6_tell cX6_tell 4 (some .boolean) ∈ GT := mg 496 (by decide +kernel) rfl
theorem iw_X6_tell : Jvm.Cond.initialized yX6_tell.cls ∈ GT := mg 82 (by decide +kernel) rfl
theorem nw_X6_tell : Jvm.Cond.instanceMethod yX6_tell ∈ GT := mg 494 (by decide +kernel) rfl
theorem ew_X6_tell : Jvm.Cond.selects RX6 yX6_tell yX6_tell ∈ GT := mg 495 (by decide +kernel) rfl
theorem lk_X11_83 : LkV RX11 83 6 yX6_tell cX6_tell 4 (some .boolean) 3 := ⟨⟨mg 493 (by decide +kernel) rfl, cw_X6_tell, iw_X6_tell, ⟨by decide, by decide, by decide⟩⟩, nw_X6_tell, RX6, _, _, ew_X6_tell, rfl, by decide⟩
theorem cw_X11_isShelf : Jvm.Cond.code yX11_isShelf cX11_isShelf 1 (some .boolean) ∈ GT := mg 504 (by decide +kernel) rfl
theorem iw_X11_isShelf : Jvm.Cond.initialized yX11_isShelf.cls ∈ GT := mg 77 (by decide +kernel) rfl
theorem sw_X11_isShelf : Jvm.Cond.static yX11_isShelf ∈ GT := mg 503 (by decide +kernel) rfl
theorem lk_X11_86 : LkS RX11 86 yX11_isShelf cX11_isShelf 1 (some .boolean) 1 := ⟨⟨mg 502 (by decide +kernel) rfl, cw_X11_isShelf, iw_X11_isShelf, ⟨by decide, by decide, by decide⟩⟩, sw_X11_isShelf⟩
theorem cw_X5_become : Jvm.Cond.code yX5_become cX5_become 4 none ∈ GT := mg 508 (by decide +kernel) rfl
theorem iw_X5_become : Jvm.Cond.initialized yX5_become.cls ∈ GT := mg 83 (by decide +kernel) rfl
theorem nw_X5_become : Jvm.Cond.instanceMethod yX5_become ∈ GT := mg 506 (by decide +kernel) rfl
theorem ew_X5_become : Jvm.Cond.selects RX5 yX5_become yX5_become ∈ GT := mg 507 (by decide +kernel) rfl
theorem lk_X11_97 : LkV RX11 97 5 yX5_become cX5_become 4 none 3 := ⟨⟨mg 505 (by decide +kernel) rfl, cw_X5_become, iw_X5_become, ⟨by decide, by decide, by decide⟩⟩, nw_X5_become, RX5, _, _, ew_X5_become, rfl, by decide⟩
theorem cw_X0_paperAt : Jvm.Cond.code yX0_paperAt cX0_paperAt 2 (some (.object "PaperAger$Paper")) ∈ GT := mg 520 (by decide +kernel) rfl
theorem iw_X0_paperAt : Jvm.Cond.initialized yX0_paperAt.cls ∈ GT := mg 78 (by decide +kernel) rfl
theorem nw_X0_paperAt : Jvm.Cond.instanceMethod yX0_paperAt ∈ GT := mg 518 (by decide +kernel) rfl
theorem ew_X0_paperAt : Jvm.Cond.selects RX0 yX0_paperAt yX0_paperAt ∈ GT := mg 519 (by decide +kernel) rfl
theorem lk_X11_102 : LkV RX11 102 0 yX0_paperAt cX0_paperAt 2 (some (.object "PaperAger$Paper")) 1 := ⟨⟨mg 517 (by decide +kernel) rfl, cw_X0_paperAt, iw_X0_paperAt, ⟨by decide, by decide, by decide⟩⟩, nw_X0_paperAt, RX0, _, _, ew_X0_paperAt, rfl, by decide⟩
theorem cw_X0_changeShelves : Jvm.Cond.code yX0_changeShelves cX0_changeShelves 4 none ∈ GT := mg 528 (by decide +kernel) rfl
theorem iw_X0_changeShelves : Jvm.Cond.initialized yX0_changeShelves.cls ∈ GT := mg 78 (by decide +kernel) rfl
theorem nw_X0_changeShelves : Jvm.Cond.instanceMethod yX0_changeShelves ∈ GT := mg 526 (by decide +kernel) rfl
theorem ew_X0_changeShelves : Jvm.Cond.selects RX0 yX0_changeShelves yX0_changeShelves ∈ GT := mg 527 (by decide +kernel) rfl
theorem lk_X11_109 : LkV RX11 109 0 yX0_changeShelves cX0_changeShelves 4 none 2 := ⟨⟨mg 525 (by decide +kernel) rfl, cw_X0_changeShelves, iw_X0_changeShelves, ⟨by decide, by decide, by decide⟩⟩, nw_X0_changeShelves, RX0, _, _, ew_X0_changeShelves, rfl, by decide⟩
theorem cw_X0_burn : Jvm.Cond.code yX0_burn cX0_burn 3 (some .int) ∈ GT := mg 536 (by decide +kernel) rfl
theorem iw_X0_burn : Jvm.Cond.initialized yX0_burn.cls ∈ GT := mg 78 (by decide +kernel) rfl
theorem nw_X0_burn : Jvm.Cond.instanceMethod yX0_burn ∈ GT := mg 534 (by decide +kernel) rfl
theorem ew_X0_burn : Jvm.Cond.selects RX0 yX0_burn yX0_burn ∈ GT := mg 535 (by decide +kernel) rfl
theorem lk_X11_113 : LkV RX11 113 0 yX0_burn cX0_burn 3 (some .int) 1 := ⟨⟨mg 533 (by decide +kernel) rfl, cw_X0_burn, iw_X0_burn, ⟨by decide, by decide, by decide⟩⟩, nw_X0_burn, RX0, _, _, ew_X0_burn, rfl, by decide⟩
theorem cw_X6_livesOn : Jvm.Cond.code yX6_livesOn cX6_livesOn 2 (some .boolean) ∈ GT := mg 549 (by decide +kernel) rfl
theorem iw_X6_livesOn : Jvm.Cond.initialized yX6_livesOn.cls ∈ GT := mg 82 (by decide +kernel) rfl
theorem nw_X6_livesOn : Jvm.Cond.instanceMethod yX6_livesOn ∈ GT := mg 547 (by decide +kernel) rfl
theorem ew_X6_livesOn : Jvm.Cond.selects RX6 yX6_livesOn yX6_livesOn ∈ GT := mg 548 (by decide +kernel) rfl
theorem lk_X11_117 : LkV RX11 117 6 yX6_livesOn cX6_livesOn 2 (some .boolean) 1 := ⟨⟨mg 546 (by decide +kernel) rfl, cw_X6_livesOn, iw_X6_livesOn, ⟨by decide, by decide, by decide⟩⟩, nw_X6_livesOn, RX6, _, _, ew_X6_livesOn, rfl, by decide⟩
theorem cw_X0_ageOf : Jvm.Cond.code yX0_ageOf cX0_ageOf 4 (some .int) ∈ GT := mg 553 (by decide +kernel) rfl
theorem iw_X0_ageOf : Jvm.Cond.initialized yX0_ageOf.cls ∈ GT := mg 78 (by decide +kernel) rfl
theorem nw_X0_ageOf : Jvm.Cond.instanceMethod yX0_ageOf ∈ GT := mg 551 (by decide +kernel) rfl
theorem ew_X0_ageOf : Jvm.Cond.selects RX0 yX0_ageOf yX0_ageOf ∈ GT := mg 552 (by decide +kernel) rfl
theorem lk_X11_120 : LkV RX11 120 0 yX0_ageOf cX0_ageOf 4 (some .int) 2 := ⟨⟨mg 550 (by decide +kernel) rfl, cw_X0_ageOf, iw_X0_ageOf, ⟨by decide, by decide, by decide⟩⟩, nw_X0_ageOf, RX0, _, _, ew_X0_ageOf, rfl, by decide⟩
theorem cw_X1_hasRoom : Jvm.Cond.code yX1_hasRoom cX1_hasRoom 1 (some .boolean) ∈ GT := mg 587 (by decide +kernel) rfl
theorem iw_X1_hasRoom : Jvm.Cond.initialized yX1_hasRoom.cls ∈ GT := mg 79 (by decide +kernel) rfl
theorem nw_X1_hasRoom : Jvm.Cond.instanceMethod yX1_hasRoom ∈ GT := mg 585 (by decide +kernel) rfl
theorem ew_X1_hasRoom : Jvm.Cond.selects RX1 yX1_hasRoom yX1_hasRoom ∈ GT := mg 586 (by decide +kernel) rfl
theorem lk_X11_128 : LkV RX11 128 1 yX1_hasRoom cX1_hasRoom 1 (some .boolean) 0 := ⟨⟨mg 584 (by decide +kernel) rfl, cw_X1_hasRoom, iw_X1_hasRoom, ⟨by decide, by decide, by decide⟩⟩, nw_X1_hasRoom, RX1, _, _, ew_X1_hasRoom, rfl, by decide⟩
theorem cw_X10_keep : Jvm.Cond.code yX10_keep cX10_keep 3 none ∈ GT := mg 591 (by decide +kernel) rfl
theorem iw_X10_keep : Jvm.Cond.initialized yX10_keep.cls ∈ GT := mg 87 (by decide +kernel) rfl
theorem nw_X10_keep : Jvm.Cond.instanceMethod yX10_keep ∈ GT := mg 589 (by decide +kernel) rfl
theorem ew_X10_keep : Jvm.Cond.selects RX10 yX10_keep yX10_keep ∈ GT := mg 590 (by decide +kernel) rfl
theorem lk_X11_134 : LkV RX11 134 10 yX10_keep cX10_keep 3 none 2 := ⟨⟨mg 588 (by decide +kernel) rfl, cw_X10_keep, iw_X10_keep, ⟨by decide, by decide, by decide⟩⟩, nw_X10_keep, RX10, _, _, ew_X10_keep, rfl, by decide⟩
theorem cw_X6_yearsOn : Jvm.Cond.code yX6_yearsOn cX6_yearsOn 2 (some .int) ∈ GT := mg 558 (by decide +kernel) rfl
theorem iw_X6_yearsOn : Jvm.Cond.initialized yX6_yearsOn.cls ∈ GT := mg 82 (by decide +kernel) rfl
theorem nw_X6_yearsOn : Jvm.Cond.instanceMethod yX6_yearsOn ∈ GT := mg 556 (by decide +kernel) rfl
theorem ew_X6_yearsOn : Jvm.Cond.selects RX6 yX6_yearsOn yX6_yearsOn ∈ GT := mg 557 (by decide +kernel) rfl
theorem lk_X11_138 : LkV RX11 138 6 yX6_yearsOn cX6_yearsOn 2 (some .int) 1 := ⟨⟨mg 597 (by decide +kernel) rfl, cw_X6_yearsOn, iw_X6_yearsOn, ⟨by decide, by decide, by decide⟩⟩, nw_X6_yearsOn, RX6, _, _, ew_X6_yearsOn, rfl, by decide⟩
theorem cw_X5_takeReading : Jvm.Cond.code yX5_takeReading cX5_takeReading 4 none ∈ GT := mg 601 (by decide +kernel) rfl
theorem iw_X5_takeReading : Jvm.Cond.initialized yX5_takeReading.cls ∈ GT := mg 83 (by decide +kernel) rfl
theorem nw_X5_takeReading : Jvm.Cond.instanceMethod yX5_takeReading ∈ GT := mg 599 (by decide +kernel) rfl
theorem ew_X5_takeReading : Jvm.Cond.selects RX5 yX5_takeReading yX5_takeReading ∈ GT := mg 600 (by decide +kernel) rfl
theorem lk_X11_141 : LkV RX11 141 5 yX5_takeReading cX5_takeReading 4 none 3 := ⟨⟨mg 598 (by decide +kernel) rfl, cw_X5_takeReading, iw_X5_takeReading, ⟨by decide, by decide, by decide⟩⟩, nw_X5_takeReading, RX5, _, _, ew_X5_takeReading, rfl, by decide⟩
theorem cw_X1_write : Jvm.Cond.code yX1_write cX1_write 7 none ∈ GT := mg 605 (by decide +kernel) rfl
theorem iw_X1_write : Jvm.Cond.initialized yX1_write.cls ∈ GT := mg 79 (by decide +kernel) rfl
theorem nw_X1_write : Jvm.Cond.instanceMethod yX1_write ∈ GT := mg 603 (by decide +kernel) rfl
theorem ew_X1_write : Jvm.Cond.selects RX1 yX1_write yX1_write ∈ GT := mg 604 (by decide +kernel) rfl
theorem lk_X11_144 : LkV RX11 144 1 yX1_write cX1_write 7 none 5 := ⟨⟨mg 602 (by decide +kernel) rfl, cw_X1_write, iw_X1_write, ⟨by decide, by decide, by decide⟩⟩, nw_X1_write, RX1, _, _, ew_X1_write, rfl, by decide⟩
theorem cw_X0_endDay : Jvm.Cond.code yX0_endDay cX0_endDay 2 (some .int) ∈ GT := mg 618 (by decide +kernel) rfl
theorem iw_X0_endDay : Jvm.Cond.initialized yX0_endDay.cls ∈ GT := mg 78 (by decide +kernel) rfl
theorem nw_X0_endDay : Jvm.Cond.instanceMethod yX0_endDay ∈ GT := mg 616 (by decide +kernel) rfl
theorem ew_X0_endDay : Jvm.Cond.selects RX0 yX0_endDay yX0_endDay ∈ GT := mg 617 (by decide +kernel) rfl
theorem lk_X11_151 : LkV RX11 151 0 yX0_endDay cX0_endDay 2 (some .int) 0 := ⟨⟨mg 615 (by decide +kernel) rfl, cw_X0_endDay, iw_X0_endDay, ⟨by decide, by decide, by decide⟩⟩, nw_X0_endDay, RX0, _, _, ew_X0_endDay, rfl, by decide⟩
theorem cw_X7_hasRoom : Jvm.Cond.code yX7_hasRoom cX7_hasRoom 2 (some .boolean) ∈ GT := mg 648 (by decide +kernel) rfl
theorem iw_X7_hasRoom : Jvm.Cond.initialized yX7_hasRoom.cls ∈ GT := mg 84 (by decide +kernel) rfl
theorem nw_X7_hasRoom : Jvm.Cond.instanceMethod yX7_hasRoom ∈ GT := mg 646 (by decide +kernel) rfl
theorem ew_X7_hasRoom : Jvm.Cond.selects RX7 yX7_hasRoom yX7_hasRoom ∈ GT := mg 647 (by decide +kernel) rfl
theorem lk_X11_155 : LkV RX11 155 7 yX7_hasRoom cX7_hasRoom 2 (some .boolean) 1 := ⟨⟨mg 645 (by decide +kernel) rfl, cw_X7_hasRoom, iw_X7_hasRoom, ⟨by decide, by decide, by decide⟩⟩, nw_X7_hasRoom, RX7, _, _, ew_X7_hasRoom, rfl, by decide⟩
theorem cw_X7_put : Jvm.Cond.code yX7_put cX7_put 2 none ∈ GT := mg 652 (by decide +kernel) rfl
theorem iw_X7_put : Jvm.Cond.initialized yX7_put.cls ∈ GT := mg 84 (by decide +kernel) rfl
theorem nw_X7_put : Jvm.Cond.instanceMethod yX7_put ∈ GT := mg 650 (by decide +kernel) rfl
theorem ew_X7_put : Jvm.Cond.selects RX7 yX7_put yX7_put ∈ GT := mg 651 (by decide +kernel) rfl
theorem lk_X11_157 : LkV RX11 157 7 yX7_put cX7_put 2 none 1 := ⟨⟨mg 649 (by decide +kernel) rfl, cw_X7_put, iw_X7_put, ⟨by decide, by decide, by decide⟩⟩, nw_X7_put, RX7, _, _, ew_X7_put, rfl, by decide⟩
theorem cw_X4_readAll : Jvm.Cond.code yX4_readAll cX4_readAll 3 (some .boolean) ∈ GT := mg 665 (by decide +kernel) rfl
theorem iw_X4_readAll : Jvm.Cond.initialized yX4_readAll.cls ∈ GT := mg 85 (by decide +kernel) rfl
theorem nw_X4_readAll : Jvm.Cond.instanceMethod yX4_readAll ∈ GT := mg 663 (by decide +kernel) rfl
theorem ew_X4_readAll : Jvm.Cond.selects RX4 yX4_readAll yX4_readAll ∈ GT := mg 664 (by decide +kernel) rfl
theorem lk_X11_164 : LkV RX11 164 4 yX4_readAll cX4_readAll 3 (some .boolean) 1 := ⟨⟨mg 662 (by decide +kernel) rfl, cw_X4_readAll, iw_X4_readAll, ⟨by decide, by decide, by decide⟩⟩, nw_X4_readAll, RX4, _, _, ew_X4_readAll, rfl, by decide⟩
theorem cw_X3_copyFrom : Jvm.Cond.code yX3_copyFrom cX3_copyFrom 2 none ∈ GT := mg 907 (by decide +kernel) rfl
theorem iw_X3_copyFrom : Jvm.Cond.initialized yX3_copyFrom.cls ∈ GT := mg 81 (by decide +kernel) rfl
theorem nw_X3_copyFrom : Jvm.Cond.instanceMethod yX3_copyFrom ∈ GT := mg 905 (by decide +kernel) rfl
theorem ew_X3_copyFrom : Jvm.Cond.selects RX3 yX3_copyFrom yX3_copyFrom ∈ GT := mg 906 (by decide +kernel) rfl
theorem lk_X11_175 : LkV RX11 175 3 yX3_copyFrom cX3_copyFrom 2 none 1 := ⟨⟨mg 904 (by decide +kernel) rfl, cw_X3_copyFrom, iw_X3_copyFrom, ⟨by decide, by decide, by decide⟩⟩, nw_X3_copyFrom, RX3, _, _, ew_X3_copyFrom, rfl, by decide⟩
theorem cw_X0_stayOf : Jvm.Cond.code yX0_stayOf cX0_stayOf 4 (some .int) ∈ GT := mg 926 (by decide +kernel) rfl
theorem iw_X0_stayOf : Jvm.Cond.initialized yX0_stayOf.cls ∈ GT := mg 78 (by decide +kernel) rfl
theorem nw_X0_stayOf : Jvm.Cond.instanceMethod yX0_stayOf ∈ GT := mg 924 (by decide +kernel) rfl
theorem ew_X0_stayOf : Jvm.Cond.selects RX0 yX0_stayOf yX0_stayOf ∈ GT := mg 925 (by decide +kernel) rfl
theorem lk_X11_205 : LkV RX11 205 0 yX0_stayOf cX0_stayOf 4 (some .int) 1 := ⟨⟨mg 923 (by decide +kernel) rfl, cw_X0_stayOf, iw_X0_stayOf, ⟨by decide, by decide, by decide⟩⟩, nw_X0_stayOf, RX0, _, _, ew_X0_stayOf, rfl, by decide⟩
theorem cw_X0_leasesOf : Jvm.Cond.code yX0_leasesOf cX0_leasesOf 4 (some .int) ∈ GT := mg 640 (by decide +kernel) rfl
theorem iw_X0_leasesOf : Jvm.Cond.initialized yX0_leasesOf.cls ∈ GT := mg 78 (by decide +kernel) rfl
theorem nw_X0_leasesOf : Jvm.Cond.instanceMethod yX0_leasesOf ∈ GT := mg 638 (by decide +kernel) rfl
theorem ew_X0_leasesOf : Jvm.Cond.selects RX0 yX0_leasesOf yX0_leasesOf ∈ GT := mg 639 (by decide +kernel) rfl
theorem lk_X11_225 : LkV RX11 225 0 yX0_leasesOf cX0_leasesOf 4 (some .int) 1 := ⟨⟨mg 933 (by decide +kernel) rfl, cw_X0_leasesOf, iw_X0_leasesOf, ⟨by decide, by decide, by decide⟩⟩, nw_X0_leasesOf, RX0, _, _, ew_X0_leasesOf, rfl, by decide⟩
theorem cw_X1_entry : Jvm.Cond.code yX1_entry cX1_entry 4 (some .int) ∈ GT := mg 941 (by decide +kernel) rfl
theorem iw_X1_entry : Jvm.Cond.initialized yX1_entry.cls ∈ GT := mg 79 (by decide +kernel) rfl
theorem nw_X1_entry : Jvm.Cond.instanceMethod yX1_entry ∈ GT := mg 939 (by decide +kernel) rfl
theorem ew_X1_entry : Jvm.Cond.selects RX1 yX1_entry yX1_entry ∈ GT := mg 940 (by decide +kernel) rfl
theorem lk_X11_228 : LkV RX11 228 1 yX1_entry cX1_entry 4 (some .int) 2 := ⟨⟨mg 938 (by decide +kernel) rfl, cw_X1_entry, iw_X1_entry, ⟨by decide, by decide, by decide⟩⟩, nw_X1_entry, RX1, _, _, ew_X1_entry, rfl, by decide⟩
theorem cw_X2_hasRoom : Jvm.Cond.code yX2_hasRoom cX2_hasRoom 1 (some .boolean) ∈ GT := mg 950 (by decide +kernel) rfl
theorem iw_X2_hasRoom : Jvm.Cond.initialized yX2_hasRoom.cls ∈ GT := mg 80 (by decide +kernel) rfl
theorem nw_X2_hasRoom : Jvm.Cond.instanceMethod yX2_hasRoom ∈ GT := mg 948 (by decide +kernel) rfl
theorem ew_X2_hasRoom : Jvm.Cond.selects RX2 yX2_hasRoom yX2_hasRoom ∈ GT := mg 949 (by decide +kernel) rfl
theorem lk_X11_236 : LkV RX11 236 2 yX2_hasRoom cX2_hasRoom 1 (some .boolean) 0 := ⟨⟨mg 947 (by decide +kernel) rfl, cw_X2_hasRoom, iw_X2_hasRoom, ⟨by decide, by decide, by decide⟩⟩, nw_X2_hasRoom, RX2, _, _, ew_X2_hasRoom, rfl, by decide⟩
theorem cw_X2_add : Jvm.Cond.code yX2_add cX2_add 5 (some .int) ∈ GT := mg 954 (by decide +kernel) rfl
theorem iw_X2_add : Jvm.Cond.initialized yX2_add.cls ∈ GT := mg 80 (by decide +kernel) rfl
theorem nw_X2_add : Jvm.Cond.instanceMethod yX2_add ∈ GT := mg 952 (by decide +kernel) rfl
theorem ew_X2_add : Jvm.Cond.selects RX2 yX2_add yX2_add ∈ GT := mg 953 (by decide +kernel) rfl
theorem lk_X11_239 : LkV RX11 239 2 yX2_add cX2_add 5 (some .int) 4 := ⟨⟨mg 951 (by decide +kernel) rfl, cw_X2_add, iw_X2_add, ⟨by decide, by decide, by decide⟩⟩, nw_X2_add, RX2, _, _, ew_X2_add, rfl, by decide⟩
theorem cw_X2_anyWentBy : Jvm.Cond.code yX2_anyWentBy cX2_anyWentBy 3 (some .boolean) ∈ GT := mg 963 (by decide +kernel) rfl
theorem iw_X2_anyWentBy : Jvm.Cond.initialized yX2_anyWentBy.cls ∈ GT := mg 80 (by decide +kernel) rfl
theorem nw_X2_anyWentBy : Jvm.Cond.instanceMethod yX2_anyWentBy ∈ GT := mg 961 (by decide +kernel) rfl
theorem ew_X2_anyWentBy : Jvm.Cond.selects RX2 yX2_anyWentBy yX2_anyWentBy ∈ GT := mg 962 (by decide +kernel) rfl
theorem lk_X11_243 : LkV RX11 243 2 yX2_anyWentBy cX2_anyWentBy 3 (some .boolean) 1 := ⟨⟨mg 960 (by decide +kernel) rfl, cw_X2_anyWentBy, iw_X2_anyWentBy, ⟨by decide, by decide, by decide⟩⟩, nw_X2_anyWentBy, RX2, _, _, ew_X2_anyWentBy, rfl, by decide⟩
theorem cw_X8_weigh : Jvm.Cond.code yX8_weigh cX8_weigh 5 none ∈ GT := mg 967 (by decide +kernel) rfl
theorem iw_X8_weigh : Jvm.Cond.initialized yX8_weigh.cls ∈ GT := mg 88 (by decide +kernel) rfl
theorem nw_X8_weigh : Jvm.Cond.instanceMethod yX8_weigh ∈ GT := mg 965 (by decide +kernel) rfl
theorem ew_X8_weigh : Jvm.Cond.selects RX8 yX8_weigh yX8_weigh ∈ GT := mg 966 (by decide +kernel) rfl
theorem lk_X11_246 : LkV RX11 246 8 yX8_weigh cX8_weigh 5 none 1 := ⟨⟨mg 964 (by decide +kernel) rfl, cw_X8_weigh, iw_X8_weigh, ⟨by decide, by decide, by decide⟩⟩, nw_X8_weigh, RX8, _, _, ew_X8_weigh, rfl, by decide⟩
theorem cw_X8_leastSet : Jvm.Cond.code yX8_leastSet cX8_leastSet 5 (some .int) ∈ GT := mg 986 (by decide +kernel) rfl
theorem iw_X8_leastSet : Jvm.Cond.initialized yX8_leastSet.cls ∈ GT := mg 88 (by decide +kernel) rfl
theorem nw_X8_leastSet : Jvm.Cond.instanceMethod yX8_leastSet ∈ GT := mg 984 (by decide +kernel) rfl
theorem ew_X8_leastSet : Jvm.Cond.selects RX8 yX8_leastSet yX8_leastSet ∈ GT := mg 985 (by decide +kernel) rfl
theorem lk_X11_250 : LkV RX11 250 8 yX8_leastSet cX8_leastSet 5 (some .int) 1 := ⟨⟨mg 983 (by decide +kernel) rfl, cw_X8_leastSet, iw_X8_leastSet, ⟨by decide, by decide, by decide⟩⟩, nw_X8_leastSet, RX8, _, _, ew_X8_leastSet, rfl, by decide⟩
theorem cw_X8_readerOf : Jvm.Cond.code yX8_readerOf cX8_readerOf 4 (some .int) ∈ GT := mg 1000 (by decide +kernel) rfl
theorem iw_X8_readerOf : Jvm.Cond.initialized yX8_readerOf.cls ∈ GT := mg 88 (by decide +kernel) rfl
theorem nw_X8_readerOf : Jvm.Cond.instanceMethod yX8_readerOf ∈ GT := mg 998 (by decide +kernel) rfl
theorem ew_X8_readerOf : Jvm.Cond.selects RX8 yX8_readerOf yX8_readerOf ∈ GT := mg 999 (by decide +kernel) rfl
theorem lk_X11_254 : LkV RX11 254 8 yX8_readerOf cX8_readerOf 4 (some .int) 3 := ⟨⟨mg 997 (by decide +kernel) rfl, cw_X8_readerOf, iw_X8_readerOf, ⟨by decide, by decide, by decide⟩⟩, nw_X8_readerOf, RX8, _, _, ew_X8_readerOf, rfl, by decide⟩
theorem cw_X8_seekThumbs : Jvm.Cond.code yX8_seekThumbs cX8_seekThumbs 8 none ∈ GT := mg 1012 (by decide +kernel) rfl
theorem iw_X8_seekThumbs : Jvm.Cond.initialized yX8_seekThumbs.cls ∈ GT := mg 88 (by decide +kernel) rfl
theorem nw_X8_seekThumbs : Jvm.Cond.instanceMethod yX8_seekThumbs ∈ GT := mg 1010 (by decide +kernel) rfl
theorem ew_X8_seekThumbs : Jvm.Cond.selects RX8 yX8_seekThumbs yX8_seekThumbs ∈ GT := mg 1011 (by decide +kernel) rfl
theorem lk_X11_258 : LkV RX11 258 8 yX8_seekThumbs cX8_seekThumbs 8 none 3 := ⟨⟨mg 1009 (by decide +kernel) rfl, cw_X8_seekThumbs, iw_X8_seekThumbs, ⟨by decide, by decide, by decide⟩⟩, nw_X8_seekThumbs, RX8, _, _, ew_X8_seekThumbs, rfl, by decide⟩
theorem cw_X0_countLeaps : Jvm.Cond.code yX0_countLeaps cX0_countLeaps 5 (some .int) ∈ GT := mg 1025 (by decide +kernel) rfl
theorem iw_X0_countLeaps : Jvm.Cond.initialized yX0_countLeaps.cls ∈ GT := mg 78 (by decide +kernel) rfl
theorem nw_X0_countLeaps : Jvm.Cond.instanceMethod yX0_countLeaps ∈ GT := mg 1023 (by decide +kernel) rfl
theorem ew_X0_countLeaps : Jvm.Cond.selects RX0 yX0_countLeaps yX0_countLeaps ∈ GT := mg 1024 (by decide +kernel) rfl
theorem lk_X11_271 : LkV RX11 271 0 yX0_countLeaps cX0_countLeaps 5 (some .int) 2 := ⟨⟨mg 1022 (by decide +kernel) rfl, cw_X0_countLeaps, iw_X0_countLeaps, ⟨by decide, by decide, by decide⟩⟩, nw_X0_countLeaps, RX0, _, _, ew_X0_countLeaps, rfl, by decide⟩
theorem cw_X0_firstLeap : Jvm.Cond.code yX0_firstLeap cX0_firstLeap 4 (some .int) ∈ GT := mg 1042 (by decide +kernel) rfl
theorem iw_X0_firstLeap : Jvm.Cond.initialized yX0_firstLeap.cls ∈ GT := mg 78 (by decide +kernel) rfl
theorem nw_X0_firstLeap : Jvm.Cond.instanceMethod yX0_firstLeap ∈ GT := mg 1040 (by decide +kernel) rfl
theorem ew_X0_firstLeap : Jvm.Cond.selects RX0 yX0_firstLeap yX0_firstLeap ∈ GT := mg 1041 (by decide +kernel) rfl
theorem lk_X11_274 : LkV RX11 274 0 yX0_firstLeap cX0_firstLeap 4 (some .int) 2 := ⟨⟨mg 1039 (by decide +kernel) rfl, cw_X0_firstLeap, iw_X0_firstLeap, ⟨by decide, by decide, by decide⟩⟩, nw_X0_firstLeap, RX0, _, _, ew_X0_firstLeap, rfl, by decide⟩
theorem cw_X0_nextForLease : Jvm.Cond.code yX0_nextForLease cX0_nextForLease 5 (some .int) ∈ GT := mg 636 (by decide +kernel) rfl
theorem iw_X0_nextForLease : Jvm.Cond.initialized yX0_nextForLease.cls ∈ GT := mg 78 (by decide +kernel) rfl
theorem nw_X0_nextForLease : Jvm.Cond.instanceMethod yX0_nextForLease ∈ GT := mg 634 (by decide +kernel) rfl
theorem ew_X0_nextForLease : Jvm.Cond.selects RX0 yX0_nextForLease yX0_nextForLease ∈ GT := mg 635 (by decide +kernel) rfl
theorem lk_X11_277 : LkV RX11 277 0 yX0_nextForLease cX0_nextForLease 5 (some .int) 0 := ⟨⟨mg 1047 (by decide +kernel) rfl, cw_X0_nextForLease, iw_X0_nextForLease, ⟨by decide, by decide, by decide⟩⟩, nw_X0_nextForLease, RX0, _, _, ew_X0_nextForLease, rfl, by decide⟩
theorem cw_X0_agesOn : Jvm.Cond.code yX0_agesOn cX0_agesOn 4 (some .int) ∈ GT := mg 1055 (by decide +kernel) rfl
theorem iw_X0_agesOn : Jvm.Cond.initialized yX0_agesOn.cls ∈ GT := mg 78 (by decide +kernel) rfl
theorem nw_X0_agesOn : Jvm.Cond.instanceMethod yX0_agesOn ∈ GT := mg 1053 (by decide +kernel) rfl
theorem ew_X0_agesOn : Jvm.Cond.selects RX0 yX0_agesOn yX0_agesOn ∈ GT := mg 1054 (by decide +kernel) rfl
theorem lk_X11_280 : LkV RX11 280 0 yX0_agesOn cX0_agesOn 4 (some .int) 1 := ⟨⟨mg 1052 (by decide +kernel) rfl, cw_X0_agesOn, iw_X0_agesOn, ⟨by decide, by decide, by decide⟩⟩, nw_X0_agesOn, RX0, _, _, ew_X0_agesOn, rfl, by decide⟩
theorem cw_X0_papersOn : Jvm.Cond.code yX0_papersOn cX0_papersOn 4 (some .int) ∈ GT := mg 541 (by decide +kernel) rfl
theorem iw_X0_papersOn : Jvm.Cond.initialized yX0_papersOn.cls ∈ GT := mg 78 (by decide +kernel) rfl
theorem nw_X0_papersOn : Jvm.Cond.instanceMethod yX0_papersOn ∈ GT := mg 539 (by decide +kernel) rfl
theorem ew_X0_papersOn : Jvm.Cond.selects RX0 yX0_papersOn yX0_papersOn ∈ GT := mg 540 (by decide +kernel) rfl
theorem lk_X11_283 : LkV RX11 283 0 yX0_papersOn cX0_papersOn 4 (some .int) 1 := ⟨⟨mg 1056 (by decide +kernel) rfl, cw_X0_papersOn, iw_X0_papersOn, ⟨by decide, by decide, by decide⟩⟩, nw_X0_papersOn, RX0, _, _, ew_X0_papersOn, rfl, by decide⟩
theorem cw_X10_latestWrote : Jvm.Cond.code yX10_latestWrote cX10_latestWrote 1 (some .boolean) ∈ GT := mg 1068 (by decide +kernel) rfl
theorem iw_X10_latestWrote : Jvm.Cond.initialized yX10_latestWrote.cls ∈ GT := mg 87 (by decide +kernel) rfl
theorem nw_X10_latestWrote : Jvm.Cond.instanceMethod yX10_latestWrote ∈ GT := mg 1066 (by decide +kernel) rfl
theorem ew_X10_latestWrote : Jvm.Cond.selects RX10 yX10_latestWrote yX10_latestWrote ∈ GT := mg 1067 (by decide +kernel) rfl
theorem lk_X11_287 : LkV RX11 287 10 yX10_latestWrote cX10_latestWrote 1 (some .boolean) 0 := ⟨⟨mg 1065 (by decide +kernel) rfl, cw_X10_latestWrote, iw_X10_latestWrote, ⟨by decide, by decide, by decide⟩⟩, nw_X10_latestWrote, RX10, _, _, ew_X10_latestWrote, rfl, by decide⟩
theorem cw_X10_takeLatest : Jvm.Cond.code yX10_takeLatest cX10_takeLatest 2 (some (.object "PaperAger$Paper")) ∈ GT := mg 1072 (by decide +kernel) rfl
theorem iw_X10_takeLatest : Jvm.Cond.initialized yX10_takeLatest.cls ∈ GT := mg 87 (by decide +kernel) rfl
theorem nw_X10_takeLatest : Jvm.Cond.instanceMethod yX10_takeLatest ∈ GT := mg 1070 (by decide +kernel) rfl
theorem ew_X10_takeLatest : Jvm.Cond.selects RX10 yX10_takeLatest yX10_takeLatest ∈ GT := mg 1071 (by decide +kernel) rfl
theorem lk_X11_290 : LkV RX11 290 10 yX10_takeLatest cX10_takeLatest 2 (some (.object "PaperAger$Paper")) 0 := ⟨⟨mg 1069 (by decide +kernel) rfl, cw_X10_takeLatest, iw_X10_takeLatest, ⟨by decide, by decide, by decide⟩⟩, nw_X10_takeLatest, RX10, _, _, ew_X10_takeLatest, rfl, by decide⟩
theorem cw_X5_copyFrom : Jvm.Cond.code yX5_copyFrom cX5_copyFrom 2 none ∈ GT := mg 595 (by decide +kernel) rfl
theorem iw_X5_copyFrom : Jvm.Cond.initialized yX5_copyFrom.cls ∈ GT := mg 83 (by decide +kernel) rfl
theorem nw_X5_copyFrom : Jvm.Cond.instanceMethod yX5_copyFrom ∈ GT := mg 593 (by decide +kernel) rfl
theorem ew_X5_copyFrom : Jvm.Cond.selects RX5 yX5_copyFrom yX5_copyFrom ∈ GT := mg 594 (by decide +kernel) rfl
theorem lk_X11_297 : LkV RX11 297 5 yX5_copyFrom cX5_copyFrom 2 none 1 := ⟨⟨mg 1073 (by decide +kernel) rfl, cw_X5_copyFrom, iw_X5_copyFrom, ⟨by decide, by decide, by decide⟩⟩, nw_X5_copyFrom, RX5, _, _, ew_X5_copyFrom, rfl, by decide⟩
theorem cw_X1_dropLast : Jvm.Cond.code yX1_dropLast cX1_dropLast 1 none ∈ GT := mg 1077 (by decide +kernel) rfl
theorem iw_X1_dropLast : Jvm.Cond.initialized yX1_dropLast.cls ∈ GT := mg 79 (by decide +kernel) rfl
theorem nw_X1_dropLast : Jvm.Cond.instanceMethod yX1_dropLast ∈ GT := mg 1075 (by decide +kernel) rfl
theorem ew_X1_dropLast : Jvm.Cond.selects RX1 yX1_dropLast yX1_dropLast ∈ GT := mg 1076 (by decide +kernel) rfl
theorem lk_X11_300 : LkV RX11 300 1 yX1_dropLast cX1_dropLast 1 none 0 := ⟨⟨mg 1074 (by decide +kernel) rfl, cw_X1_dropLast, iw_X1_dropLast, ⟨by decide, by decide, by decide⟩⟩, nw_X1_dropLast, RX1, _, _, ew_X1_dropLast, rfl, by decide⟩
theorem cw_X0_copyFrom : Jvm.Cond.code yX0_copyFrom cX0_copyFrom 3 none ∈ GT := mg 1085 (by decide +kernel) rfl
theorem iw_X0_copyFrom : Jvm.Cond.initialized yX0_copyFrom.cls ∈ GT := mg 78 (by decide +kernel) rfl
theorem nw_X0_copyFrom : Jvm.Cond.instanceMethod yX0_copyFrom ∈ GT := mg 1083 (by decide +kernel) rfl
theorem ew_X0_copyFrom : Jvm.Cond.selects RX0 yX0_copyFrom yX0_copyFrom ∈ GT := mg 1084 (by decide +kernel) rfl
theorem lk_X11_303 : LkV RX11 303 0 yX0_copyFrom cX0_copyFrom 3 none 1 := ⟨⟨mg 1082 (by decide +kernel) rfl, cw_X0_copyFrom, iw_X0_copyFrom, ⟨by decide, by decide, by decide⟩⟩, nw_X0_copyFrom, RX0, _, _, ew_X0_copyFrom, rfl, by decide⟩
theorem lk_X0_68 : LkSN RX0 68 yX11_within cX11_within 3 (some .boolean) 3 := ⟨⟨⟨"PaperAger", List.mem_filter.mpr ⟨List.mem_of_getElem? (i := 492) (by decide +kernel), rfl⟩⟩, cw_X11_within, iw_X11_within, ⟨by decide, by decide, by decide⟩⟩, sw_X11_within⟩
theorem lk_X0_75 : LkV RX0 75 0 yX0_readerAt cX0_readerAt 2 (some (.object "PaperAger$Reader")) 1 := ⟨⟨mg 554 (by decide +kernel) rfl, cw_X0_readerAt, iw_X0_readerAt, ⟨by decide, by decide, by decide⟩⟩, nw_X0_readerAt, RX0, _, _, ew_X0_readerAt, rfl, by decide⟩
theorem lk_X0_82 : LkV RX0 82 6 yX6_yearsOn cX6_yearsOn 2 (some .int) 1 := ⟨⟨mg 555 (by decide +kernel) rfl, cw_X6_yearsOn, iw_X6_yearsOn, ⟨by decide, by decide, by decide⟩⟩, nw_X6_yearsOn, RX6, _, _, ew_X6_yearsOn, rfl, by decide⟩
theorem lk_X0_101 : LkV RX0 101 6 yX6_livesOn cX6_livesOn 2 (some .boolean) 1 := ⟨⟨mg 562 (by decide +kernel) rfl, cw_X6_livesOn, iw_X6_livesOn, ⟨by decide, by decide, by decide⟩⟩, nw_X6_livesOn, RX6, _, _, ew_X6_livesOn, rfl, by decide⟩
theorem cw_X3_ageBy : Jvm.Cond.code yX3_ageBy cX3_ageBy 4 (some .int) ∈ GT := mg 566 (by decide +kernel) rfl
theorem iw_X3_ageBy : Jvm.Cond.initialized yX3_ageBy.cls ∈ GT := mg 81 (by decide +kernel) rfl
theorem nw_X3_ageBy : Jvm.Cond.instanceMethod yX3_ageBy ∈ GT := mg 564 (by decide +kernel) rfl
theorem ew_X3_ageBy : Jvm.Cond.selects RX3 yX3_ageBy yX3_ageBy ∈ GT := mg 565 (by decide +kernel) rfl
theorem lk_X0_108 : LkV RX0 108 3 yX3_ageBy cX3_ageBy 4 (some .int) 1 := ⟨⟨mg 563 (by decide +kernel) rfl, cw_X3_ageBy, iw_X3_ageBy, ⟨by decide, by decide, by decide⟩⟩, nw_X3_ageBy, RX3, _, _, ew_X3_ageBy, rfl, by decide⟩
theorem lk_X0_112 : LkV RX0 112 0 yX0_ageOf cX0_ageOf 4 (some .int) 2 := ⟨⟨mg 927 (by decide +kernel) rfl, cw_X0_ageOf, iw_X0_ageOf, ⟨by decide, by decide, by decide⟩⟩, nw_X0_ageOf, RX0, _, _, ew_X0_ageOf, rfl, by decide⟩
theorem cw_X5_becomeUnread : Jvm.Cond.code yX5_becomeUnread cX5_becomeUnread 2 none ∈ GT := mg 512 (by decide +kernel) rfl
theorem iw_X5_becomeUnread : Jvm.Cond.initialized yX5_becomeUnread.cls ∈ GT := mg 83 (by decide +kernel) rfl
theorem nw_X5_becomeUnread : Jvm.Cond.instanceMethod yX5_becomeUnread ∈ GT := mg 510 (by decide +kernel) rfl
theorem ew_X5_becomeUnread : Jvm.Cond.selects RX5 yX5_becomeUnread yX5_becomeUnread ∈ GT := mg 511 (by decide +kernel) rfl
theorem lk_X0_116 : LkV RX0 116 5 yX5_becomeUnread cX5_becomeUnread 2 none 1 := ⟨⟨mg 537 (by decide +kernel) rfl, cw_X5_becomeUnread, iw_X5_becomeUnread, ⟨by decide, by decide, by decide⟩⟩, nw_X5_becomeUnread, RX5, _, _, ew_X5_becomeUnread, rfl, by decide⟩
theorem lk_X0_120 : LkV RX0 120 0 yX0_papersOn cX0_papersOn 4 (some .int) 1 := ⟨⟨mg 538 (by decide +kernel) rfl, cw_X0_papersOn, iw_X0_papersOn, ⟨by decide, by decide, by decide⟩⟩, nw_X0_papersOn, RX0, _, _, ew_X0_papersOn, rfl, by decide⟩
theorem cw_X0_drawDeaths : Jvm.Cond.code yX0_drawDeaths cX0_drawDeaths 4 (some .int) ∈ GT := mg 622 (by decide +kernel) rfl
theorem iw_X0_drawDeaths : Jvm.Cond.initialized yX0_drawDeaths.cls ∈ GT := mg 78 (by decide +kernel) rfl
theorem nw_X0_drawDeaths : Jvm.Cond.instanceMethod yX0_drawDeaths ∈ GT := mg 621 (by decide +kernel) rfl
theorem ew_X0_drawDeaths : Jvm.Cond.selects RX0 yX0_drawDeaths yX0_drawDeaths ∈ GT := mg 1 (by decide +kernel) rfl
theorem lk_X0_123 : LkV RX0 123 0 yX0_drawDeaths cX0_drawDeaths 4 (some .int) 0 := ⟨⟨mg 619 (by decide +kernel) rfl, cw_X0_drawDeaths, iw_X0_drawDeaths, ⟨by decide, by decide, by decide⟩⟩, nw_X0_drawDeaths, RX0, _, _, ew_X0_drawDeaths, rfl, by decide⟩
theorem cw_X0_passLeases : Jvm.Cond.code yX0_passLeases cX0_passLeases 3 none ∈ GT := mg 632 (by decide +kernel) rfl
theorem iw_X0_passLeases : Jvm.Cond.initialized yX0_passLeases.cls ∈ GT := mg 78 (by decide +kernel) rfl
theorem nw_X0_passLeases : Jvm.Cond.instanceMethod yX0_passLeases ∈ GT := mg 631 (by decide +kernel) rfl
theorem ew_X0_passLeases : Jvm.Cond.selects RX0 yX0_passLeases yX0_passLeases ∈ GT := mg 3 (by decide +kernel) rfl
theorem lk_X0_127 : LkV RX0 127 0 yX0_passLeases cX0_passLeases 3 none 0 := ⟨⟨mg 629 (by decide +kernel) rfl, cw_X0_passLeases, iw_X0_passLeases, ⟨by decide, by decide, by decide⟩⟩, nw_X0_passLeases, RX0, _, _, ew_X0_passLeases, rfl, by decide⟩
theorem cw_X0_drawTenThousandth : Jvm.Cond.code yX0_drawTenThousandth cX0_drawTenThousandth 1 (some .int) ∈ GT := mg 626 (by decide +kernel) rfl
theorem iw_X0_drawTenThousandth : Jvm.Cond.initialized yX0_drawTenThousandth.cls ∈ GT := mg 78 (by decide +kernel) rfl
theorem nw_X0_drawTenThousandth : Jvm.Cond.instanceMethod yX0_drawTenThousandth ∈ GT := mg 625 (by decide +kernel) rfl
theorem ew_X0_drawTenThousandth : Jvm.Cond.selects RX0 yX0_drawTenThousandth yX0_drawTenThousandth ∈ GT := mg 2 (by decide +kernel) rfl
theorem lk_X0_133 : LkV RX0 133 0 yX0_drawTenThousandth cX0_drawTenThousandth 1 (some .int) 0 := ⟨⟨mg 623 (by decide +kernel) rfl, cw_X0_drawTenThousandth, iw_X0_drawTenThousandth, ⟨by decide, by decide, by decide⟩⟩, nw_X0_drawTenThousandth, RX0, _, _, ew_X0_drawTenThousandth, rfl, by decide⟩
theorem lk_X0_144 : LkV RX0 144 0 yX0_nextForLease cX0_nextForLease 5 (some .int) 0 := ⟨⟨mg 633 (by decide +kernel) rfl, cw_X0_nextForLease, iw_X0_nextForLease, ⟨by decide, by decide, by decide⟩⟩, nw_X0_nextForLease, RX0, _, _, ew_X0_nextForLease, rfl, by decide⟩
theorem lk_X0_147 : LkV RX0 147 0 yX0_leasesOf cX0_leasesOf 4 (some .int) 1 := ⟨⟨mg 637 (by decide +kernel) rfl, cw_X0_leasesOf, iw_X0_leasesOf, ⟨by decide, by decide, by decide⟩⟩, nw_X0_leasesOf, RX0, _, _, ew_X0_leasesOf, rfl, by decide⟩
theorem cw_X0_isLeap : Jvm.Cond.code yX0_isLeap cX0_isLeap 5 (some .boolean) ∈ GT := mg 1029 (by decide +kernel) rfl
theorem iw_X0_isLeap : Jvm.Cond.initialized yX0_isLeap.cls ∈ GT := mg 78 (by decide +kernel) rfl
theorem nw_X0_isLeap : Jvm.Cond.instanceMethod yX0_isLeap ∈ GT := mg 1028 (by decide +kernel) rfl
theorem ew_X0_isLeap : Jvm.Cond.selects RX0 yX0_isLeap yX0_isLeap ∈ GT := mg 25 (by decide +kernel) rfl
theorem lk_X0_153 : LkV RX0 153 0 yX0_isLeap cX0_isLeap 5 (some .boolean) 3 := ⟨⟨mg 1026 (by decide +kernel) rfl, cw_X0_isLeap, iw_X0_isLeap, ⟨by decide, by decide, by decide⟩⟩, nw_X0_isLeap, RX0, _, _, ew_X0_isLeap, rfl, by decide⟩
theorem lk_X0_156 : LkV RX0 156 1 yX1_entry cX1_entry 4 (some .int) 2 := ⟨⟨mg 1030 (by decide +kernel) rfl, cw_X1_entry, iw_X1_entry, ⟨by decide, by decide, by decide⟩⟩, nw_X1_entry, RX1, _, _, ew_X1_entry, rfl, by decide⟩
theorem cw_X1_leapOf : Jvm.Cond.code yX1_leapOf cX1_leapOf 2 (some .int) ∈ GT := mg 1034 (by decide +kernel) rfl
theorem iw_X1_leapOf : Jvm.Cond.initialized yX1_leapOf.cls ∈ GT := mg 79 (by decide +kernel) rfl
theorem nw_X1_leapOf : Jvm.Cond.instanceMethod yX1_leapOf ∈ GT := mg 1032 (by decide +kernel) rfl
theorem ew_X1_leapOf : Jvm.Cond.selects RX1 yX1_leapOf yX1_leapOf ∈ GT := mg 1033 (by decide +kernel) rfl
theorem lk_X0_160 : LkV RX0 160 1 yX1_leapOf cX1_leapOf 2 (some .int) 1 := ⟨⟨mg 1031 (by decide +kernel) rfl, cw_X1_leapOf, iw_X1_leapOf, ⟨by decide, by decide, by decide⟩⟩, nw_X1_leapOf, RX1, _, _, ew_X1_leapOf, rfl, by decide⟩
theorem cw_X6_copyFrom : Jvm.Cond.code yX6_copyFrom cX6_copyFrom 2 none ∈ GT := mg 1089 (by decide +kernel) rfl
theorem iw_X6_copyFrom : Jvm.Cond.initialized yX6_copyFrom.cls ∈ GT := mg 82 (by decide +kernel) rfl
theorem nw_X6_copyFrom : Jvm.Cond.instanceMethod yX6_copyFrom ∈ GT := mg 1087 (by decide +kernel) rfl
theorem ew_X6_copyFrom : Jvm.Cond.selects RX6 yX6_copyFrom yX6_copyFrom ∈ GT := mg 1088 (by decide +kernel) rfl
theorem lk_X0_163 : LkV RX0 163 6 yX6_copyFrom cX6_copyFrom 2 none 1 := ⟨⟨mg 1086 (by decide +kernel) rfl, cw_X6_copyFrom, iw_X6_copyFrom, ⟨by decide, by decide, by decide⟩⟩, nw_X6_copyFrom, RX6, _, _, ew_X6_copyFrom, rfl, by decide⟩
theorem lk_X0_167 : LkV RX0 167 5 yX5_copyFrom cX5_copyFrom 2 none 1 := ⟨⟨mg 1090 (by decide +kernel) rfl, cw_X5_copyFrom, iw_X5_copyFrom, ⟨by decide, by decide, by decide⟩⟩, nw_X5_copyFrom, RX5, _, _, ew_X5_copyFrom, rfl, by decide⟩
theorem cw_X1_copyFrom : Jvm.Cond.code yX1_copyFrom cX1_copyFrom 2 none ∈ GT := mg 1094 (by decide +kernel) rfl
theorem iw_X1_copyFrom : Jvm.Cond.initialized yX1_copyFrom.cls ∈ GT := mg 79 (by decide +kernel) rfl
theorem nw_X1_copyFrom : Jvm.Cond.instanceMethod yX1_copyFrom ∈ GT := mg 1092 (by decide +kernel) rfl
theorem ew_X1_copyFrom : Jvm.Cond.selects RX1 yX1_copyFrom yX1_copyFrom ∈ GT := mg 1093 (by decide +kernel) rfl
theorem lk_X0_170 : LkV RX0 170 1 yX1_copyFrom cX1_copyFrom 2 none 1 := ⟨⟨mg 1091 (by decide +kernel) rfl, cw_X1_copyFrom, iw_X1_copyFrom, ⟨by decide, by decide, by decide⟩⟩, nw_X1_copyFrom, RX1, _, _, ew_X1_copyFrom, rfl, by decide⟩
theorem cw_X2_copyFrom : Jvm.Cond.code yX2_copyFrom cX2_copyFrom 2 none ∈ GT := mg 1099 (by decide +kernel) rfl
theorem iw_X2_copyFrom : Jvm.Cond.initialized yX2_copyFrom.cls ∈ GT := mg 80 (by decide +kernel) rfl
theorem nw_X2_copyFrom : Jvm.Cond.instanceMethod yX2_copyFrom ∈ GT := mg 1097 (by decide +kernel) rfl
theorem ew_X2_copyFrom : Jvm.Cond.selects RX2 yX2_copyFrom yX2_copyFrom ∈ GT := mg 1098 (by decide +kernel) rfl
theorem lk_X0_173 : LkV RX0 173 2 yX2_copyFrom cX2_copyFrom 2 none 1 := ⟨⟨mg 1096 (by decide +kernel) rfl, cw_X2_copyFrom, iw_X2_copyFrom, ⟨by decide, by decide, by decide⟩⟩, nw_X2_copyFrom, RX2, _, _, ew_X2_copyFrom, rfl, by decide⟩
theorem lk_X0_176 : LkV RX0 176 3 yX3_copyFrom cX3_copyFrom 2 none 1 := ⟨⟨mg 1101 (by decide +kernel) rfl, cw_X3_copyFrom, iw_X3_copyFrom, ⟨by decide, by decide, by decide⟩⟩, nw_X3_copyFrom, RX3, _, _, ew_X3_copyFrom, rfl, by decide⟩
theorem lk_X1_19 : LkV RX1 19 1 yX1_hasRoom cX1_hasRoom 1 (some .boolean) 0 := ⟨⟨mg 606 (by decide +kernel) rfl, cw_X1_hasRoom, iw_X1_hasRoom, ⟨by decide, by decide, by decide⟩⟩, nw_X1_hasRoom, RX1, _, _, ew_X1_hasRoom, rfl, by decide⟩
theorem lk_X1_23 : LkSN RX1 23 yX11_within cX11_within 3 (some .boolean) 3 := ⟨⟨⟨"PaperAger", List.mem_filter.mpr ⟨List.mem_of_getElem? (i := 942) (by decide +kernel), rfl⟩⟩, cw_X11_within, iw_X11_within, ⟨by decide, by decide, by decide⟩⟩, sw_X11_within⟩
theorem lk_X1_27 : LkV RX1 27 1 yX1_entry cX1_entry 4 (some .int) 2 := ⟨⟨mg 1035 (by decide +kernel) rfl, cw_X1_entry, iw_X1_entry, ⟨by decide, by decide, by decide⟩⟩, nw_X1_entry, RX1, _, _, ew_X1_entry, rfl, by decide⟩
theorem lk_X2_28 : LkV RX2 28 2 yX2_hasRoom cX2_hasRoom 1 (some .boolean) 0 := ⟨⟨mg 955 (by decide +kernel) rfl, cw_X2_hasRoom, iw_X2_hasRoom, ⟨by decide, by decide, by decide⟩⟩, nw_X2_hasRoom, RX2, _, _, ew_X2_hasRoom, rfl, by decide⟩
theorem cw_X3_isFull : Jvm.Cond.code yX3_isFull cX3_isFull 1 (some .boolean) ∈ GT := mg 825 (by decide +kernel) rfl
theorem iw_X3_isFull : Jvm.Cond.initialized yX3_isFull.cls ∈ GT := mg 81 (by decide +kernel) rfl
theorem nw_X3_isFull : Jvm.Cond.instanceMethod yX3_isFull ∈ GT := mg 823 (by decide +kernel) rfl
theorem ew_X3_isFull : Jvm.Cond.selects RX3 yX3_isFull yX3_isFull ∈ GT := mg 824 (by decide +kernel) rfl
theorem lk_X3_36 : LkV RX3 36 3 yX3_isFull cX3_isFull 1 (some .boolean) 0 := ⟨⟨mg 830 (by decide +kernel) rfl, cw_X3_isFull, iw_X3_isFull, ⟨by decide, by decide, by decide⟩⟩, nw_X3_isFull, RX3, _, _, ew_X3_isFull, rfl, by decide⟩
theorem cw_X3_add : Jvm.Cond.code yX3_add cX3_add 2 none ∈ GT := mg 838 (by decide +kernel) rfl
theorem iw_X3_add : Jvm.Cond.initialized yX3_add.cls ∈ GT := mg 81 (by decide +kernel) rfl
theorem nw_X3_add : Jvm.Cond.instanceMethod yX3_add ∈ GT := mg 836 (by decide +kernel) rfl
theorem ew_X3_add : Jvm.Cond.selects RX3 yX3_add yX3_add ∈ GT := mg 837 (by decide +kernel) rfl
theorem lk_X3_42 : LkV RX3 42 3 yX3_add cX3_add 2 none 1 := ⟨⟨mg 846 (by decide +kernel) rfl, cw_X3_add, iw_X3_add, ⟨by decide, by decide, by decide⟩⟩, nw_X3_add, RX3, _, _, ew_X3_add, rfl, by decide⟩
theorem cw_X3_work : Jvm.Cond.code yX3_work cX3_work 7 (some .int) ∈ GT := mg 570 (by decide +kernel) rfl
theorem iw_X3_work : Jvm.Cond.initialized yX3_work.cls ∈ GT := mg 81 (by decide +kernel) rfl
theorem nw_X3_work : Jvm.Cond.instanceMethod yX3_work ∈ GT := mg 569 (by decide +kernel) rfl
theorem ew_X3_work : Jvm.Cond.selects RX3 yX3_work yX3_work ∈ GT := mg 0 (by decide +kernel) rfl
theorem lk_X3_46 : LkV RX3 46 3 yX3_work cX3_work 7 (some .int) 3 := ⟨⟨mg 567 (by decide +kernel) rfl, cw_X3_work, iw_X3_work, ⟨by decide, by decide, by decide⟩⟩, nw_X3_work, RX3, _, _, ew_X3_work, rfl, by decide⟩
theorem cw_X3_held : Jvm.Cond.code yX3_held cX3_held 1 (some .int) ∈ GT := mg 579 (by decide +kernel) rfl
theorem iw_X3_held : Jvm.Cond.initialized yX3_held.cls ∈ GT := mg 81 (by decide +kernel) rfl
theorem sw_X3_held : Jvm.Cond.static yX3_held ∈ GT := mg 578 (by decide +kernel) rfl
theorem lk_X3_50 : LkS RX3 50 yX3_held cX3_held 1 (some .int) 1 := ⟨⟨mg 577 (by decide +kernel) rfl, cw_X3_held, iw_X3_held, ⟨by decide, by decide, by decide⟩⟩, sw_X3_held⟩
theorem cw_X3_operand : Jvm.Cond.code yX3_operand cX3_operand 3 (some .int) ∈ GT := mg 573 (by decide +kernel) rfl
theorem iw_X3_operand : Jvm.Cond.initialized yX3_operand.cls ∈ GT := mg 81 (by decide +kernel) rfl
theorem sw_X3_operand : Jvm.Cond.static yX3_operand ∈ GT := mg 572 (by decide +kernel) rfl
theorem lk_X3_63 : LkS RX3 63 yX3_operand cX3_operand 3 (some .int) 2 := ⟨⟨mg 571 (by decide +kernel) rfl, cw_X3_operand, iw_X3_operand, ⟨by decide, by decide, by decide⟩⟩, sw_X3_operand⟩
theorem cw_X3_joined : Jvm.Cond.code yX3_joined cX3_joined 3 (some .int) ∈ GT := mg 576 (by decide +kernel) rfl
theorem iw_X3_joined : Jvm.Cond.initialized yX3_joined.cls ∈ GT := mg 81 (by decide +kernel) rfl
theorem sw_X3_joined : Jvm.Cond.static yX3_joined ∈ GT := mg 575 (by decide +kernel) rfl
theorem lk_X3_67 : LkS RX3 67 yX3_joined cX3_joined 3 (some .int) 3 := ⟨⟨mg 574 (by decide +kernel) rfl, cw_X3_joined, iw_X3_joined, ⟨by decide, by decide, by decide⟩⟩, sw_X3_joined⟩
theorem cw_X4_begin : Jvm.Cond.code yX4_begin cX4_begin 1 none ∈ GT := mg 669 (by decide +kernel) rfl
theorem iw_X4_begin : Jvm.Cond.initialized yX4_begin.cls ∈ GT := mg 85 (by decide +kernel) rfl
theorem nw_X4_begin : Jvm.Cond.instanceMethod yX4_begin ∈ GT := mg 668 (by decide +kernel) rfl
theorem ew_X4_begin : Jvm.Cond.selects RX4 yX4_begin yX4_begin ∈ GT := mg 4 (by decide +kernel) rfl
theorem lk_X4_49 : LkV RX4 49 4 yX4_begin cX4_begin 1 none 0 := ⟨⟨mg 666 (by decide +kernel) rfl, cw_X4_begin, iw_X4_begin, ⟨by decide, by decide, by decide⟩⟩, nw_X4_begin, RX4, _, _, ew_X4_begin, rfl, by decide⟩
theorem cw_X9_advance : Jvm.Cond.code yX9_advance cX9_advance 3 none ∈ GT := mg 681 (by decide +kernel) rfl
theorem iw_X9_advance : Jvm.Cond.initialized yX9_advance.cls ∈ GT := mg 86 (by decide +kernel) rfl
theorem nw_X9_advance : Jvm.Cond.instanceMethod yX9_advance ∈ GT := mg 679 (by decide +kernel) rfl
theorem ew_X9_advance : Jvm.Cond.selects RX9 yX9_advance yX9_advance ∈ GT := mg 680 (by decide +kernel) rfl
theorem lk_X4_54 : LkV RX4 54 9 yX9_advance cX9_advance 3 none 1 := ⟨⟨mg 678 (by decide +kernel) rfl, cw_X9_advance, iw_X9_advance, ⟨by decide, by decide, by decide⟩⟩, nw_X9_advance, RX9, _, _, ew_X9_advance, rfl, by decide⟩
theorem cw_X4_takeLine : Jvm.Cond.code yX4_takeLine cX4_takeLine 2 none ∈ GT := mg 817 (by decide +kernel) rfl
theorem iw_X4_takeLine : Jvm.Cond.initialized yX4_takeLine.cls ∈ GT := mg 85 (by decide +kernel) rfl
theorem nw_X4_takeLine : Jvm.Cond.instanceMethod yX4_takeLine ∈ GT := mg 816 (by decide +kernel) rfl
theorem ew_X4_takeLine : Jvm.Cond.selects RX4 yX4_takeLine yX4_takeLine ∈ GT := mg 8 (by decide +kernel) rfl
theorem lk_X4_61 : LkV RX4 61 4 yX4_takeLine cX4_takeLine 2 none 1 := ⟨⟨mg 814 (by decide +kernel) rfl, cw_X4_takeLine, iw_X4_takeLine, ⟨by decide, by decide, by decide⟩⟩, nw_X4_takeLine, RX4, _, _, ew_X4_takeLine, rfl, by decide⟩
theorem cw_X4_takeUnit : Jvm.Cond.code yX4_takeUnit cX4_takeUnit 2 none ∈ GT := mg 834 (by decide +kernel) rfl
theorem iw_X4_takeUnit : Jvm.Cond.initialized yX4_takeUnit.cls ∈ GT := mg 85 (by decide +kernel) rfl
theorem nw_X4_takeUnit : Jvm.Cond.instanceMethod yX4_takeUnit ∈ GT := mg 833 (by decide +kernel) rfl
theorem ew_X4_takeUnit : Jvm.Cond.selects RX4 yX4_takeUnit yX4_takeUnit ∈ GT := mg 10 (by decide +kernel) rfl
theorem lk_X4_65 : LkV RX4 65 4 yX4_takeUnit cX4_takeUnit 2 none 1 := ⟨⟨mg 831 (by decide +kernel) rfl, cw_X4_takeUnit, iw_X4_takeUnit, ⟨by decide, by decide, by decide⟩⟩, nw_X4_takeUnit, RX4, _, _, ew_X4_takeUnit, rfl, by decide⟩
theorem cw_X4_takeDivisor : Jvm.Cond.code yX4_takeDivisor cX4_takeDivisor 2 none ∈ GT := mg 850 (by decide +kernel) rfl
theorem iw_X4_takeDivisor : Jvm.Cond.initialized yX4_takeDivisor.cls ∈ GT := mg 85 (by decide +kernel) rfl
theorem nw_X4_takeDivisor : Jvm.Cond.instanceMethod yX4_takeDivisor ∈ GT := mg 849 (by decide +kernel) rfl
theorem ew_X4_takeDivisor : Jvm.Cond.selects RX4 yX4_takeDivisor yX4_takeDivisor ∈ GT := mg 11 (by decide +kernel) rfl
theorem lk_X4_68 : LkV RX4 68 4 yX4_takeDivisor cX4_takeDivisor 2 none 1 := ⟨⟨mg 847 (by decide +kernel) rfl, cw_X4_takeDivisor, iw_X4_takeDivisor, ⟨by decide, by decide, by decide⟩⟩, nw_X4_takeDivisor, RX4, _, _, ew_X4_takeDivisor, rfl, by decide⟩
theorem cw_X4_takeTest : Jvm.Cond.code yX4_takeTest cX4_takeTest 2 none ∈ GT := mg 854 (by decide +kernel) rfl
theorem iw_X4_takeTest : Jvm.Cond.initialized yX4_takeTest.cls ∈ GT := mg 85 (by decide +kernel) rfl
theorem nw_X4_takeTest : Jvm.Cond.instanceMethod yX4_takeTest ∈ GT := mg 853 (by decide +kernel) rfl
theorem ew_X4_takeTest : Jvm.Cond.selects RX4 yX4_takeTest yX4_takeTest ∈ GT := mg 12 (by decide +kernel) rfl
theorem lk_X4_71 : LkV RX4 71 4 yX4_takeTest cX4_takeTest 2 none 1 := ⟨⟨mg 851 (by decide +kernel) rfl, cw_X4_takeTest, iw_X4_takeTest, ⟨by decide, by decide, by decide⟩⟩, nw_X4_takeTest, RX4, _, _, ew_X4_takeTest, rfl, by decide⟩
theorem cw_X4_takeOperator : Jvm.Cond.code yX4_takeOperator cX4_takeOperator 2 none ∈ GT := mg 866 (by decide +kernel) rfl
theorem iw_X4_takeOperator : Jvm.Cond.initialized yX4_takeOperator.cls ∈ GT := mg 85 (by decide +kernel) rfl
theorem nw_X4_takeOperator : Jvm.Cond.instanceMethod yX4_takeOperator ∈ GT := mg 865 (by decide +kernel) rfl
theorem ew_X4_takeOperator : Jvm.Cond.selects RX4 yX4_takeOperator yX4_takeOperator ∈ GT := mg 15 (by decide +kernel) rfl
theorem lk_X4_74 : LkV RX4 74 4 yX4_takeOperator cX4_takeOperator 2 none 1 := ⟨⟨mg 863 (by decide +kernel) rfl, cw_X4_takeOperator, iw_X4_takeOperator, ⟨by decide, by decide, by decide⟩⟩, nw_X4_takeOperator, RX4, _, _, ew_X4_takeOperator, rfl, by decide⟩
theorem cw_X4_takeJoint : Jvm.Cond.code yX4_takeJoint cX4_takeJoint 3 none ∈ GT := mg 903 (by decide +kernel) rfl
theorem iw_X4_takeJoint : Jvm.Cond.initialized yX4_takeJoint.cls ∈ GT := mg 85 (by decide +kernel) rfl
theorem nw_X4_takeJoint : Jvm.Cond.instanceMethod yX4_takeJoint ∈ GT := mg 902 (by decide +kernel) rfl
theorem ew_X4_takeJoint : Jvm.Cond.selects RX4 yX4_takeJoint yX4_takeJoint ∈ GT := mg 20 (by decide +kernel) rfl
theorem lk_X4_77 : LkV RX4 77 4 yX4_takeJoint cX4_takeJoint 3 none 1 := ⟨⟨mg 900 (by decide +kernel) rfl, cw_X4_takeJoint, iw_X4_takeJoint, ⟨by decide, by decide, by decide⟩⟩, nw_X4_takeJoint, RX4, _, _, ew_X4_takeJoint, rfl, by decide⟩
theorem cw_X3_clear : Jvm.Cond.code yX3_clear cX3_clear 1 none ∈ GT := mg 673 (by decide +kernel) rfl
theorem iw_X3_clear : Jvm.Cond.initialized yX3_clear.cls ∈ GT := mg 81 (by decide +kernel) rfl
theorem nw_X3_clear : Jvm.Cond.instanceMethod yX3_clear ∈ GT := mg 671 (by decide +kernel) rfl
theorem ew_X3_clear : Jvm.Cond.selects RX3 yX3_clear yX3_clear ∈ GT := mg 672 (by decide +kernel) rfl
theorem lk_X4_80 : LkV RX4 80 3 yX3_clear cX3_clear 1 none 0 := ⟨⟨mg 670 (by decide +kernel) rfl, cw_X3_clear, iw_X3_clear, ⟨by decide, by decide, by decide⟩⟩, nw_X3_clear, RX3, _, _, ew_X3_clear, rfl, by decide⟩
theorem cw_X9_begin : Jvm.Cond.code yX9_begin cX9_begin 1 none ∈ GT := mg 677 (by decide +kernel) rfl
theorem iw_X9_begin : Jvm.Cond.initialized yX9_begin.cls ∈ GT := mg 86 (by decide +kernel) rfl
theorem nw_X9_begin : Jvm.Cond.instanceMethod yX9_begin ∈ GT := mg 675 (by decide +kernel) rfl
theorem ew_X9_begin : Jvm.Cond.selects RX9 yX9_begin yX9_begin ∈ GT := mg 676 (by decide +kernel) rfl
theorem lk_X4_83 : LkV RX4 83 9 yX9_begin cX9_begin 1 none 0 := ⟨⟨mg 674 (by decide +kernel) rfl, cw_X9_begin, iw_X9_begin, ⟨by decide, by decide, by decide⟩⟩, nw_X9_begin, RX9, _, _, ew_X9_begin, rfl, by decide⟩
theorem cw_X4_refuse : Jvm.Cond.code yX4_refuse cX4_refuse 2 none ∈ GT := mg 821 (by decide +kernel) rfl
theorem iw_X4_refuse : Jvm.Cond.initialized yX4_refuse.cls ∈ GT := mg 85 (by decide +kernel) rfl
theorem nw_X4_refuse : Jvm.Cond.instanceMethod yX4_refuse ∈ GT := mg 820 (by decide +kernel) rfl
theorem ew_X4_refuse : Jvm.Cond.selects RX4 yX4_refuse yX4_refuse ∈ GT := mg 9 (by decide +kernel) rfl
theorem lk_X4_87 : LkV RX4 87 4 yX4_refuse cX4_refuse 2 none 1 := ⟨⟨mg 818 (by decide +kernel) rfl, cw_X4_refuse, iw_X4_refuse, ⟨by decide, by decide, by decide⟩⟩, nw_X4_refuse, RX4, _, _, ew_X4_refuse, rfl, by decide⟩
theorem lk_X4_90 : LkV RX4 90 3 yX3_isFull cX3_isFull 1 (some .boolean) 0 := ⟨⟨mg 822 (by decide +kernel) rfl, cw_X3_isFull, iw_X3_isFull, ⟨by decide, by decide, by decide⟩⟩, nw_X3_isFull, RX3, _, _, ew_X3_isFull, rfl, by decide⟩
theorem cw_X3_startLine : Jvm.Cond.code yX3_startLine cX3_startLine 1 none ∈ GT := mg 829 (by decide +kernel) rfl
theorem iw_X3_startLine : Jvm.Cond.initialized yX3_startLine.cls ∈ GT := mg 81 (by decide +kernel) rfl
theorem nw_X3_startLine : Jvm.Cond.instanceMethod yX3_startLine ∈ GT := mg 827 (by decide +kernel) rfl
theorem ew_X3_startLine : Jvm.Cond.selects RX3 yX3_startLine yX3_startLine ∈ GT := mg 828 (by decide +kernel) rfl
theorem lk_X4_94 : LkV RX4 94 3 yX3_startLine cX3_startLine 1 none 0 := ⟨⟨mg 826 (by decide +kernel) rfl, cw_X3_startLine, iw_X3_startLine, ⟨by decide, by decide, by decide⟩⟩, nw_X3_startLine, RX3, _, _, ew_X3_startLine, rfl, by decide⟩
theorem lk_X4_100 : LkV RX4 100 3 yX3_add cX3_add 2 none 1 := ⟨⟨mg 835 (by decide +kernel) rfl, cw_X3_add, iw_X3_add, ⟨by decide, by decide, by decide⟩⟩, nw_X3_add, RX3, _, _, ew_X3_add, rfl, by decide⟩
theorem cw_X9_isFact : Jvm.Cond.code yX9_isFact cX9_isFact 1 (some .boolean) ∈ GT := mg 841 (by decide +kernel) rfl
theorem iw_X9_isFact : Jvm.Cond.initialized yX9_isFact.cls ∈ GT := mg 86 (by decide +kernel) rfl
theorem sw_X9_isFact : Jvm.Cond.static yX9_isFact ∈ GT := mg 840 (by decide +kernel) rfl
theorem lk_X4_103 : LkS RX4 103 yX9_isFact cX9_isFact 1 (some .boolean) 1 := ⟨⟨mg 839 (by decide +kernel) rfl, cw_X9_isFact, iw_X9_isFact, ⟨by decide, by decide, by decide⟩⟩, sw_X9_isFact⟩
theorem cw_X3_addFact : Jvm.Cond.code yX3_addFact cX3_addFact 2 none ∈ GT := mg 845 (by decide +kernel) rfl
theorem iw_X3_addFact : Jvm.Cond.initialized yX3_addFact.cls ∈ GT := mg 81 (by decide +kernel) rfl
theorem nw_X3_addFact : Jvm.Cond.instanceMethod yX3_addFact ∈ GT := mg 843 (by decide +kernel) rfl
theorem ew_X3_addFact : Jvm.Cond.selects RX3 yX3_addFact yX3_addFact ∈ GT := mg 844 (by decide +kernel) rfl
theorem lk_X4_107 : LkV RX4 107 3 yX3_addFact cX3_addFact 2 none 1 := ⟨⟨mg 842 (by decide +kernel) rfl, cw_X3_addFact, iw_X3_addFact, ⟨by decide, by decide, by decide⟩⟩, nw_X3_addFact, RX3, _, _, ew_X3_addFact, rfl, by decide⟩
theorem cw_X4_countWaiting : Jvm.Cond.code yX4_countWaiting cX4_countWaiting 4 (some .int) ∈ GT := mg 858 (by decide +kernel) rfl
theorem iw_X4_countWaiting : Jvm.Cond.initialized yX4_countWaiting.cls ∈ GT := mg 85 (by decide +kernel) rfl
theorem nw_X4_countWaiting : Jvm.Cond.instanceMethod yX4_countWaiting ∈ GT := mg 857 (by decide +kernel) rfl
theorem ew_X4_countWaiting : Jvm.Cond.selects RX4 yX4_countWaiting yX4_countWaiting ∈ GT := mg 13 (by decide +kernel) rfl
theorem lk_X4_110 : LkV RX4 110 4 yX4_countWaiting cX4_countWaiting 4 (some .int) 1 := ⟨⟨mg 855 (by decide +kernel) rfl, cw_X4_countWaiting, iw_X4_countWaiting, ⟨by decide, by decide, by decide⟩⟩, nw_X4_countWaiting, RX4, _, _, ew_X4_countWaiting, rfl, by decide⟩
theorem cw_X4_putSign : Jvm.Cond.code yX4_putSign cX4_putSign 2 none ∈ GT := mg 862 (by decide +kernel) rfl
theorem iw_X4_putSign : Jvm.Cond.initialized yX4_putSign.cls ∈ GT := mg 85 (by decide +kernel) rfl
theorem nw_X4_putSign : Jvm.Cond.instanceMethod yX4_putSign ∈ GT := mg 861 (by decide +kernel) rfl
theorem ew_X4_putSign : Jvm.Cond.selects RX4 yX4_putSign yX4_putSign ∈ GT := mg 14 (by decide +kernel) rfl
theorem lk_X4_114 : LkV RX4 114 4 yX4_putSign cX4_putSign 2 none 1 := ⟨⟨mg 859 (by decide +kernel) rfl, cw_X4_putSign, iw_X4_putSign, ⟨by decide, by decide, by decide⟩⟩, nw_X4_putSign, RX4, _, _, ew_X4_putSign, rfl, by decide⟩
theorem cw_X9_isArithmetic : Jvm.Cond.code yX9_isArithmetic cX9_isArithmetic 1 (some .boolean) ∈ GT := mg 869 (by decide +kernel) rfl
theorem iw_X9_isArithmetic : Jvm.Cond.initialized yX9_isArithmetic.cls ∈ GT := mg 86 (by decide +kernel) rfl
theorem sw_X9_isArithmetic : Jvm.Cond.static yX9_isArithmetic ∈ GT := mg 868 (by decide +kernel) rfl
theorem lk_X4_117 : LkS RX4 117 yX9_isArithmetic cX9_isArithmetic 1 (some .boolean) 1 := ⟨⟨mg 867 (by decide +kernel) rfl, cw_X9_isArithmetic, iw_X9_isArithmetic, ⟨by decide, by decide, by decide⟩⟩, sw_X9_isArithmetic⟩
theorem cw_X4_putBinding : Jvm.Cond.code yX4_putBinding cX4_putBinding 2 none ∈ GT := mg 873 (by decide +kernel) rfl
theorem iw_X4_putBinding : Jvm.Cond.initialized yX4_putBinding.cls ∈ GT := mg 85 (by decide +kernel) rfl
theorem nw_X4_putBinding : Jvm.Cond.instanceMethod yX4_putBinding ∈ GT := mg 872 (by decide +kernel) rfl
theorem ew_X4_putBinding : Jvm.Cond.selects RX4 yX4_putBinding yX4_putBinding ∈ GT := mg 16 (by decide +kernel) rfl
theorem lk_X4_120 : LkV RX4 120 4 yX4_putBinding cX4_putBinding 2 none 1 := ⟨⟨mg 870 (by decide +kernel) rfl, cw_X4_putBinding, iw_X4_putBinding, ⟨by decide, by decide, by decide⟩⟩, nw_X4_putBinding, RX4, _, _, ew_X4_putBinding, rfl, by decide⟩
theorem cw_X9_isComparison : Jvm.Cond.code yX9_isComparison cX9_isComparison 1 (some .boolean) ∈ GT := mg 883 (by decide +kernel) rfl
theorem iw_X9_isComparison : Jvm.Cond.initialized yX9_isComparison.cls ∈ GT := mg 86 (by decide +kernel) rfl
theorem sw_X9_isComparison : Jvm.Cond.static yX9_isComparison ∈ GT := mg 882 (by decide +kernel) rfl
theorem lk_X4_123 : LkS RX4 123 yX9_isComparison cX9_isComparison 1 (some .boolean) 1 := ⟨⟨mg 881 (by decide +kernel) rfl, cw_X9_isComparison, iw_X9_isComparison, ⟨by decide, by decide, by decide⟩⟩, sw_X9_isComparison⟩
theorem cw_X4_takeEndOfAge : Jvm.Cond.code yX4_takeEndOfAge cX4_takeEndOfAge 1 none ∈ GT := mg 887 (by decide +kernel) rfl
theorem iw_X4_takeEndOfAge : Jvm.Cond.initialized yX4_takeEndOfAge.cls ∈ GT := mg 85 (by decide +kernel) rfl
theorem nw_X4_takeEndOfAge : Jvm.Cond.instanceMethod yX4_takeEndOfAge ∈ GT := mg 886 (by decide +kernel) rfl
theorem ew_X4_takeEndOfAge : Jvm.Cond.selects RX4 yX4_takeEndOfAge yX4_takeEndOfAge ∈ GT := mg 18 (by decide +kernel) rfl
theorem lk_X4_126 : LkV RX4 126 4 yX4_takeEndOfAge cX4_takeEndOfAge 1 none 0 := ⟨⟨mg 884 (by decide +kernel) rfl, cw_X4_takeEndOfAge, iw_X4_takeEndOfAge, ⟨by decide, by decide, by decide⟩⟩, nw_X4_takeEndOfAge, RX4, _, _, ew_X4_takeEndOfAge, rfl, by decide⟩
theorem cw_X4_takeEndOfLine : Jvm.Cond.code yX4_takeEndOfLine cX4_takeEndOfLine 1 none ∈ GT := mg 895 (by decide +kernel) rfl
theorem iw_X4_takeEndOfLine : Jvm.Cond.initialized yX4_takeEndOfLine.cls ∈ GT := mg 85 (by decide +kernel) rfl
theorem nw_X4_takeEndOfLine : Jvm.Cond.instanceMethod yX4_takeEndOfLine ∈ GT := mg 894 (by decide +kernel) rfl
theorem ew_X4_takeEndOfLine : Jvm.Cond.selects RX4 yX4_takeEndOfLine yX4_takeEndOfLine ∈ GT := mg 19 (by decide +kernel) rfl
theorem lk_X4_129 : LkV RX4 129 4 yX4_takeEndOfLine cX4_takeEndOfLine 1 none 0 := ⟨⟨mg 892 (by decide +kernel) rfl, cw_X4_takeEndOfLine, iw_X4_takeEndOfLine, ⟨by decide, by decide, by decide⟩⟩, nw_X4_takeEndOfLine, RX4, _, _, ew_X4_takeEndOfLine, rfl, by decide⟩
theorem cw_X4_releaseFrom : Jvm.Cond.code yX4_releaseFrom cX4_releaseFrom 2 none ∈ GT := mg 880 (by decide +kernel) rfl
theorem iw_X4_releaseFrom : Jvm.Cond.initialized yX4_releaseFrom.cls ∈ GT := mg 85 (by decide +kernel) rfl
theorem nw_X4_releaseFrom : Jvm.Cond.instanceMethod yX4_releaseFrom ∈ GT := mg 879 (by decide +kernel) rfl
theorem ew_X4_releaseFrom : Jvm.Cond.selects RX4 yX4_releaseFrom yX4_releaseFrom ∈ GT := mg 17 (by decide +kernel) rfl
theorem lk_X4_132 : LkV RX4 132 4 yX4_releaseFrom cX4_releaseFrom 2 none 1 := ⟨⟨mg 877 (by decide +kernel) rfl, cw_X4_releaseFrom, iw_X4_releaseFrom, ⟨by decide, by decide, by decide⟩⟩, nw_X4_releaseFrom, RX4, _, _, ew_X4_releaseFrom, rfl, by decide⟩
theorem cw_X3_endAge : Jvm.Cond.code yX3_endAge cX3_endAge 1 none ∈ GT := mg 891 (by decide +kernel) rfl
theorem iw_X3_endAge : Jvm.Cond.initialized yX3_endAge.cls ∈ GT := mg 81 (by decide +kernel) rfl
theorem nw_X3_endAge : Jvm.Cond.instanceMethod yX3_endAge ∈ GT := mg 889 (by decide +kernel) rfl
theorem ew_X3_endAge : Jvm.Cond.selects RX3 yX3_endAge yX3_endAge ∈ GT := mg 890 (by decide +kernel) rfl
theorem lk_X4_135 : LkV RX4 135 3 yX3_endAge cX3_endAge 1 none 0 := ⟨⟨mg 888 (by decide +kernel) rfl, cw_X3_endAge, iw_X3_endAge, ⟨by decide, by decide, by decide⟩⟩, nw_X3_endAge, RX3, _, _, ew_X3_endAge, rfl, by decide⟩
theorem cw_X3_endLine : Jvm.Cond.code yX3_endLine cX3_endLine 1 none ∈ GT := mg 899 (by decide +kernel) rfl
theorem iw_X3_endLine : Jvm.Cond.initialized yX3_endLine.cls ∈ GT := mg 81 (by decide +kernel) rfl
theorem nw_X3_endLine : Jvm.Cond.instanceMethod yX3_endLine ∈ GT := mg 897 (by decide +kernel) rfl
theorem ew_X3_endLine : Jvm.Cond.selects RX3 yX3_endLine yX3_endLine ∈ GT := mg 898 (by decide +kernel) rfl
theorem lk_X4_138 : LkV RX4 138 3 yX3_endLine cX3_endLine 1 none 0 := ⟨⟨mg 896 (by decide +kernel) rfl, cw_X3_endLine, iw_X3_endLine, ⟨by decide, by decide, by decide⟩⟩, nw_X3_endLine, RX3, _, _, ew_X3_endLine, rfl, by decide⟩
theorem cw_X9_bindingOf : Jvm.Cond.code yX9_bindingOf cX9_bindingOf 1 (some .int) ∈ GT := mg 876 (by decide +kernel) rfl
theorem iw_X9_bindingOf : Jvm.Cond.initialized yX9_bindingOf.cls ∈ GT := mg 86 (by decide +kernel) rfl
theorem sw_X9_bindingOf : Jvm.Cond.static yX9_bindingOf ∈ GT := mg 875 (by decide +kernel) rfl
theorem lk_X4_141 : LkS RX4 141 yX9_bindingOf cX9_bindingOf 1 (some .int) 1 := ⟨⟨mg 874 (by decide +kernel) rfl, cw_X9_bindingOf, iw_X9_bindingOf, ⟨by decide, by decide, by decide⟩⟩, sw_X9_bindingOf⟩
theorem lk_X5_24 : LkV RX5 24 5 yX5_becomeUnread cX5_becomeUnread 2 none 1 := ⟨⟨mg 509 (by decide +kernel) rfl, cw_X5_becomeUnread, iw_X5_becomeUnread, ⟨by decide, by decide, by decide⟩⟩, nw_X5_becomeUnread, RX5, _, _, ew_X5_becomeUnread, rfl, by decide⟩
theorem lk_X6_27 : LkSN RX6 27 yX11_within cX11_within 3 (some .boolean) 3 := ⟨⟨⟨"PaperAger", List.mem_filter.mpr ⟨List.mem_of_getElem? (i := 497) (by decide +kernel), rfl⟩⟩, cw_X11_within, iw_X11_within, ⟨by decide, by decide, by decide⟩⟩, sw_X11_within⟩
theorem lk_X7_19 : LkV RX7 19 7 yX7_hasRoom cX7_hasRoom 2 (some .boolean) 1 := ⟨⟨mg 653 (by decide +kernel) rfl, cw_X7_hasRoom, iw_X7_hasRoom, ⟨by decide, by decide, by decide⟩⟩, nw_X7_hasRoom, RX7, _, _, ew_X7_hasRoom, rfl, by decide⟩
theorem lk_X7_23 : LkSN RX7 23 yX11_within cX11_within 3 (some .boolean) 3 := ⟨⟨⟨"PaperAger", List.mem_filter.mpr ⟨List.mem_of_getElem? (i := 686) (by decide +kernel), rfl⟩⟩, cw_X11_within, iw_X11_within, ⟨by decide, by decide, by decide⟩⟩, sw_X11_within⟩
theorem cw_X8_claimsStand : Jvm.Cond.code yX8_claimsStand cX8_claimsStand 5 (some .boolean) ∈ GT := mg 971 (by decide +kernel) rfl
theorem iw_X8_claimsStand : Jvm.Cond.initialized yX8_claimsStand.cls ∈ GT := mg 88 (by decide +kernel) rfl
theorem nw_X8_claimsStand : Jvm.Cond.instanceMethod yX8_claimsStand ∈ GT := mg 970 (by decide +kernel) rfl
theorem ew_X8_claimsStand : Jvm.Cond.selects RX8 yX8_claimsStand yX8_claimsStand ∈ GT := mg 21 (by decide +kernel) rfl
theorem lk_X8_41 : LkV RX8 41 8 yX8_claimsStand cX8_claimsStand 5 (some .boolean) 2 := ⟨⟨mg 968 (by decide +kernel) rfl, cw_X8_claimsStand, iw_X8_claimsStand, ⟨by decide, by decide, by decide⟩⟩, nw_X8_claimsStand, RX8, _, _, ew_X8_claimsStand, rfl, by decide⟩
theorem cw_X8_imagine : Jvm.Cond.code yX8_imagine cX8_imagine 6 (some (.object "PaperAger$Paper")) ∈ GT := mg 977 (by decide +kernel) rfl
theorem iw_X8_imagine : Jvm.Cond.initialized yX8_imagine.cls ∈ GT := mg 88 (by decide +kernel) rfl
theorem nw_X8_imagine : Jvm.Cond.instanceMethod yX8_imagine ∈ GT := mg 976 (by decide +kernel) rfl
theorem ew_X8_imagine : Jvm.Cond.selects RX8 yX8_imagine yX8_imagine ∈ GT := mg 22 (by decide +kernel) rfl
theorem lk_X8_51 : LkV RX8 51 8 yX8_imagine cX8_imagine 6 (some (.object "PaperAger$Paper")) 4 := ⟨⟨mg 974 (by decide +kernel) rfl, cw_X8_imagine, iw_X8_imagine, ⟨by decide, by decide, by decide⟩⟩, nw_X8_imagine, RX8, _, _, ew_X8_imagine, rfl, by decide⟩
theorem lk_X8_55 : LkV RX8 55 0 yX0_readerAt cX0_readerAt 2 (some (.object "PaperAger$Reader")) 1 := ⟨⟨mg 978 (by decide +kernel) rfl, cw_X0_readerAt, iw_X0_readerAt, ⟨by decide, by decide, by decide⟩⟩, nw_X0_readerAt, RX0, _, _, ew_X0_readerAt, rfl, by decide⟩
theorem lk_X8_59 : LkV RX8 59 6 yX6_livesOn cX6_livesOn 2 (some .boolean) 1 := ⟨⟨mg 979 (by decide +kernel) rfl, cw_X6_livesOn, iw_X6_livesOn, ⟨by decide, by decide, by decide⟩⟩, nw_X6_livesOn, RX6, _, _, ew_X6_livesOn, rfl, by decide⟩
theorem lk_X8_65 : LkV RX8 65 5 yX5_copyFrom cX5_copyFrom 2 none 1 := ⟨⟨mg 980 (by decide +kernel) rfl, cw_X5_copyFrom, iw_X5_copyFrom, ⟨by decide, by decide, by decide⟩⟩, nw_X5_copyFrom, RX5, _, _, ew_X5_copyFrom, rfl, by decide⟩
theorem lk_X8_69 : LkV RX8 69 6 yX6_yearsOn cX6_yearsOn 2 (some .int) 1 := ⟨⟨mg 981 (by decide +kernel) rfl, cw_X6_yearsOn, iw_X6_yearsOn, ⟨by decide, by decide, by decide⟩⟩, nw_X6_yearsOn, RX6, _, _, ew_X6_yearsOn, rfl, by decide⟩
theorem lk_X8_73 : LkV RX8 73 5 yX5_takeReading cX5_takeReading 4 none 3 := ⟨⟨mg 982 (by decide +kernel) rfl, cw_X5_takeReading, iw_X5_takeReading, ⟨by decide, by decide, by decide⟩⟩, nw_X5_takeReading, RX5, _, _, ew_X5_takeReading, rfl, by decide⟩
theorem lk_X8_94 : LkV RX8 94 0 yX0_ageOf cX0_ageOf 4 (some .int) 2 := ⟨⟨mg 972 (by decide +kernel) rfl, cw_X0_ageOf, iw_X0_ageOf, ⟨by decide, by decide, by decide⟩⟩, nw_X0_ageOf, RX0, _, _, ew_X0_ageOf, rfl, by decide⟩
theorem lk_X8_104 : LkSN RX8 104 yX11_within cX11_within 3 (some .boolean) 3 := ⟨⟨⟨"PaperAger", List.mem_filter.mpr ⟨List.mem_of_getElem? (i := 973) (by decide +kernel), rfl⟩⟩, cw_X11_within, iw_X11_within, ⟨by decide, by decide, by decide⟩⟩, sw_X11_within⟩
theorem cw_J6_bitCount_0f7a4 : Jvm.Cond.code yJ6_bitCount_0f7a4 cJ6_bitCount_0f7a4 1 (some .int) ∈ GT := mg 989 (by decide +kernel) rfl
theorem iw_J6_bitCount_0f7a4 : Jvm.Cond.initialized yJ6_bitCount_0f7a4.cls ∈ GT := mg 97 (by decide +kernel) rfl
theorem sw_J6_bitCount_0f7a4 : Jvm.Cond.static yJ6_bitCount_0f7a4 ∈ GT := mg 988 (by decide +kernel) rfl
theorem lk_X8_108 : LkS RX8 108 yJ6_bitCount_0f7a4 cJ6_bitCount_0f7a4 1 (some .int) 1 := ⟨⟨mg 987 (by decide +kernel) rfl, cw_J6_bitCount_0f7a4, iw_J6_bitCount_0f7a4, ⟨by decide, by decide, by decide⟩⟩, sw_J6_bitCount_0f7a4⟩
theorem cw_X8_suffices : Jvm.Cond.code yX8_suffices cX8_suffices 4 (some .boolean) ∈ GT := mg 996 (by decide +kernel) rfl
theorem iw_X8_suffices : Jvm.Cond.initialized yX8_suffices.cls ∈ GT := mg 88 (by decide +kernel) rfl
theorem nw_X8_suffices : Jvm.Cond.instanceMethod yX8_suffices ∈ GT := mg 995 (by decide +kernel) rfl
theorem ew_X8_suffices : Jvm.Cond.selects RX8 yX8_suffices yX8_suffices ∈ GT := mg 23 (by decide +kernel) rfl
theorem lk_X8_113 : LkV RX8 113 8 yX8_suffices cX8_suffices 4 (some .boolean) 2 := ⟨⟨mg 993 (by decide +kernel) rfl, cw_X8_suffices, iw_X8_suffices, ⟨by decide, by decide, by decide⟩⟩, nw_X8_suffices, RX8, _, _, ew_X8_suffices, rfl, by decide⟩
theorem cw_J6_numberOfTrailingZeros_0f7a4 : Jvm.Cond.code yJ6_numberOfTrailingZeros_0f7a4 cJ6_numberOfTrailingZeros_0f7a4 2 (some .int) ∈ GT := mg 1003 (by decide +kernel) rfl
theorem iw_J6_numberOfTrailingZeros_0f7a4 : Jvm.Cond.initialized yJ6_numberOfTrailingZeros_0f7a4.cls ∈ GT := mg 97 (by decide +kernel) rfl
theorem sw_J6_numberOfTrailingZeros_0f7a4 : Jvm.Cond.static yJ6_numberOfTrailingZeros_0f7a4 ∈ GT := mg 1002 (by decide +kernel) rfl
theorem lk_X8_117 : LkS RX8 117 yJ6_numberOfTrailingZeros_0f7a4 cJ6_numberOfTrailingZeros_0f7a4 2 (some .int) 1 := ⟨⟨mg 1001 (by decide +kernel) rfl, cw_J6_numberOfTrailingZeros_0f7a4, iw_J6_numberOfTrailingZeros_0f7a4, ⟨by decide, by decide, by decide⟩⟩, sw_J6_numberOfTrailingZeros_0f7a4⟩
theorem cw_X8_countThumb : Jvm.Cond.code yX8_countThumb cX8_countThumb 3 none ∈ GT := mg 1017 (by decide +kernel) rfl
theorem iw_X8_countThumb : Jvm.Cond.initialized yX8_countThumb.cls ∈ GT := mg 88 (by decide +kernel) rfl
theorem nw_X8_countThumb : Jvm.Cond.instanceMethod yX8_countThumb ∈ GT := mg 1016 (by decide +kernel) rfl
theorem ew_X8_countThumb : Jvm.Cond.selects RX8 yX8_countThumb yX8_countThumb ∈ GT := mg 24 (by decide +kernel) rfl
theorem lk_X8_129 : LkV RX8 129 8 yX8_countThumb cX8_countThumb 3 none 2 := ⟨⟨mg 1014 (by decide +kernel) rfl, cw_X8_countThumb, iw_X8_countThumb, ⟨by decide, by decide, by decide⟩⟩, nw_X8_countThumb, RX8, _, _, ew_X8_countThumb, rfl, by decide⟩
theorem cw_X7_signAt : Jvm.Cond.code yX7_signAt cX7_signAt 2 (some .int) ∈ GT := mg 685 (by decide +kernel) rfl
theorem iw_X7_signAt : Jvm.Cond.initialized yX7_signAt.cls ∈ GT := mg 84 (by decide +kernel) rfl
theorem nw_X7_signAt : Jvm.Cond.instanceMethod yX7_signAt ∈ GT := mg 683 (by decide +kernel) rfl
theorem ew_X7_signAt : Jvm.Cond.selects RX7 yX7_signAt yX7_signAt ∈ GT := mg 684 (by decide +kernel) rfl
theorem lk_X9_29 : LkV RX9 29 7 yX7_signAt cX7_signAt 2 (some .int) 1 := ⟨⟨mg 682 (by decide +kernel) rfl, cw_X7_signAt, iw_X7_signAt, ⟨by decide, by decide, by decide⟩⟩, nw_X7_signAt, RX7, _, _, ew_X7_signAt, rfl, by decide⟩
theorem cw_X9_isBlank : Jvm.Cond.code yX9_isBlank cX9_isBlank 1 (some .boolean) ∈ GT := mg 689 (by decide +kernel) rfl
theorem iw_X9_isBlank : Jvm.Cond.initialized yX9_isBlank.cls ∈ GT := mg 86 (by decide +kernel) rfl
theorem sw_X9_isBlank : Jvm.Cond.static yX9_isBlank ∈ GT := mg 688 (by decide +kernel) rfl
theorem lk_X9_33 : LkS RX9 33 yX9_isBlank cX9_isBlank 1 (some .boolean) 1 := ⟨⟨mg 687 (by decide +kernel) rfl, cw_X9_isBlank, iw_X9_isBlank, ⟨by decide, by decide, by decide⟩⟩, sw_X9_isBlank⟩
theorem cw_X9_isLetter : Jvm.Cond.code yX9_isLetter cX9_isLetter 1 (some .boolean) ∈ GT := mg 692 (by decide +kernel) rfl
theorem iw_X9_isLetter : Jvm.Cond.initialized yX9_isLetter.cls ∈ GT := mg 86 (by decide +kernel) rfl
theorem sw_X9_isLetter : Jvm.Cond.static yX9_isLetter ∈ GT := mg 691 (by decide +kernel) rfl
theorem lk_X9_37 : LkS RX9 37 yX9_isLetter cX9_isLetter 1 (some .boolean) 1 := ⟨⟨mg 690 (by decide +kernel) rfl, cw_X9_isLetter, iw_X9_isLetter, ⟨by decide, by decide, by decide⟩⟩, sw_X9_isLetter⟩
theorem cw_X9_takeWord : Jvm.Cond.code yX9_takeWord cX9_takeWord 7 none ∈ GT := mg 697 (by decide +kernel) rfl
theorem iw_X9_takeWord : Jvm.Cond.initialized yX9_takeWord.cls ∈ GT := mg 86 (by decide +kernel) rfl
theorem nw_X9_takeWord : Jvm.Cond.instanceMethod yX9_takeWord ∈ GT := mg 696 (by decide +kernel) rfl
theorem ew_X9_takeWord : Jvm.Cond.selects RX9 yX9_takeWord yX9_takeWord ∈ GT := mg 5 (by decide +kernel) rfl
theorem lk_X9_40 : LkV RX9 40 9 yX9_takeWord cX9_takeWord 7 none 1 := ⟨⟨mg 694 (by decide +kernel) rfl, cw_X9_takeWord, iw_X9_takeWord, ⟨by decide, by decide, by decide⟩⟩, nw_X9_takeWord, RX9, _, _, ew_X9_takeWord, rfl, by decide⟩
theorem cw_X9_isDigit : Jvm.Cond.code yX9_isDigit cX9_isDigit 1 (some .boolean) ∈ GT := mg 749 (by decide +kernel) rfl
theorem iw_X9_isDigit : Jvm.Cond.initialized yX9_isDigit.cls ∈ GT := mg 86 (by decide +kernel) rfl
theorem sw_X9_isDigit : Jvm.Cond.static yX9_isDigit ∈ GT := mg 748 (by decide +kernel) rfl
theorem lk_X9_44 : LkS RX9 44 yX9_isDigit cX9_isDigit 1 (some .boolean) 1 := ⟨⟨mg 747 (by decide +kernel) rfl, cw_X9_isDigit, iw_X9_isDigit, ⟨by decide, by decide, by decide⟩⟩, sw_X9_isDigit⟩
theorem cw_X9_takeNumber : Jvm.Cond.code yX9_takeNumber cX9_takeNumber 2 none ∈ GT := mg 753 (by decide +kernel) rfl
theorem iw_X9_takeNumber : Jvm.Cond.initialized yX9_takeNumber.cls ∈ GT := mg 86 (by decide +kernel) rfl
theorem nw_X9_takeNumber : Jvm.Cond.instanceMethod yX9_takeNumber ∈ GT := mg 752 (by decide +kernel) rfl
theorem ew_X9_takeNumber : Jvm.Cond.selects RX9 yX9_takeNumber yX9_takeNumber ∈ GT := mg 6 (by decide +kernel) rfl
theorem lk_X9_47 : LkV RX9 47 9 yX9_takeNumber cX9_takeNumber 2 none 1 := ⟨⟨mg 750 (by decide +kernel) rfl, cw_X9_takeNumber, iw_X9_takeNumber, ⟨by decide, by decide, by decide⟩⟩, nw_X9_takeNumber, RX9, _, _, ew_X9_takeNumber, rfl, by decide⟩
theorem cw_X9_takeSign : Jvm.Cond.code yX9_takeSign cX9_takeSign 3 none ∈ GT := mg 757 (by decide +kernel) rfl
theorem iw_X9_takeSign : Jvm.Cond.initialized yX9_takeSign.cls ∈ GT := mg 86 (by decide +kernel) rfl
theorem nw_X9_takeSign : Jvm.Cond.instanceMethod yX9_takeSign ∈ GT := mg 756 (by decide +kernel) rfl
theorem ew_X9_takeSign : Jvm.Cond.selects RX9 yX9_takeSign yX9_takeSign ∈ GT := mg 7 (by decide +kernel) rfl
theorem lk_X9_50 : LkV RX9 50 9 yX9_takeSign cX9_takeSign 3 none 1 := ⟨⟨mg 754 (by decide +kernel) rfl, cw_X9_takeSign, iw_X9_takeSign, ⟨by decide, by decide, by decide⟩⟩, nw_X9_takeSign, RX9, _, _, ew_X9_takeSign, rfl, by decide⟩
theorem cw_J0_length_8abf5 : Jvm.Cond.code yJ0_length_8abf5 cJ0_length_8abf5 1 (some .int) ∈ GT := mg 702 (by decide +kernel) rfl
theorem iw_J0_length_8abf5 : Jvm.Cond.initialized yJ0_length_8abf5.cls ∈ GT := mg 91 (by decide +kernel) rfl
theorem nw_J0_length_8abf5 : Jvm.Cond.instanceMethod yJ0_length_8abf5 ∈ GT := mg 700 (by decide +kernel) rfl
theorem ew_J0_length_8abf5 : Jvm.Cond.selects "java/lang/String" yJ0_length_8abf5 yJ0_length_8abf5 ∈ GT := mg 701 (by decide +kernel) rfl
theorem lk_X9_56 : LkT RX9 56 yJ0_length_8abf5 cJ0_length_8abf5 1 (some .int) 0 := ⟨⟨mg 699 (by decide +kernel) rfl, cw_J0_length_8abf5, iw_J0_length_8abf5, ⟨by decide, by decide, by decide⟩⟩, nw_J0_length_8abf5, ew_J0_length_8abf5⟩
theorem cw_J0_charAt_5068e : Jvm.Cond.code yJ0_charAt_5068e cJ0_charAt_5068e 2 (some .char) ∈ GT := mg 712 (by decide +kernel) rfl
theorem iw_J0_charAt_5068e : Jvm.Cond.initialized yJ0_charAt_5068e.cls ∈ GT := mg 91 (by decide +kernel) rfl
theorem nw_J0_charAt_5068e : Jvm.Cond.instanceMethod yJ0_charAt_5068e ∈ GT := mg 710 (by decide +kernel) rfl
theorem ew_J0_charAt_5068e : Jvm.Cond.selects "java/lang/String" yJ0_charAt_5068e yJ0_charAt_5068e ∈ GT := mg 711 (by decide +kernel) rfl
theorem lk_X9_62 : LkT RX9 62 yJ0_charAt_5068e cJ0_charAt_5068e 2 (some .char) 1 := ⟨⟨mg 709 (by decide +kernel) rfl, cw_J0_charAt_5068e, iw_J0_charAt_5068e, ⟨by decide, by decide, by decide⟩⟩, nw_J0_charAt_5068e, ew_J0_charAt_5068e⟩
theorem cw_J0_indexOf_0f7a4 : Jvm.Cond.code yJ0_indexOf_0f7a4 cJ0_indexOf_0f7a4 2 (some .int) ∈ GT := mg 762 (by decide +kernel) rfl
theorem iw_J0_indexOf_0f7a4 : Jvm.Cond.initialized yJ0_indexOf_0f7a4.cls ∈ GT := mg 91 (by decide +kernel) rfl
theorem nw_J0_indexOf_0f7a4 : Jvm.Cond.instanceMethod yJ0_indexOf_0f7a4 ∈ GT := mg 760 (by decide +kernel) rfl
theorem ew_J0_indexOf_0f7a4 : Jvm.Cond.selects "java/lang/String" yJ0_indexOf_0f7a4 yJ0_indexOf_0f7a4 ∈ GT := mg 761 (by decide +kernel) rfl
theorem lk_X9_68 : LkT RX9 68 yJ0_indexOf_0f7a4 cJ0_indexOf_0f7a4 2 (some .int) 1 := ⟨⟨mg 759 (by decide +kernel) rfl, cw_J0_indexOf_0f7a4, iw_J0_indexOf_0f7a4, ⟨by decide, by decide, by decide⟩⟩, nw_J0_indexOf_0f7a4, ew_J0_indexOf_0f7a4⟩
theorem lk_X9_71 : LkSN RX9 71 yX11_within cX11_within 3 (some .boolean) 3 := ⟨⟨⟨"PaperAger", List.mem_filter.mpr ⟨List.mem_of_getElem? (i := 693) (by decide +kernel), rfl⟩⟩, cw_X11_within, iw_X11_within, ⟨by decide, by decide, by decide⟩⟩, sw_X11_within⟩
theorem lk_X10_27 : LkV RX10 27 5 yX5_copyFrom cX5_copyFrom 2 none 1 := ⟨⟨mg 592 (by decide +kernel) rfl, cw_X5_copyFrom, iw_X5_copyFrom, ⟨by decide, by decide, by decide⟩⟩, nw_X5_copyFrom, RX5, _, _, ew_X5_copyFrom, rfl, by decide⟩
theorem cw_X12_isIn : Jvm.Cond.code yX12_isIn cX12_isIn 4 (some .boolean) ∈ GT := mg 1290 (by decide +kernel) rfl
theorem iw_X12_isIn : Jvm.Cond.initialized yX12_isIn.cls ∈ GT := mg 89 (by decide +kernel) rfl
theorem nw_X12_isIn : Jvm.Cond.instanceMethod yX12_isIn ∈ GT := mg 1289 (by decide +kernel) rfl
theorem ew_X12_isIn : Jvm.Cond.selects RX12 yX12_isIn yX12_isIn ∈ GT := mg 26 (by decide +kernel) rfl
theorem lk_X12_116 : LkV RX12 116 12 yX12_isIn cX12_isIn 4 (some .boolean) 3 := ⟨⟨mg 1287 (by decide +kernel) rfl, cw_X12_isIn, iw_X12_isIn, ⟨by decide, by decide, by decide⟩⟩, nw_X12_isIn, RX12, _, _, ew_X12_isIn, rfl, by decide⟩
theorem cw_X12_isReader : Jvm.Cond.code yX12_isReader cX12_isReader 2 (some .boolean) ∈ GT := mg 1298 (by decide +kernel) rfl
theorem iw_X12_isReader : Jvm.Cond.initialized yX12_isReader.cls ∈ GT := mg 89 (by decide +kernel) rfl
theorem nw_X12_isReader : Jvm.Cond.instanceMethod yX12_isReader ∈ GT := mg 1297 (by decide +kernel) rfl
theorem ew_X12_isReader : Jvm.Cond.selects RX12 yX12_isReader yX12_isReader ∈ GT := mg 27 (by decide +kernel) rfl
theorem lk_X12_123 : LkV RX12 123 12 yX12_isReader cX12_isReader 2 (some .boolean) 1 := ⟨⟨mg 1295 (by decide +kernel) rfl, cw_X12_isReader, iw_X12_isReader, ⟨by decide, by decide, by decide⟩⟩, nw_X12_isReader, RX12, _, _, ew_X12_isReader, rfl, by decide⟩
theorem cw_X12_isShelf : Jvm.Cond.code yX12_isShelf cX12_isShelf 2 (some .boolean) ∈ GT := mg 1306 (by decide +kernel) rfl
theorem iw_X12_isShelf : Jvm.Cond.initialized yX12_isShelf.cls ∈ GT := mg 89 (by decide +kernel) rfl
theorem nw_X12_isShelf : Jvm.Cond.instanceMethod yX12_isShelf ∈ GT := mg 1305 (by decide +kernel) rfl
theorem ew_X12_isShelf : Jvm.Cond.selects RX12 yX12_isShelf yX12_isShelf ∈ GT := mg 28 (by decide +kernel) rfl
theorem lk_X12_133 : LkV RX12 133 12 yX12_isShelf cX12_isShelf 2 (some .boolean) 1 := ⟨⟨mg 1303 (by decide +kernel) rfl, cw_X12_isShelf, iw_X12_isShelf, ⟨by decide, by decide, by decide⟩⟩, nw_X12_isShelf, RX12, _, _, ew_X12_isShelf, rfl, by decide⟩
theorem cw_X12_isUnread : Jvm.Cond.code yX12_isUnread cX12_isUnread 2 none ∈ GT := mg 1310 (by decide +kernel) rfl
theorem iw_X12_isUnread : Jvm.Cond.initialized yX12_isUnread.cls ∈ GT := mg 89 (by decide +kernel) rfl
theorem nw_X12_isUnread : Jvm.Cond.instanceMethod yX12_isUnread ∈ GT := mg 1309 (by decide +kernel) rfl
theorem ew_X12_isUnread : Jvm.Cond.selects RX12 yX12_isUnread yX12_isUnread ∈ GT := mg 29 (by decide +kernel) rfl
theorem lk_X12_136 : LkV RX12 136 12 yX12_isUnread cX12_isUnread 2 none 1 := ⟨⟨mg 1307 (by decide +kernel) rfl, cw_X12_isUnread, iw_X12_isUnread, ⟨by decide, by decide, by decide⟩⟩, nw_X12_isUnread, RX12, _, _, ew_X12_isUnread, rfl, by decide⟩
theorem cw_X12_isPaper : Jvm.Cond.code yX12_isPaper cX12_isPaper 2 (some .boolean) ∈ GT := mg 1318 (by decide +kernel) rfl
theorem iw_X12_isPaper : Jvm.Cond.initialized yX12_isPaper.cls ∈ GT := mg 89 (by decide +kernel) rfl
theorem nw_X12_isPaper : Jvm.Cond.instanceMethod yX12_isPaper ∈ GT := mg 1317 (by decide +kernel) rfl
theorem ew_X12_isPaper : Jvm.Cond.selects RX12 yX12_isPaper yX12_isPaper ∈ GT := mg 30 (by decide +kernel) rfl
theorem lk_X12_140 : LkV RX12 140 12 yX12_isPaper cX12_isPaper 2 (some .boolean) 1 := ⟨⟨mg 1315 (by decide +kernel) rfl, cw_X12_isPaper, iw_X12_isPaper, ⟨by decide, by decide, by decide⟩⟩, nw_X12_isPaper, RX12, _, _, ew_X12_isPaper, rfl, by decide⟩
theorem cw_X12_doesLive : Jvm.Cond.code yX12_doesLive cX12_doesLive 3 (some .boolean) ∈ GT := mg 1334 (by decide +kernel) rfl
theorem iw_X12_doesLive : Jvm.Cond.initialized yX12_doesLive.cls ∈ GT := mg 89 (by decide +kernel) rfl
theorem nw_X12_doesLive : Jvm.Cond.instanceMethod yX12_doesLive ∈ GT := mg 1333 (by decide +kernel) rfl
theorem ew_X12_doesLive : Jvm.Cond.selects RX12 yX12_doesLive yX12_doesLive ∈ GT := mg 31 (by decide +kernel) rfl
theorem lk_X12_143 : LkV RX12 143 12 yX12_doesLive cX12_doesLive 3 (some .boolean) 2 := ⟨⟨mg 1331 (by decide +kernel) rfl, cw_X12_doesLive, iw_X12_doesLive, ⟨by decide, by decide, by decide⟩⟩, nw_X12_doesLive, RX12, _, _, ew_X12_doesLive, rfl, by decide⟩
theorem cw_X12_types : Jvm.Cond.code yX12_types cX12_types 3 none ∈ GT := mg 1342 (by decide +kernel) rfl
theorem iw_X12_types : Jvm.Cond.initialized yX12_types.cls ∈ GT := mg 89 (by decide +kernel) rfl
theorem nw_X12_types : Jvm.Cond.instanceMethod yX12_types ∈ GT := mg 1341 (by decide +kernel) rfl
theorem ew_X12_types : Jvm.Cond.selects RX12 yX12_types yX12_types ∈ GT := mg 32 (by decide +kernel) rfl
theorem lk_X12_150 : LkV RX12 150 12 yX12_types cX12_types 3 none 1 := ⟨⟨mg 1339 (by decide +kernel) rfl, cw_X12_types, iw_X12_types, ⟨by decide, by decide, by decide⟩⟩, nw_X12_types, RX12, _, _, ew_X12_types, rfl, by decide⟩
theorem cw_X12_raw : Jvm.Cond.code yX12_raw cX12_raw 2 (some .int) ∈ GT := mg 1358 (by decide +kernel) rfl
theorem iw_X12_raw : Jvm.Cond.initialized yX12_raw.cls ∈ GT := mg 89 (by decide +kernel) rfl
theorem nw_X12_raw : Jvm.Cond.instanceMethod yX12_raw ∈ GT := mg 1357 (by decide +kernel) rfl
theorem ew_X12_raw : Jvm.Cond.selects RX12 yX12_raw yX12_raw ∈ GT := mg 34 (by decide +kernel) rfl
theorem lk_X12_156 : LkV RX12 156 12 yX12_raw cX12_raw 2 (some .int) 1 := ⟨⟨mg 1355 (by decide +kernel) rfl, cw_X12_raw, iw_X12_raw, ⟨by decide, by decide, by decide⟩⟩, nw_X12_raw, RX12, _, _, ew_X12_raw, rfl, by decide⟩
theorem cw_X12_isLetter : Jvm.Cond.code yX12_isLetter cX12_isLetter 2 (some .boolean) ∈ GT := mg 1362 (by decide +kernel) rfl
theorem iw_X12_isLetter : Jvm.Cond.initialized yX12_isLetter.cls ∈ GT := mg 89 (by decide +kernel) rfl
theorem nw_X12_isLetter : Jvm.Cond.instanceMethod yX12_isLetter ∈ GT := mg 1361 (by decide +kernel) rfl
theorem ew_X12_isLetter : Jvm.Cond.selects RX12 yX12_isLetter yX12_isLetter ∈ GT := mg 35 (by decide +kernel) rfl
theorem lk_X12_169 : LkV RX12 169 12 yX12_isLetter cX12_isLetter 2 (some .boolean) 1 := ⟨⟨mg 1359 (by decide +kernel) rfl, cw_X12_isLetter, iw_X12_isLetter, ⟨by decide, by decide, by decide⟩⟩, nw_X12_isLetter, RX12, _, _, ew_X12_isLetter, rfl, by decide⟩
theorem cw_X12_wordAt : Jvm.Cond.code yX12_wordAt cX12_wordAt 6 (some .int) ∈ GT := mg 1366 (by decide +kernel) rfl
theorem iw_X12_wordAt : Jvm.Cond.initialized yX12_wordAt.cls ∈ GT := mg 89 (by decide +kernel) rfl
theorem nw_X12_wordAt : Jvm.Cond.instanceMethod yX12_wordAt ∈ GT := mg 1365 (by decide +kernel) rfl
theorem ew_X12_wordAt : Jvm.Cond.selects RX12 yX12_wordAt yX12_wordAt ∈ GT := mg 36 (by decide +kernel) rfl
theorem lk_X12_172 : LkV RX12 172 12 yX12_wordAt cX12_wordAt 6 (some .int) 2 := ⟨⟨mg 1363 (by decide +kernel) rfl, cw_X12_wordAt, iw_X12_wordAt, ⟨by decide, by decide, by decide⟩⟩, nw_X12_wordAt, RX12, _, _, ew_X12_wordAt, rfl, by decide⟩
theorem cw_X12_isDigit : Jvm.Cond.code yX12_isDigit cX12_isDigit 2 (some .boolean) ∈ GT := mg 1370 (by decide +kernel) rfl
theorem iw_X12_isDigit : Jvm.Cond.initialized yX12_isDigit.cls ∈ GT := mg 89 (by decide +kernel) rfl
theorem nw_X12_isDigit : Jvm.Cond.instanceMethod yX12_isDigit ∈ GT := mg 1369 (by decide +kernel) rfl
theorem ew_X12_isDigit : Jvm.Cond.selects RX12 yX12_isDigit yX12_isDigit ∈ GT := mg 37 (by decide +kernel) rfl
theorem lk_X12_176 : LkV RX12 176 12 yX12_isDigit cX12_isDigit 2 (some .boolean) 1 := ⟨⟨mg 1367 (by decide +kernel) rfl, cw_X12_isDigit, iw_X12_isDigit, ⟨by decide, by decide, by decide⟩⟩, nw_X12_isDigit, RX12, _, _, ew_X12_isDigit, rfl, by decide⟩
theorem cw_X12_isMarkSign : Jvm.Cond.code yX12_isMarkSign cX12_isMarkSign 2 (some .boolean) ∈ GT := mg 1374 (by decide +kernel) rfl
theorem iw_X12_isMarkSign : Jvm.Cond.initialized yX12_isMarkSign.cls ∈ GT := mg 89 (by decide +kernel) rfl
theorem nw_X12_isMarkSign : Jvm.Cond.instanceMethod yX12_isMarkSign ∈ GT := mg 1373 (by decide +kernel) rfl
theorem ew_X12_isMarkSign : Jvm.Cond.selects RX12 yX12_isMarkSign yX12_isMarkSign ∈ GT := mg 38 (by decide +kernel) rfl
theorem lk_X12_179 : LkV RX12 179 12 yX12_isMarkSign cX12_isMarkSign 2 (some .boolean) 1 := ⟨⟨mg 1371 (by decide +kernel) rfl, cw_X12_isMarkSign, iw_X12_isMarkSign, ⟨by decide, by decide, by decide⟩⟩, nw_X12_isMarkSign, RX12, _, _, ew_X12_isMarkSign, rfl, by decide⟩
theorem cw_X12_errs : Jvm.Cond.code yX12_errs cX12_errs 2 (some .int) ∈ GT := mg 1386 (by decide +kernel) rfl
theorem iw_X12_errs : Jvm.Cond.initialized yX12_errs.cls ∈ GT := mg 89 (by decide +kernel) rfl
theorem nw_X12_errs : Jvm.Cond.instanceMethod yX12_errs ∈ GT := mg 1385 (by decide +kernel) rfl
theorem ew_X12_errs : Jvm.Cond.selects RX12 yX12_errs yX12_errs ∈ GT := mg 41 (by decide +kernel) rfl
theorem lk_X12_191 : LkV RX12 191 12 yX12_errs cX12_errs 2 (some .int) 1 := ⟨⟨mg 1383 (by decide +kernel) rfl, cw_X12_errs, iw_X12_errs, ⟨by decide, by decide, by decide⟩⟩, nw_X12_errs, RX12, _, _, ew_X12_errs, rfl, by decide⟩
theorem cw_X12_emits : Jvm.Cond.code yX12_emits cX12_emits 3 none ∈ GT := mg 1402 (by decide +kernel) rfl
theorem iw_X12_emits : Jvm.Cond.initialized yX12_emits.cls ∈ GT := mg 89 (by decide +kernel) rfl
theorem nw_X12_emits : Jvm.Cond.instanceMethod yX12_emits ∈ GT := mg 1401 (by decide +kernel) rfl
theorem ew_X12_emits : Jvm.Cond.selects RX12 yX12_emits yX12_emits ∈ GT := mg 45 (by decide +kernel) rfl
theorem lk_X12_194 : LkV RX12 194 12 yX12_emits cX12_emits 3 none 2 := ⟨⟨mg 1399 (by decide +kernel) rfl, cw_X12_emits, iw_X12_emits, ⟨by decide, by decide, by decide⟩⟩, nw_X12_emits, RX12, _, _, ew_X12_emits, rfl, by decide⟩
theorem cw_X12_reads : Jvm.Cond.code yX12_reads cX12_reads 2 none ∈ GT := mg 1354 (by decide +kernel) rfl
theorem iw_X12_reads : Jvm.Cond.initialized yX12_reads.cls ∈ GT := mg 89 (by decide +kernel) rfl
theorem nw_X12_reads : Jvm.Cond.instanceMethod yX12_reads ∈ GT := mg 1353 (by decide +kernel) rfl
theorem ew_X12_reads : Jvm.Cond.selects RX12 yX12_reads yX12_reads ∈ GT := mg 33 (by decide +kernel) rfl
theorem lk_X12_198 : LkV RX12 198 12 yX12_reads cX12_reads 2 none 0 := ⟨⟨mg 1351 (by decide +kernel) rfl, cw_X12_reads, iw_X12_reads, ⟨by decide, by decide, by decide⟩⟩, nw_X12_reads, RX12, _, _, ew_X12_reads, rfl, by decide⟩
theorem cw_X12_readUnit : Jvm.Cond.code yX12_readUnit cX12_readUnit 2 (some .int) ∈ GT := mg 1398 (by decide +kernel) rfl
theorem iw_X12_readUnit : Jvm.Cond.initialized yX12_readUnit.cls ∈ GT := mg 89 (by decide +kernel) rfl
theorem nw_X12_readUnit : Jvm.Cond.instanceMethod yX12_readUnit ∈ GT := mg 1397 (by decide +kernel) rfl
theorem ew_X12_readUnit : Jvm.Cond.selects RX12 yX12_readUnit yX12_readUnit ∈ GT := mg 44 (by decide +kernel) rfl
theorem lk_X12_201 : LkV RX12 201 12 yX12_readUnit cX12_readUnit 2 (some .int) 0 := ⟨⟨mg 1395 (by decide +kernel) rfl, cw_X12_readUnit, iw_X12_readUnit, ⟨by decide, by decide, by decide⟩⟩, nw_X12_readUnit, RX12, _, _, ew_X12_readUnit, rfl, by decide⟩
theorem cw_X12_isSign : Jvm.Cond.code yX12_isSign cX12_isSign 2 (some .boolean) ∈ GT := mg 1406 (by decide +kernel) rfl
theorem iw_X12_isSign : Jvm.Cond.initialized yX12_isSign.cls ∈ GT := mg 89 (by decide +kernel) rfl
theorem nw_X12_isSign : Jvm.Cond.instanceMethod yX12_isSign ∈ GT := mg 1405 (by decide +kernel) rfl
theorem ew_X12_isSign : Jvm.Cond.selects RX12 yX12_isSign yX12_isSign ∈ GT := mg 46 (by decide +kernel) rfl
theorem lk_X12_205 : LkV RX12 205 12 yX12_isSign cX12_isSign 2 (some .boolean) 1 := ⟨⟨mg 1403 (by decide +kernel) rfl, cw_X12_isSign, iw_X12_isSign, ⟨by decide, by decide, by decide⟩⟩, nw_X12_isSign, RX12, _, _, ew_X12_isSign, rfl, by decide⟩
theorem cw_X12_readProduct : Jvm.Cond.code yX12_readProduct cX12_readProduct 2 (some .int) ∈ GT := mg 1394 (by decide +kernel) rfl
theorem iw_X12_readProduct : Jvm.Cond.initialized yX12_readProduct.cls ∈ GT := mg 89 (by decide +kernel) rfl
theorem nw_X12_readProduct : Jvm.Cond.instanceMethod yX12_readProduct ∈ GT := mg 1393 (by decide +kernel) rfl
theorem ew_X12_readProduct : Jvm.Cond.selects RX12 yX12_readProduct yX12_readProduct ∈ GT := mg 43 (by decide +kernel) rfl
theorem lk_X12_208 : LkV RX12 208 12 yX12_readProduct cX12_readProduct 2 (some .int) 0 := ⟨⟨mg 1391 (by decide +kernel) rfl, cw_X12_readProduct, iw_X12_readProduct, ⟨by decide, by decide, by decide⟩⟩, nw_X12_readProduct, RX12, _, _, ew_X12_readProduct, rfl, by decide⟩
theorem cw_X12_readSum : Jvm.Cond.code yX12_readSum cX12_readSum 2 (some .int) ∈ GT := mg 1390 (by decide +kernel) rfl
theorem iw_X12_readSum : Jvm.Cond.initialized yX12_readSum.cls ∈ GT := mg 89 (by decide +kernel) rfl
theorem nw_X12_readSum : Jvm.Cond.instanceMethod yX12_readSum ∈ GT := mg 1389 (by decide +kernel) rfl
theorem ew_X12_readSum : Jvm.Cond.selects RX12 yX12_readSum yX12_readSum ∈ GT := mg 42 (by decide +kernel) rfl
theorem lk_X12_211 : LkV RX12 211 12 yX12_readSum cX12_readSum 2 (some .int) 0 := ⟨⟨mg 1387 (by decide +kernel) rfl, cw_X12_readSum, iw_X12_readSum, ⟨by decide, by decide, by decide⟩⟩, nw_X12_readSum, RX12, _, _, ew_X12_readSum, rfl, by decide⟩
theorem cw_X12_isWord : Jvm.Cond.code yX12_isWord cX12_isWord 2 (some .boolean) ∈ GT := mg 1382 (by decide +kernel) rfl
theorem iw_X12_isWord : Jvm.Cond.initialized yX12_isWord.cls ∈ GT := mg 89 (by decide +kernel) rfl
theorem nw_X12_isWord : Jvm.Cond.instanceMethod yX12_isWord ∈ GT := mg 1381 (by decide +kernel) rfl
theorem ew_X12_isWord : Jvm.Cond.selects RX12 yX12_isWord yX12_isWord ∈ GT := mg 40 (by decide +kernel) rfl
theorem lk_X12_220 : LkV RX12 220 12 yX12_isWord cX12_isWord 2 (some .boolean) 1 := ⟨⟨mg 1379 (by decide +kernel) rfl, cw_X12_isWord, iw_X12_isWord, ⟨by decide, by decide, by decide⟩⟩, nw_X12_isWord, RX12, _, _, ew_X12_isWord, rfl, by decide⟩
theorem cw_X12_waits : Jvm.Cond.code yX12_waits cX12_waits 2 none ∈ GT := mg 1414 (by decide +kernel) rfl
theorem iw_X12_waits : Jvm.Cond.initialized yX12_waits.cls ∈ GT := mg 89 (by decide +kernel) rfl
theorem nw_X12_waits : Jvm.Cond.instanceMethod yX12_waits ∈ GT := mg 1413 (by decide +kernel) rfl
theorem ew_X12_waits : Jvm.Cond.selects RX12 yX12_waits yX12_waits ∈ GT := mg 48 (by decide +kernel) rfl
theorem lk_X12_223 : LkV RX12 223 12 yX12_waits cX12_waits 2 none 1 := ⟨⟨mg 1411 (by decide +kernel) rfl, cw_X12_waits, iw_X12_waits, ⟨by decide, by decide, by decide⟩⟩, nw_X12_waits, RX12, _, _, ew_X12_waits, rfl, by decide⟩
theorem cw_X12_readCompared : Jvm.Cond.code yX12_readCompared cX12_readCompared 2 (some .int) ∈ GT := mg 1418 (by decide +kernel) rfl
theorem iw_X12_readCompared : Jvm.Cond.initialized yX12_readCompared.cls ∈ GT := mg 89 (by decide +kernel) rfl
theorem nw_X12_readCompared : Jvm.Cond.instanceMethod yX12_readCompared ∈ GT := mg 1417 (by decide +kernel) rfl
theorem ew_X12_readCompared : Jvm.Cond.selects RX12 yX12_readCompared yX12_readCompared ∈ GT := mg 49 (by decide +kernel) rfl
theorem lk_X12_226 : LkV RX12 226 12 yX12_readCompared cX12_readCompared 2 (some .int) 0 := ⟨⟨mg 1415 (by decide +kernel) rfl, cw_X12_readCompared, iw_X12_readCompared, ⟨by decide, by decide, by decide⟩⟩, nw_X12_readCompared, RX12, _, _, ew_X12_readCompared, rfl, by decide⟩
theorem cw_X12_settles : Jvm.Cond.code yX12_settles cX12_settles 2 none ∈ GT := mg 1422 (by decide +kernel) rfl
theorem iw_X12_settles : Jvm.Cond.initialized yX12_settles.cls ∈ GT := mg 89 (by decide +kernel) rfl
theorem nw_X12_settles : Jvm.Cond.instanceMethod yX12_settles ∈ GT := mg 1421 (by decide +kernel) rfl
theorem ew_X12_settles : Jvm.Cond.selects RX12 yX12_settles yX12_settles ∈ GT := mg 50 (by decide +kernel) rfl
theorem lk_X12_229 : LkV RX12 229 12 yX12_settles cX12_settles 2 none 1 := ⟨⟨mg 1419 (by decide +kernel) rfl, cw_X12_settles, iw_X12_settles, ⟨by decide, by decide, by decide⟩⟩, nw_X12_settles, RX12, _, _, ew_X12_settles, rfl, by decide⟩
theorem cw_X12_readAny : Jvm.Cond.code yX12_readAny cX12_readAny 4 (some .int) ∈ GT := mg 1410 (by decide +kernel) rfl
theorem iw_X12_readAny : Jvm.Cond.initialized yX12_readAny.cls ∈ GT := mg 89 (by decide +kernel) rfl
theorem nw_X12_readAny : Jvm.Cond.instanceMethod yX12_readAny ∈ GT := mg 1409 (by decide +kernel) rfl
theorem ew_X12_readAny : Jvm.Cond.selects RX12 yX12_readAny yX12_readAny ∈ GT := mg 47 (by decide +kernel) rfl
theorem lk_X12_232 : LkV RX12 232 12 yX12_readAny cX12_readAny 4 (some .int) 0 := ⟨⟨mg 1407 (by decide +kernel) rfl, cw_X12_readAny, iw_X12_readAny, ⟨by decide, by decide, by decide⟩⟩, nw_X12_readAny, RX12, _, _, ew_X12_readAny, rfl, by decide⟩
theorem cw_X12_readText : Jvm.Cond.code yX12_readText cX12_readText 3 (some .int) ∈ GT := mg 1378 (by decide +kernel) rfl
theorem iw_X12_readText : Jvm.Cond.initialized yX12_readText.cls ∈ GT := mg 89 (by decide +kernel) rfl
theorem nw_X12_readText : Jvm.Cond.instanceMethod yX12_readText ∈ GT := mg 1377 (by decide +kernel) rfl
theorem ew_X12_readText : Jvm.Cond.selects RX12 yX12_readText yX12_readText ∈ GT := mg 39 (by decide +kernel) rfl
theorem lk_X12_238 : LkV RX12 238 12 yX12_readText cX12_readText 3 (some .int) 0 := ⟨⟨mg 1375 (by decide +kernel) rfl, cw_X12_readText, iw_X12_readText, ⟨by decide, by decide, by decide⟩⟩, nw_X12_readText, RX12, _, _, ew_X12_readText, rfl, by decide⟩
theorem cw_X12_twoOf : Jvm.Cond.code yX12_twoOf cX12_twoOf 4 (some .int) ∈ GT := mg 1450 (by decide +kernel) rfl
theorem iw_X12_twoOf : Jvm.Cond.initialized yX12_twoOf.cls ∈ GT := mg 89 (by decide +kernel) rfl
theorem nw_X12_twoOf : Jvm.Cond.instanceMethod yX12_twoOf ∈ GT := mg 1449 (by decide +kernel) rfl
theorem ew_X12_twoOf : Jvm.Cond.selects RX12 yX12_twoOf yX12_twoOf ∈ GT := mg 55 (by decide +kernel) rfl
theorem lk_X12_244 : LkV RX12 244 12 yX12_twoOf cX12_twoOf 4 (some .int) 3 := ⟨⟨mg 1447 (by decide +kernel) rfl, cw_X12_twoOf, iw_X12_twoOf, ⟨by decide, by decide, by decide⟩⟩, nw_X12_twoOf, RX12, _, _, ew_X12_twoOf, rfl, by decide⟩
theorem cw_X12_runs : Jvm.Cond.code yX12_runs cX12_runs 5 (some .int) ∈ GT := mg 1446 (by decide +kernel) rfl
theorem iw_X12_runs : Jvm.Cond.initialized yX12_runs.cls ∈ GT := mg 89 (by decide +kernel) rfl
theorem nw_X12_runs : Jvm.Cond.instanceMethod yX12_runs ∈ GT := mg 1445 (by decide +kernel) rfl
theorem ew_X12_runs : Jvm.Cond.selects RX12 yX12_runs yX12_runs ∈ GT := mg 54 (by decide +kernel) rfl
theorem lk_X12_248 : LkV RX12 248 12 yX12_runs cX12_runs 5 (some .int) 2 := ⟨⟨mg 1443 (by decide +kernel) rfl, cw_X12_runs, iw_X12_runs, ⟨by decide, by decide, by decide⟩⟩, nw_X12_runs, RX12, _, _, ew_X12_runs, rfl, by decide⟩
theorem cw_X12_yearsOf : Jvm.Cond.code yX12_yearsOf cX12_yearsOf 3 (some .int) ∈ GT := mg 1438 (by decide +kernel) rfl
theorem iw_X12_yearsOf : Jvm.Cond.initialized yX12_yearsOf.cls ∈ GT := mg 89 (by decide +kernel) rfl
theorem nw_X12_yearsOf : Jvm.Cond.instanceMethod yX12_yearsOf ∈ GT := mg 1437 (by decide +kernel) rfl
theorem ew_X12_yearsOf : Jvm.Cond.selects RX12 yX12_yearsOf yX12_yearsOf ∈ GT := mg 52 (by decide +kernel) rfl
theorem lk_X12_251 : LkV RX12 251 12 yX12_yearsOf cX12_yearsOf 3 (some .int) 2 := ⟨⟨mg 1435 (by decide +kernel) rfl, cw_X12_yearsOf, iw_X12_yearsOf, ⟨by decide, by decide, by decide⟩⟩, nw_X12_yearsOf, RX12, _, _, ew_X12_yearsOf, rfl, by decide⟩
theorem cw_X12_isSo : Jvm.Cond.code yX12_isSo cX12_isSo 2 (some .boolean) ∈ GT := mg 1442 (by decide +kernel) rfl
theorem iw_X12_isSo : Jvm.Cond.initialized yX12_isSo.cls ∈ GT := mg 89 (by decide +kernel) rfl
theorem nw_X12_isSo : Jvm.Cond.instanceMethod yX12_isSo ∈ GT := mg 1441 (by decide +kernel) rfl
theorem ew_X12_isSo : Jvm.Cond.selects RX12 yX12_isSo yX12_isSo ∈ GT := mg 53 (by decide +kernel) rfl
theorem lk_X12_254 : LkV RX12 254 12 yX12_isSo cX12_isSo 2 (some .boolean) 1 := ⟨⟨mg 1439 (by decide +kernel) rfl, cw_X12_isSo, iw_X12_isSo, ⟨by decide, by decide, by decide⟩⟩, nw_X12_isSo, RX12, _, _, ew_X12_isSo, rfl, by decide⟩
theorem cw_X12_ageOf : Jvm.Cond.code yX12_ageOf cX12_ageOf 7 (some .int) ∈ GT := mg 1434 (by decide +kernel) rfl
theorem iw_X12_ageOf : Jvm.Cond.initialized yX12_ageOf.cls ∈ GT := mg 89 (by decide +kernel) rfl
theorem nw_X12_ageOf : Jvm.Cond.instanceMethod yX12_ageOf ∈ GT := mg 1433 (by decide +kernel) rfl
theorem ew_X12_ageOf : Jvm.Cond.selects RX12 yX12_ageOf yX12_ageOf ∈ GT := mg 51 (by decide +kernel) rfl
theorem lk_X12_257 : LkV RX12 257 12 yX12_ageOf cX12_ageOf 7 (some .int) 3 := ⟨⟨mg 1431 (by decide +kernel) rfl, cw_X12_ageOf, iw_X12_ageOf, ⟨by decide, by decide, by decide⟩⟩, nw_X12_ageOf, RX12, _, _, ew_X12_ageOf, rfl, by decide⟩
theorem cw_X12_keepsAhead : Jvm.Cond.code yX12_keepsAhead cX12_keepsAhead 3 none ∈ GT := mg 1462 (by decide +kernel) rfl
theorem iw_X12_keepsAhead : Jvm.Cond.initialized yX12_keepsAhead.cls ∈ GT := mg 89 (by decide +kernel) rfl
theorem nw_X12_keepsAhead : Jvm.Cond.instanceMethod yX12_keepsAhead ∈ GT := mg 1461 (by decide +kernel) rfl
theorem ew_X12_keepsAhead : Jvm.Cond.selects RX12 yX12_keepsAhead yX12_keepsAhead ∈ GT := mg 56 (by decide +kernel) rfl
theorem lk_X12_263 : LkV RX12 263 12 yX12_keepsAhead cX12_keepsAhead 3 none 1 := ⟨⟨mg 1459 (by decide +kernel) rfl, cw_X12_keepsAhead, iw_X12_keepsAhead, ⟨by decide, by decide, by decide⟩⟩, nw_X12_keepsAhead, RX12, _, _, ew_X12_keepsAhead, rfl, by decide⟩
theorem cw_X12_isRead : Jvm.Cond.code yX12_isRead cX12_isRead 4 none ∈ GT := mg 1466 (by decide +kernel) rfl
theorem iw_X12_isRead : Jvm.Cond.initialized yX12_isRead.cls ∈ GT := mg 89 (by decide +kernel) rfl
theorem nw_X12_isRead : Jvm.Cond.instanceMethod yX12_isRead ∈ GT := mg 1465 (by decide +kernel) rfl
theorem ew_X12_isRead : Jvm.Cond.selects RX12 yX12_isRead yX12_isRead ∈ GT := mg 57 (by decide +kernel) rfl
theorem lk_X12_266 : LkV RX12 266 12 yX12_isRead cX12_isRead 4 none 3 := ⟨⟨mg 1463 (by decide +kernel) rfl, cw_X12_isRead, iw_X12_isRead, ⟨by decide, by decide, by decide⟩⟩, nw_X12_isRead, RX12, _, _, ew_X12_isRead, rfl, by decide⟩
theorem cw_X12_leasesOf : Jvm.Cond.code yX12_leasesOf cX12_leasesOf 4 (some .int) ∈ GT := mg 1488 (by decide +kernel) rfl
theorem iw_X12_leasesOf : Jvm.Cond.initialized yX12_leasesOf.cls ∈ GT := mg 89 (by decide +kernel) rfl
theorem nw_X12_leasesOf : Jvm.Cond.instanceMethod yX12_leasesOf ∈ GT := mg 1487 (by decide +kernel) rfl
theorem ew_X12_leasesOf : Jvm.Cond.selects RX12 yX12_leasesOf yX12_leasesOf ∈ GT := mg 61 (by decide +kernel) rfl
theorem lk_X12_270 : LkV RX12 270 12 yX12_leasesOf cX12_leasesOf 4 (some .int) 1 := ⟨⟨mg 1485 (by decide +kernel) rfl, cw_X12_leasesOf, iw_X12_leasesOf, ⟨by decide, by decide, by decide⟩⟩, nw_X12_leasesOf, RX12, _, _, ew_X12_leasesOf, rfl, by decide⟩
theorem cw_X12_draw : Jvm.Cond.code yX12_draw cX12_draw 2 (some .int) ∈ GT := mg 1478 (by decide +kernel) rfl
theorem iw_X12_draw : Jvm.Cond.initialized yX12_draw.cls ∈ GT := mg 89 (by decide +kernel) rfl
theorem nw_X12_draw : Jvm.Cond.instanceMethod yX12_draw ∈ GT := mg 1477 (by decide +kernel) rfl
theorem ew_X12_draw : Jvm.Cond.selects RX12 yX12_draw yX12_draw ∈ GT := mg 59 (by decide +kernel) rfl
theorem lk_X12_273 : LkV RX12 273 12 yX12_draw cX12_draw 2 (some .int) 1 := ⟨⟨mg 1475 (by decide +kernel) rfl, cw_X12_draw, iw_X12_draw, ⟨by decide, by decide, by decide⟩⟩, nw_X12_draw, RX12, _, _, ew_X12_draw, rfl, by decide⟩
theorem cw_X12_nextOne : Jvm.Cond.code yX12_nextOne cX12_nextOne 3 (some .int) ∈ GT := mg 1484 (by decide +kernel) rfl
theorem iw_X12_nextOne : Jvm.Cond.initialized yX12_nextOne.cls ∈ GT := mg 89 (by decide +kernel) rfl
theorem nw_X12_nextOne : Jvm.Cond.instanceMethod yX12_nextOne ∈ GT := mg 1483 (by decide +kernel) rfl
theorem ew_X12_nextOne : Jvm.Cond.selects RX12 yX12_nextOne yX12_nextOne ∈ GT := mg 60 (by decide +kernel) rfl
theorem lk_X12_279 : LkV RX12 279 12 yX12_nextOne cX12_nextOne 3 (some .int) 0 := ⟨⟨mg 1481 (by decide +kernel) rfl, cw_X12_nextOne, iw_X12_nextOne, ⟨by decide, by decide, by decide⟩⟩, nw_X12_nextOne, RX12, _, _, ew_X12_nextOne, rfl, by decide⟩
theorem cw_X12_ends : Jvm.Cond.code yX12_ends cX12_ends 2 none ∈ GT := mg 1474 (by decide +kernel) rfl
theorem iw_X12_ends : Jvm.Cond.initialized yX12_ends.cls ∈ GT := mg 89 (by decide +kernel) rfl
theorem nw_X12_ends : Jvm.Cond.instanceMethod yX12_ends ∈ GT := mg 1473 (by decide +kernel) rfl
theorem ew_X12_ends : Jvm.Cond.selects RX12 yX12_ends yX12_ends ∈ GT := mg 58 (by decide +kernel) rfl
theorem lk_X12_282 : LkV RX12 282 12 yX12_ends cX12_ends 2 none 0 := ⟨⟨mg 1471 (by decide +kernel) rfl, cw_X12_ends, iw_X12_ends, ⟨by decide, by decide, by decide⟩⟩, nw_X12_ends, RX12, _, _, ew_X12_ends, rfl, by decide⟩
theorem cw_X12_staysFor : Jvm.Cond.code yX12_staysFor cX12_staysFor 4 (some .int) ∈ GT := mg 1496 (by decide +kernel) rfl
theorem iw_X12_staysFor : Jvm.Cond.initialized yX12_staysFor.cls ∈ GT := mg 89 (by decide +kernel) rfl
theorem nw_X12_staysFor : Jvm.Cond.instanceMethod yX12_staysFor ∈ GT := mg 1495 (by decide +kernel) rfl
theorem ew_X12_staysFor : Jvm.Cond.selects RX12 yX12_staysFor yX12_staysFor ∈ GT := mg 62 (by decide +kernel) rfl
theorem lk_X12_285 : LkV RX12 285 12 yX12_staysFor cX12_staysFor 4 (some .int) 1 := ⟨⟨mg 1493 (by decide +kernel) rfl, cw_X12_staysFor, iw_X12_staysFor, ⟨by decide, by decide, by decide⟩⟩, nw_X12_staysFor, RX12, _, _, ew_X12_staysFor, rfl, by decide⟩
theorem cw_X12_thinksOf : Jvm.Cond.code yX12_thinksOf cX12_thinksOf 2 none ∈ GT := mg 1525 (by decide +kernel) rfl
theorem iw_X12_thinksOf : Jvm.Cond.initialized yX12_thinksOf.cls ∈ GT := mg 89 (by decide +kernel) rfl
theorem nw_X12_thinksOf : Jvm.Cond.instanceMethod yX12_thinksOf ∈ GT := mg 1524 (by decide +kernel) rfl
theorem ew_X12_thinksOf : Jvm.Cond.selects RX12 yX12_thinksOf yX12_thinksOf ∈ GT := mg 65 (by decide +kernel) rfl
theorem lk_X12_292 : LkV RX12 292 12 yX12_thinksOf cX12_thinksOf 2 none 1 := ⟨⟨mg 1522 (by decide +kernel) rfl, cw_X12_thinksOf, iw_X12_thinksOf, ⟨by decide, by decide, by decide⟩⟩, nw_X12_thinksOf, RX12, _, _, ew_X12_thinksOf, rfl, by decide⟩
theorem cw_X12_doStand : Jvm.Cond.code yX12_doStand cX12_doStand 3 (some .boolean) ∈ GT := mg 1529 (by decide +kernel) rfl
theorem iw_X12_doStand : Jvm.Cond.initialized yX12_doStand.cls ∈ GT := mg 89 (by decide +kernel) rfl
theorem nw_X12_doStand : Jvm.Cond.instanceMethod yX12_doStand ∈ GT := mg 1528 (by decide +kernel) rfl
theorem ew_X12_doStand : Jvm.Cond.selects RX12 yX12_doStand yX12_doStand ∈ GT := mg 66 (by decide +kernel) rfl
theorem lk_X12_295 : LkV RX12 295 12 yX12_doStand cX12_doStand 3 (some .boolean) 1 := ⟨⟨mg 1526 (by decide +kernel) rfl, cw_X12_doStand, iw_X12_doStand, ⟨by decide, by decide, by decide⟩⟩, nw_X12_doStand, RX12, _, _, ew_X12_doStand, rfl, by decide⟩
theorem cw_X12_claimed : Jvm.Cond.code yX12_claimed cX12_claimed 3 (some .int) ∈ GT := mg 1517 (by decide +kernel) rfl
theorem iw_X12_claimed : Jvm.Cond.initialized yX12_claimed.cls ∈ GT := mg 89 (by decide +kernel) rfl
theorem nw_X12_claimed : Jvm.Cond.instanceMethod yX12_claimed ∈ GT := mg 1516 (by decide +kernel) rfl
theorem ew_X12_claimed : Jvm.Cond.selects RX12 yX12_claimed yX12_claimed ∈ GT := mg 63 (by decide +kernel) rfl
theorem lk_X12_298 : LkV RX12 298 12 yX12_claimed cX12_claimed 3 (some .int) 0 := ⟨⟨mg 1514 (by decide +kernel) rfl, cw_X12_claimed, iw_X12_claimed, ⟨by decide, by decide, by decide⟩⟩, nw_X12_claimed, RX12, _, _, ew_X12_claimed, rfl, by decide⟩
theorem cw_X12_findsStanding : Jvm.Cond.code yX12_findsStanding cX12_findsStanding 4 (some .int) ∈ GT := mg 1521 (by decide +kernel) rfl
theorem iw_X12_findsStanding : Jvm.Cond.initialized yX12_findsStanding.cls ∈ GT := mg 89 (by decide +kernel) rfl
theorem nw_X12_findsStanding : Jvm.Cond.instanceMethod yX12_findsStanding ∈ GT := mg 1520 (by decide +kernel) rfl
theorem ew_X12_findsStanding : Jvm.Cond.selects RX12 yX12_findsStanding yX12_findsStanding ∈ GT := mg 64 (by decide +kernel) rfl
theorem lk_X12_301 : LkV RX12 301 12 yX12_findsStanding cX12_findsStanding 4 (some .int) 1 := ⟨⟨mg 1518 (by decide +kernel) rfl, cw_X12_findsStanding, iw_X12_findsStanding, ⟨by decide, by decide, by decide⟩⟩, nw_X12_findsStanding, RX12, _, _, ew_X12_findsStanding, rfl, by decide⟩
theorem cw_X12_livingNow : Jvm.Cond.code yX12_livingNow cX12_livingNow 3 (some .int) ∈ GT := mg 1533 (by decide +kernel) rfl
theorem iw_X12_livingNow : Jvm.Cond.initialized yX12_livingNow.cls ∈ GT := mg 89 (by decide +kernel) rfl
theorem nw_X12_livingNow : Jvm.Cond.instanceMethod yX12_livingNow ∈ GT := mg 1532 (by decide +kernel) rfl
theorem ew_X12_livingNow : Jvm.Cond.selects RX12 yX12_livingNow yX12_livingNow ∈ GT := mg 67 (by decide +kernel) rfl
theorem lk_X12_304 : LkV RX12 304 12 yX12_livingNow cX12_livingNow 3 (some .int) 0 := ⟨⟨mg 1530 (by decide +kernel) rfl, cw_X12_livingNow, iw_X12_livingNow, ⟨by decide, by decide, by decide⟩⟩, nw_X12_livingNow, RX12, _, _, ew_X12_livingNow, rfl, by decide⟩
theorem cw_X12_ones : Jvm.Cond.code yX12_ones cX12_ones 4 (some .int) ∈ GT := mg 1537 (by decide +kernel) rfl
theorem iw_X12_ones : Jvm.Cond.initialized yX12_ones.cls ∈ GT := mg 89 (by decide +kernel) rfl
theorem nw_X12_ones : Jvm.Cond.instanceMethod yX12_ones ∈ GT := mg 1536 (by decide +kernel) rfl
theorem ew_X12_ones : Jvm.Cond.selects RX12 yX12_ones yX12_ones ∈ GT := mg 68 (by decide +kernel) rfl
theorem lk_X12_307 : LkV RX12 307 12 yX12_ones cX12_ones 4 (some .int) 1 := ⟨⟨mg 1534 (by decide +kernel) rfl, cw_X12_ones, iw_X12_ones, ⟨by decide, by decide, by decide⟩⟩, nw_X12_ones, RX12, _, _, ew_X12_ones, rfl, by decide⟩
theorem cw_X12_areEnough : Jvm.Cond.code yX12_areEnough cX12_areEnough 3 (some .boolean) ∈ GT := mg 1541 (by decide +kernel) rfl
theorem iw_X12_areEnough : Jvm.Cond.initialized yX12_areEnough.cls ∈ GT := mg 89 (by decide +kernel) rfl
theorem nw_X12_areEnough : Jvm.Cond.instanceMethod yX12_areEnough ∈ GT := mg 1540 (by decide +kernel) rfl
theorem ew_X12_areEnough : Jvm.Cond.selects RX12 yX12_areEnough yX12_areEnough ∈ GT := mg 69 (by decide +kernel) rfl
theorem lk_X12_310 : LkV RX12 310 12 yX12_areEnough cX12_areEnough 3 (some .boolean) 1 := ⟨⟨mg 1538 (by decide +kernel) rfl, cw_X12_areEnough, iw_X12_areEnough, ⟨by decide, by decide, by decide⟩⟩, nw_X12_areEnough, RX12, _, _, ew_X12_areEnough, rfl, by decide⟩
theorem cw_X12_without : Jvm.Cond.code yX12_without cX12_without 2 (some .int) ∈ GT := mg 1553 (by decide +kernel) rfl
theorem iw_X12_without : Jvm.Cond.initialized yX12_without.cls ∈ GT := mg 89 (by decide +kernel) rfl
theorem nw_X12_without : Jvm.Cond.instanceMethod yX12_without ∈ GT := mg 1552 (by decide +kernel) rfl
theorem ew_X12_without : Jvm.Cond.selects RX12 yX12_without yX12_without ∈ GT := mg 70 (by decide +kernel) rfl
theorem lk_X12_313 : LkV RX12 313 12 yX12_without cX12_without 2 (some .int) 1 := ⟨⟨mg 1550 (by decide +kernel) rfl, cw_X12_without, iw_X12_without, ⟨by decide, by decide, by decide⟩⟩, nw_X12_without, RX12, _, _, ew_X12_without, rfl, by decide⟩
theorem cw_X12_papersOn : Jvm.Cond.code yX12_papersOn cX12_papersOn 4 (some .int) ∈ GT := mg 1565 (by decide +kernel) rfl
theorem iw_X12_papersOn : Jvm.Cond.initialized yX12_papersOn.cls ∈ GT := mg 89 (by decide +kernel) rfl
theorem nw_X12_papersOn : Jvm.Cond.instanceMethod yX12_papersOn ∈ GT := mg 1564 (by decide +kernel) rfl
theorem ew_X12_papersOn : Jvm.Cond.selects RX12 yX12_papersOn yX12_papersOn ∈ GT := mg 71 (by decide +kernel) rfl
theorem lk_X12_316 : LkV RX12 316 12 yX12_papersOn cX12_papersOn 4 (some .int) 1 := ⟨⟨mg 1562 (by decide +kernel) rfl, cw_X12_papersOn, iw_X12_papersOn, ⟨by decide, by decide, by decide⟩⟩, nw_X12_papersOn, RX12, _, _, ew_X12_papersOn, rfl, by decide⟩
theorem cw_X12_agesOn : Jvm.Cond.code yX12_agesOn cX12_agesOn 4 (some .int) ∈ GT := mg 1569 (by decide +kernel) rfl
theorem iw_X12_agesOn : Jvm.Cond.initialized yX12_agesOn.cls ∈ GT := mg 89 (by decide +kernel) rfl
theorem nw_X12_agesOn : Jvm.Cond.instanceMethod yX12_agesOn ∈ GT := mg 1568 (by decide +kernel) rfl
theorem ew_X12_agesOn : Jvm.Cond.selects RX12 yX12_agesOn yX12_agesOn ∈ GT := mg 72 (by decide +kernel) rfl
theorem lk_X12_319 : LkV RX12 319 12 yX12_agesOn cX12_agesOn 4 (some .int) 1 := ⟨⟨mg 1566 (by decide +kernel) rfl, cw_X12_agesOn, iw_X12_agesOn, ⟨by decide, by decide, by decide⟩⟩, nw_X12_agesOn, RX12, _, _, ew_X12_agesOn, rfl, by decide⟩
theorem cw_X12_kept : Jvm.Cond.code yX12_kept cX12_kept 2 (some .int) ∈ GT := mg 1581 (by decide +kernel) rfl
theorem iw_X12_kept : Jvm.Cond.initialized yX12_kept.cls ∈ GT := mg 89 (by decide +kernel) rfl
theorem nw_X12_kept : Jvm.Cond.instanceMethod yX12_kept ∈ GT := mg 1580 (by decide +kernel) rfl
theorem ew_X12_kept : Jvm.Cond.selects RX12 yX12_kept yX12_kept ∈ GT := mg 73 (by decide +kernel) rfl
theorem lk_X12_329 : LkV RX12 329 12 yX12_kept cX12_kept 2 (some .int) 1 := ⟨⟨mg 1578 (by decide +kernel) rfl, cw_X12_kept, iw_X12_kept, ⟨by decide, by decide, by decide⟩⟩, nw_X12_kept, RX12, _, _, ew_X12_kept, rfl, by decide⟩
theorem cw_X12_keepsPapers : Jvm.Cond.code yX12_keepsPapers cX12_keepsPapers 2 none ∈ GT := mg 1585 (by decide +kernel) rfl
theorem iw_X12_keepsPapers : Jvm.Cond.initialized yX12_keepsPapers.cls ∈ GT := mg 89 (by decide +kernel) rfl
theorem nw_X12_keepsPapers : Jvm.Cond.instanceMethod yX12_keepsPapers ∈ GT := mg 1584 (by decide +kernel) rfl
theorem ew_X12_keepsPapers : Jvm.Cond.selects RX12 yX12_keepsPapers yX12_keepsPapers ∈ GT := mg 74 (by decide +kernel) rfl
theorem lk_X12_335 : LkV RX12 335 12 yX12_keepsPapers cX12_keepsPapers 2 none 0 := ⟨⟨mg 1582 (by decide +kernel) rfl, cw_X12_keepsPapers, iw_X12_keepsPapers, ⟨by decide, by decide, by decide⟩⟩, nw_X12_keepsPapers, RX12, _, _, ew_X12_keepsPapers, rfl, by decide⟩
theorem cw_X12_keepsLaw : Jvm.Cond.code yX12_keepsLaw cX12_keepsLaw 2 none ∈ GT := mg 1589 (by decide +kernel) rfl
theorem iw_X12_keepsLaw : Jvm.Cond.initialized yX12_keepsLaw.cls ∈ GT := mg 89 (by decide +kernel) rfl
theorem nw_X12_keepsLaw : Jvm.Cond.instanceMethod yX12_keepsLaw ∈ GT := mg 1588 (by decide +kernel) rfl
theorem ew_X12_keepsLaw : Jvm.Cond.selects RX12 yX12_keepsLaw yX12_keepsLaw ∈ GT := mg 75 (by decide +kernel) rfl
theorem lk_X12_338 : LkV RX12 338 12 yX12_keepsLaw cX12_keepsLaw 2 none 0 := ⟨⟨mg 1586 (by decide +kernel) rfl, cw_X12_keepsLaw, iw_X12_keepsLaw, ⟨by decide, by decide, by decide⟩⟩, nw_X12_keepsLaw, RX12, _, _, ew_X12_keepsLaw, rfl, by decide⟩
theorem cw_J0_coder_7d493 : Jvm.Cond.code yJ0_coder_7d493 cJ0_coder_7d493 1 (some .byte) ∈ GT := mg 706 (by decide +kernel) rfl
theorem iw_J0_coder_7d493 : Jvm.Cond.initialized yJ0_coder_7d493.cls ∈ GT := mg 91 (by decide +kernel) rfl
theorem nw_J0_coder_7d493 : Jvm.Cond.instanceMethod yJ0_coder_7d493 ∈ GT := mg 704 (by decide +kernel) rfl
theorem ew_J0_coder_7d493 : Jvm.Cond.selects "java/lang/String" yJ0_coder_7d493 yJ0_coder_7d493 ∈ GT := mg 705 (by decide +kernel) rfl
theorem lk_J0_335 : LkT RJ0 335 yJ0_coder_7d493 cJ0_coder_7d493 1 (some .byte) 0 := ⟨⟨mg 703 (by decide +kernel) rfl, cw_J0_coder_7d493, iw_J0_coder_7d493, ⟨by decide, by decide, by decide⟩⟩, nw_J0_coder_7d493, ew_J0_coder_7d493⟩
theorem cw_J0_isLatin1_aae02 : Jvm.Cond.code yJ0_isLatin1_aae02 cJ0_isLatin1_aae02 1 (some .boolean) ∈ GT := mg 716 (by decide +kernel) rfl
theorem iw_J0_isLatin1_aae02 : Jvm.Cond.initialized yJ0_isLatin1_aae02.cls ∈ GT := mg 91 (by decide +kernel) rfl
theorem nw_J0_isLatin1_aae02 : Jvm.Cond.instanceMethod yJ0_isLatin1_aae02 ∈ GT := mg 714 (by decide +kernel) rfl
theorem ew_J0_isLatin1_aae02 : Jvm.Cond.selects "java/lang/String" yJ0_isLatin1_aae02 yJ0_isLatin1_aae02 ∈ GT := mg 715 (by decide +kernel) rfl
theorem lk_J0_492 : LkT RJ0 492 yJ0_isLatin1_aae02 cJ0_isLatin1_aae02 1 (some .boolean) 0 := ⟨⟨mg 713 (by decide +kernel) rfl, cw_J0_isLatin1_aae02, iw_J0_isLatin1_aae02, ⟨by decide, by decide, by decide⟩⟩, nw_J0_isLatin1_aae02, ew_J0_isLatin1_aae02⟩
theorem cw_J1_charAt_3b067 : Jvm.Cond.code yJ1_charAt_3b067 cJ1_charAt_3b067 2 (some .char) ∈ GT := mg 719 (by decide +kernel) rfl
theorem iw_J1_charAt_3b067 : Jvm.Cond.initialized yJ1_charAt_3b067.cls ∈ GT := mg 92 (by decide +kernel) rfl
theorem sw_J1_charAt_3b067 : Jvm.Cond.static yJ1_charAt_3b067 ∈ GT := mg 718 (by decide +kernel) rfl
theorem lk_J0_495 : LkS RJ0 495 yJ1_charAt_3b067 cJ1_charAt_3b067 2 (some .char) 2 := ⟨⟨mg 717 (by decide +kernel) rfl, cw_J1_charAt_3b067, iw_J1_charAt_3b067, ⟨by decide, by decide, by decide⟩⟩, sw_J1_charAt_3b067⟩
theorem lk_J0_505 : LkT RJ0 505 yJ0_length_8abf5 cJ0_length_8abf5 1 (some .int) 0 := ⟨⟨mg 767 (by decide +kernel) rfl, cw_J0_length_8abf5, iw_J0_length_8abf5, ⟨by decide, by decide, by decide⟩⟩, nw_J0_length_8abf5, ew_J0_length_8abf5⟩
theorem cw_J0_indexOf_7cf53 : Jvm.Cond.code yJ0_indexOf_7cf53 cJ0_indexOf_7cf53 3 (some .int) ∈ GT := mg 766 (by decide +kernel) rfl
theorem iw_J0_indexOf_7cf53 : Jvm.Cond.initialized yJ0_indexOf_7cf53.cls ∈ GT := mg 91 (by decide +kernel) rfl
theorem nw_J0_indexOf_7cf53 : Jvm.Cond.instanceMethod yJ0_indexOf_7cf53 ∈ GT := mg 764 (by decide +kernel) rfl
theorem ew_J0_indexOf_7cf53 : Jvm.Cond.selects "java/lang/String" yJ0_indexOf_7cf53 yJ0_indexOf_7cf53 ∈ GT := mg 765 (by decide +kernel) rfl
theorem lk_J0_633 : LkT RJ0 633 yJ0_indexOf_7cf53 cJ0_indexOf_7cf53 3 (some .int) 2 := ⟨⟨mg 763 (by decide +kernel) rfl, cw_J0_indexOf_7cf53, iw_J0_indexOf_7cf53, ⟨by decide, by decide, by decide⟩⟩, nw_J0_indexOf_7cf53, ew_J0_indexOf_7cf53⟩
theorem cw_J1_indexOf_4cfef : Jvm.Cond.code yJ1_indexOf_4cfef cJ1_indexOf_4cfef 4 (some .int) ∈ GT := mg 770 (by decide +kernel) rfl
theorem iw_J1_indexOf_4cfef : Jvm.Cond.initialized yJ1_indexOf_4cfef.cls ∈ GT := mg 92 (by decide +kernel) rfl
theorem sw_J1_indexOf_4cfef : Jvm.Cond.static yJ1_indexOf_4cfef ∈ GT := mg 769 (by decide +kernel) rfl
theorem lk_J0_637 : LkS RJ0 637 yJ1_indexOf_4cfef cJ1_indexOf_4cfef 4 (some .int) 4 := ⟨⟨mg 768 (by decide +kernel) rfl, cw_J1_indexOf_4cfef, iw_J1_indexOf_4cfef, ⟨by decide, by decide, by decide⟩⟩, sw_J1_indexOf_4cfef⟩
theorem cw_J3_checkIndex_8e157 : Jvm.Cond.code yJ3_checkIndex_8e157 cJ3_checkIndex_8e157 3 (some .int) ∈ GT := mg 727 (by decide +kernel) rfl
theorem iw_J3_checkIndex_8e157 : Jvm.Cond.initialized yJ3_checkIndex_8e157.cls ∈ GT := mg 93 (by decide +kernel) rfl
theorem sw_J3_checkIndex_8e157 : Jvm.Cond.static yJ3_checkIndex_8e157 ∈ GT := mg 726 (by decide +kernel) rfl
theorem lk_J0_1059 : LkS RJ0 1059 yJ3_checkIndex_8e157 cJ3_checkIndex_8e157 3 (some .int) 3 := ⟨⟨mg 725 (by decide +kernel) rfl, cw_J3_checkIndex_8e157, iw_J3_checkIndex_8e157, ⟨by decide, by decide, by decide⟩⟩, sw_J3_checkIndex_8e157⟩
theorem cw_J0_checkIndex_df160 : Jvm.Cond.code yJ0_checkIndex_df160 cJ0_checkIndex_df160 2 none ∈ GT := mg 722 (by decide +kernel) rfl
theorem iw_J0_checkIndex_df160 : Jvm.Cond.initialized yJ0_checkIndex_df160.cls ∈ GT := mg 91 (by decide +kernel) rfl
theorem sw_J0_checkIndex_df160 : Jvm.Cond.static yJ0_checkIndex_df160 ∈ GT := mg 721 (by decide +kernel) rfl
theorem lk_J1_9 : LkS RJ1 9 yJ0_checkIndex_df160 cJ0_checkIndex_df160 2 none 2 := ⟨⟨mg 720 (by decide +kernel) rfl, cw_J0_checkIndex_df160, iw_J0_checkIndex_df160, ⟨by decide, by decide, by decide⟩⟩, sw_J0_checkIndex_df160⟩
theorem cw_J1_canEncode_9a6ad : Jvm.Cond.code yJ1_canEncode_9a6ad cJ1_canEncode_9a6ad 1 (some .boolean) ∈ GT := mg 773 (by decide +kernel) rfl
theorem iw_J1_canEncode_9a6ad : Jvm.Cond.initialized yJ1_canEncode_9a6ad.cls ∈ GT := mg 92 (by decide +kernel) rfl
theorem sw_J1_canEncode_9a6ad : Jvm.Cond.static yJ1_canEncode_9a6ad ∈ GT := mg 772 (by decide +kernel) rfl
theorem lk_J1_88 : LkS RJ1 88 yJ1_canEncode_9a6ad cJ1_canEncode_9a6ad 1 (some .boolean) 1 := ⟨⟨mg 771 (by decide +kernel) rfl, cw_J1_canEncode_9a6ad, iw_J1_canEncode_9a6ad, ⟨by decide, by decide, by decide⟩⟩, sw_J1_canEncode_9a6ad⟩
theorem cw_J1_indexOfChar_4cfef : Jvm.Cond.code yJ1_indexOfChar_4cfef cJ1_indexOfChar_4cfef 6 (some .int) ∈ GT := mg 778 (by decide +kernel) rfl
theorem iw_J1_indexOfChar_4cfef : Jvm.Cond.initialized yJ1_indexOfChar_4cfef.cls ∈ GT := mg 92 (by decide +kernel) rfl
theorem sw_J1_indexOfChar_4cfef : Jvm.Cond.static yJ1_indexOfChar_4cfef ∈ GT := mg 777 (by decide +kernel) rfl
theorem lk_J1_95 : LkS RJ1 95 yJ1_indexOfChar_4cfef cJ1_indexOfChar_4cfef 6 (some .int) 4 := ⟨⟨mg 776 (by decide +kernel) rfl, cw_J1_indexOfChar_4cfef, iw_J1_indexOfChar_4cfef, ⟨by decide, by decide, by decide⟩⟩, sw_J1_indexOfChar_4cfef⟩
