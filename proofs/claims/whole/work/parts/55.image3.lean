/-! ===== PURE: the image, in the reference: its loops ===== -/
theorem lok_of {k j : Nat} (h : k ≠ 89) (h2 : k ≠ 12) : lok (k, j) := ⟨h, fun z => h2 z.1⟩
theorem lok12 {j : Nat} (h : ¬ (51 ≤ j ∧ j ≤ 53)) : lok (12, j) := ⟨by show 12 ≠ 89; decide, fun z => h z.2⟩
theorem kl_cons {t : Nat} {q : Nat × Nat} {l : List (Nat × Nat)} {S : Mem} : kl t (q :: l) S = kl t l (st1 t q S) := rfl
theorem lp_o {t : Nat} (ht : t ≤ 1) : ∀ (m fuel i n : Nat) (S : Mem), KI t n S → n + 2 * m + 0 ≤ 1900 → i + m = 400 → m < fuel → fX12_keepsLaw_76 fuel (nI i) S = some (kl t (oL m i) S) := by
  intro m
  induction m with
  | zero =>
    intro fuel i n S hK hn hi hf
    obtain ⟨fuel, rfl⟩ : ∃ f, fuel = f + 1 := ⟨fuel - 1, by omega⟩
    obtain rfl : i = 400 := by omega
    rw [fX12_keepsLaw_76, if_pos (show (400 : Int32) ≤ nI 400 from Int32.le_refl _)]
    rfl
  | succ m ih =>
    intro fuel i n S hK hn hi hf
    obtain ⟨fuel, rfl⟩ : ∃ f, fuel = f + 1 := ⟨fuel - 1, by omega⟩
    rw [fX12_keepsLaw_76, if_neg (show ¬ (400 : Int32) ≤ nI i from nI_ge (b := 400) (by omega) (by omega)), ix_nI (by omega) (by omega), bindS, nI_1]
    obtain ⟨r0, T0, e0, f0, K0⟩ := kept_ex 78 i hK ht (by omega) (lok_of (by decide) (by decide))
    rw [e0, bdS, f0]
    obtain ⟨r1, T1, e1, f1, K1⟩ := kept_ex 79 i K0 ht (by omega) (lok_of (by decide) (by decide))
    rw [e1, bdS, f1]
    exact ih fuel (i + 1) _ _ K1 (by omega) (by omega) (by omega)
theorem lp_l {t : Nat} (ht : t ≤ 1) : ∀ (m fuel i n : Nat) (S : Mem), KI t n S → n + 3 * m + 800 ≤ 1900 → i + m = 16 → m < fuel → fX12_keepsLaw_14 fuel (nI i) S = some (kl t (lL m i ++ oL 400 0) S) := by
  intro m
  induction m with
  | zero =>
    intro fuel i n S hK hn hi hf
    obtain ⟨fuel, rfl⟩ : ∃ f, fuel = f + 1 := ⟨fuel - 1, by omega⟩
    obtain rfl : i = 16 := by omega
    rw [fX12_keepsLaw_14, if_pos (show (16 : Int32) ≤ nI 16 from Int32.le_refl _)]
    rw [show lL 0 16 = [] from rfl, List.nil_append]
    exact lp_o ht 400 5000 0 n S hK (by omega) (by omega) (by omega)
  | succ m ih =>
    intro fuel i n S hK hn hi hf
    obtain ⟨fuel, rfl⟩ : ∃ f, fuel = f + 1 := ⟨fuel - 1, by omega⟩
    rw [fX12_keepsLaw_14, if_neg (show ¬ (16 : Int32) ≤ nI i from nI_ge (b := 16) (by omega) (by omega)), ix_nI (by omega) (by omega), bindS, nI_1]
    obtain ⟨r0, T0, e0, f0, K0⟩ := kept_ex 75 i hK ht (by omega) (lok_of (by decide) (by decide))
    rw [e0, bdS, f0]
    obtain ⟨r1, T1, e1, f1, K1⟩ := kept_ex 76 i K0 ht (by omega) (lok_of (by decide) (by decide))
    rw [e1, bdS, f1]
    obtain ⟨r2, T2, e2, f2, K2⟩ := kept_ex 77 i K1 ht (by omega) (lok_of (by decide) (by decide))
    rw [e2, bdS, f2]
    exact ih fuel (i + 1) _ _ K2 (by omega) (by omega) (by omega)
theorem lp_c {t : Nat} (ht : t ≤ 1) : ∀ (m fuel i n : Nat) (S : Mem), KI t n S → n + 4 * m + 0 ≤ 1900 → i + m = 6 → m < fuel → fX12_keepsPapers_195 fuel (nI i) S = some (kl t (cL m i) S) := by
  intro m
  induction m with
  | zero =>
    intro fuel i n S hK hn hi hf
    obtain ⟨fuel, rfl⟩ : ∃ f, fuel = f + 1 := ⟨fuel - 1, by omega⟩
    obtain rfl : i = 6 := by omega
    rw [fX12_keepsPapers_195, if_pos (show (6 : Int32) ≤ nI 6 from Int32.le_refl _)]
    rfl
  | succ m ih =>
    intro fuel i n S hK hn hi hf
    obtain ⟨fuel, rfl⟩ : ∃ f, fuel = f + 1 := ⟨fuel - 1, by omega⟩
    rw [fX12_keepsPapers_195, if_neg (show ¬ (6 : Int32) ≤ nI i from nI_ge (b := 6) (by omega) (by omega)), ix_nI (by omega) (by omega), bindS, nI_1]
    obtain ⟨r0, T0, e0, f0, K0⟩ := kept_ex 84 i hK ht (by omega) (lok_of (by decide) (by decide))
    rw [e0, bdS, f0]
    obtain ⟨r1, T1, e1, f1, K1⟩ := kept_ex 85 i K0 ht (by omega) (lok_of (by decide) (by decide))
    rw [e1, bdS, f1]
    obtain ⟨r2, T2, e2, f2, K2⟩ := kept_ex 86 i K1 ht (by omega) (lok_of (by decide) (by decide))
    rw [e2, bdS, f2]
    obtain ⟨r3, T3, e3, f3, K3⟩ := kept_ex 87 i K2 ht (by omega) (lok_of (by decide) (by decide))
    rw [e3, bdS, f3]
    exact ih fuel (i + 1) _ _ K3 (by omega) (by omega) (by omega)
theorem lp_b {t : Nat} (ht : t ≤ 1) : ∀ (m fuel i n : Nat) (S : Mem), KI t n S → n + 1 * m + 25 ≤ 1900 → i + m = 600 → m < fuel → fX12_keepsPapers_152 fuel (nI i) S = some (kl t (bL m i ++ (12, 45) :: cL 6 0) S) := by
  intro m
  induction m with
  | zero =>
    intro fuel i n S hK hn hi hf
    obtain ⟨fuel, rfl⟩ : ∃ f, fuel = f + 1 := ⟨fuel - 1, by omega⟩
    obtain rfl : i = 600 := by omega
    rw [fX12_keepsPapers_152, if_pos (show (600 : Int32) ≤ nI 600 from Int32.le_refl _)]
    obtain ⟨r, T, e, f, K⟩ := kept_ex 12 45 hK ht (by omega) (lok12 (by omega))
    rw [e, bdS, f, show bL 0 600 = [] from rfl, List.nil_append, kl_cons]
    exact lp_c ht 6 5000 0 _ _ K (by omega) (by omega) (by omega)
  | succ m ih =>
    intro fuel i n S hK hn hi hf
    obtain ⟨fuel, rfl⟩ : ∃ f, fuel = f + 1 := ⟨fuel - 1, by omega⟩
    rw [fX12_keepsPapers_152, if_neg (show ¬ (600 : Int32) ≤ nI i from nI_ge (b := 600) (by omega) (by omega)), ix_nI (by omega) (by omega), bindS, nI_1]
    obtain ⟨r0, T0, e0, f0, K0⟩ := kept_ex 72 i hK ht (by omega) (lok_of (by decide) (by decide))
    rw [e0, bdS, f0]
    exact ih fuel (i + 1) _ _ K0 (by omega) (by omega) (by omega)
theorem lp_p {t : Nat} (ht : t ≤ 1) : ∀ (m fuel i n : Nat) (S : Mem), KI t n S → n + 7 * m + 626 ≤ 1900 → i + m = 12 → m < fuel → fX12_keepsPapers_14 fuel (nI i) S = some (kl t (pL m i ++ (12, 18) :: (bL 600 0 ++ (12, 45) :: cL 6 0)) S) := by
  intro m
  induction m with
  | zero =>
    intro fuel i n S hK hn hi hf
    obtain ⟨fuel, rfl⟩ : ∃ f, fuel = f + 1 := ⟨fuel - 1, by omega⟩
    obtain rfl : i = 12 := by omega
    rw [fX12_keepsPapers_14, if_pos (show (12 : Int32) ≤ nI 12 from Int32.le_refl _)]
    obtain ⟨r, T, e, f, K⟩ := kept_ex 12 18 hK ht (by omega) (lok12 (by omega))
    rw [e, bdS, f, show pL 0 12 = [] from rfl, List.nil_append, kl_cons]
    exact lp_b ht 600 5000 0 _ _ K (by omega) (by omega) (by omega)
  | succ m ih =>
    intro fuel i n S hK hn hi hf
    obtain ⟨fuel, rfl⟩ : ∃ f, fuel = f + 1 := ⟨fuel - 1, by omega⟩
    rw [fX12_keepsPapers_14, if_neg (show ¬ (12 : Int32) ≤ nI i from nI_ge (b := 12) (by omega) (by omega)), ix_nI (by omega) (by omega), bindS, nI_1]
    obtain ⟨r0, T0, e0, f0, K0⟩ := kept_ex 65 i hK ht (by omega) (lok_of (by decide) (by decide))
    rw [e0, bdS, f0]
    obtain ⟨r1, T1, e1, f1, K1⟩ := kept_ex 66 i K0 ht (by omega) (lok_of (by decide) (by decide))
    rw [e1, bdS, f1]
    obtain ⟨r2, T2, e2, f2, K2⟩ := kept_ex 67 i K1 ht (by omega) (lok_of (by decide) (by decide))
    rw [e2, bdS, f2]
    obtain ⟨r3, T3, e3, f3, K3⟩ := kept_ex 68 i K2 ht (by omega) (lok_of (by decide) (by decide))
    rw [e3, bdS, f3]
    obtain ⟨r4, T4, e4, f4, K4⟩ := kept_ex 69 i K3 ht (by omega) (lok_of (by decide) (by decide))
    rw [e4, bdS, f4]
    obtain ⟨r5, T5, e5, f5, K5⟩ := kept_ex 70 i K4 ht (by omega) (lok_of (by decide) (by decide))
    rw [e5, bdS, f5]
    rw [ix_nI (by omega) (by omega), bindS]
    obtain ⟨r6, T6, e6, f6, K6⟩ := kept_ex 71 i K5 ht (by omega) (lok_of (by decide) (by decide))
    rw [e6, bdS, f6]
    exact ih fuel (i + 1) _ _ K6 (by omega) (by omega) (by omega)
def paL : List (Nat × Nat) := (12, 10) :: (pL 12 0 ++ (12, 18) :: (bL 600 0 ++ (12, 45) :: cL 6 0))
def lwL : List (Nat × Nat) := (12, 27) :: (lL 16 0 ++ oL 400 0)
theorem paL_len : paL.length = 711 := by simp [paL, pL_len, bL_len, cL_len]
theorem lwL_len : lwL.length = 849 := by simp [lwL, lL_len, oL_len]
theorem paL_lok : ∀ q, q ∈ paL → lok q := by
  rintro ⟨k, j⟩ h
  simp [paL, pL_mem, bL_mem, cL_mem] at h
  exact ⟨by show k ≠ 89; omega, by show ¬ (k = 12 ∧ 51 ≤ j ∧ j ≤ 53); omega⟩
theorem lp_pa {t n : Nat} {S : Mem} (ht : t ≤ 1) (hK : KI t n S) (hn : n + 711 ≤ 1900) : fX12_keepsPapers S = some (kl t paL S) := by
  unfold fX12_keepsPapers
  obtain ⟨r, T, e, f, K⟩ := kept_ex 12 10 hK ht (by omega) (lok12 (by omega))
  unfold paL
  rw [e, bdS, f, kl_cons]
  exact lp_p ht 12 5000 0 _ _ K (by omega) (by omega) (by omega)
theorem lp_lw {t n : Nat} {S : Mem} (ht : t ≤ 1) (hK : KI t n S) (hn : n + 849 ≤ 1900) : fX12_keepsLaw S = some (kl t lwL S) := by
  unfold fX12_keepsLaw
  obtain ⟨r, T, e, f, K⟩ := kept_ex 12 27 hK ht (by omega) (lok12 (by omega))
  unfold lwL
  rw [e, bdS, f, kl_cons]
  exact lp_l ht 16 5000 0 _ _ K (by omega) (by omega) (by omega)
def endI (t : Nat) (S : Mem) : Mem := if t = 0 then up S 12 0 44 0 else S
theorem lp_r {t : Nat} (ht : t ≤ 1) : ∀ (m fuel i n : Nat) (S : Mem), KI t n S → n + 5 * m + 1560 ≤ 1900 → i + m = 12 → m < fuel → fX12_image_83 fuel (nI t) (nI i) S = some (1, endI t (kl t (rL m i ++ (paL ++ lwL)) S)) := by
  intro m
  induction m with
  | zero =>
    intro fuel i n S hK hn hi hf
    obtain ⟨fuel, rfl⟩ : ∃ f, fuel = f + 1 := ⟨fuel - 1, by omega⟩
    obtain rfl : i = 12 := by omega
    rw [fX12_image_83, if_pos (show (12 : Int32) ≤ nI 12 from Int32.le_refl _)]
    rw [lp_pa ht hK (by omega), bindS]
    have K1 := kl_KI (l := paL) hK paL_lok
    rw [paL_len] at K1
    rw [lp_lw ht K1 (by omega), bindS]
    show _ = some (1, endI t (kl t (paL ++ lwL) S))
    rw [kl_app]
    unfold endI
    rcases (show t = 0 ∨ t = 1 by omega) with rfl | rfl
    · rw [if_pos (show nI 0 = 0 from rfl), if_pos rfl]
    · rw [if_neg (show ¬ nI 1 = 0 by decide), if_neg (by decide)]
  | succ m ih =>
    intro fuel i n S hK hn hi hf
    obtain ⟨fuel, rfl⟩ : ∃ f, fuel = f + 1 := ⟨fuel - 1, by omega⟩
    rw [fX12_image_83, if_neg (show ¬ (12 : Int32) ≤ nI i from nI_ge (b := 12) (by omega) (by omega)), ix_nI (by omega) (by omega), bindS, nI_1]
    obtain ⟨r0, T0, e0, f0, K0⟩ := kept_ex 60 i hK ht (by omega) (lok_of (by decide) (by decide))
    rw [e0, bdS, f0]
    obtain ⟨r1, T1, e1, f1, K1⟩ := kept_ex 61 i K0 ht (by omega) (lok_of (by decide) (by decide))
    rw [e1, bdS, f1]
    obtain ⟨r2, T2, e2, f2, K2⟩ := kept_ex 62 i K1 ht (by omega) (lok_of (by decide) (by decide))
    rw [e2, bdS, f2]
    obtain ⟨r3, T3, e3, f3, K3⟩ := kept_ex 63 i K2 ht (by omega) (lok_of (by decide) (by decide))
    rw [e3, bdS, f3]
    obtain ⟨r4, T4, e4, f4, K4⟩ := kept_ex 64 i K3 ht (by omega) (lok_of (by decide) (by decide))
    rw [e4, bdS, f4]
    exact ih fuel (i + 1) _ _ K4 (by omega) (by omega) (by omega)
def alL : List (Nat × Nat) := (12, 1) :: (12, 2) :: (12, 9) :: (12, 3) :: (rL 12 0 ++ (paL ++ lwL))
theorem alL_len : alL.length = 1624 := by simp [alL, rL_len, paL_len, lwL_len]
theorem alL_mem {k j : Nat} : (k, j) ∈ alL ↔ (k = 12 ∧ (j = 1 ∨ j = 2 ∨ j = 9 ∨ j = 3 ∨ j = 10 ∨ j = 18 ∨ j = 45 ∨ j = 27)) ∨ ((60 ≤ k ∧ k ≤ 71) ∧ j < 12) ∨ (k = 72 ∧ j < 600) ∨ ((84 ≤ k ∧ k ≤ 87) ∧ j < 6) ∨ ((75 ≤ k ∧ k ≤ 77) ∧ j < 16) ∨ ((78 ≤ k ∧ k ≤ 79) ∧ j < 400) := by
  simp [alL, paL, lwL, rL_mem, pL_mem, bL_mem, cL_mem, lL_mem, oL_mem]
  omega
theorem alL_lok : ∀ q, q ∈ alL → lok q := by
  rintro ⟨k, j⟩ h
  rw [alL_mem] at h
  exact ⟨by show k ≠ 89; omega, by show ¬ (k = 12 ∧ 51 ≤ j ∧ j ≤ 53); omega⟩
theorem alL_ck : Chk alL 0 := by
  refine ⟨rfl, rfl, rfl, rfl, Chk.app (m := 64) (rL_ck 12 0) (by rw [rL_len]) (Chk.app (m := 775) ?_ (by rw [paL_len]) ⟨rfl, Chk.app (m := 824) (lL_ck 16 0) (by rw [lL_len]) (oL_ck 400 0)⟩)⟩
  exact ⟨rfl, Chk.app (m := 149) (pL_ck 12 0) (by rw [pL_len]) ⟨rfl, Chk.app (m := 750) (bL_ck 600 0) (by rw [bL_len]) ⟨rfl, cL_ck 6 0⟩⟩⟩
theorem image_m {t : Nat} {S : Mem} (ht : t ≤ 1) : fX12_image_18 (nI t) S = some (1, endI t (kl t alL (up (up (up S 12 0 51 (nI t)) 12 0 52 1) 12 0 53 0))) := by
  unfold fX12_image_18
  have hb : nI t = 0 ∨ nI t = 1 := by
    rcases (show t = 0 ∨ t = 1 by omega) with rfl | rfl
    · exact Or.inl rfl
    · exact Or.inr rfl
  rw [if_pos hb]
  have K : KI t 0 (up (up (up S 12 0 51 (nI t)) 12 0 52 1) 12 0 53 0) := ⟨up_at, by rw [upj (by omega), upj (by omega), up_at]⟩
  generalize up (up (up S 12 0 51 (nI t)) 12 0 52 1) 12 0 53 0 = S0 at K
  obtain ⟨r0, T0, e0, f0, K0⟩ := kept_ex 12 1 K ht (by omega) (lok12 (by omega))
  rw [e0, bdS, f0]
  obtain ⟨r1, T1, e1, f1, K1⟩ := kept_ex 12 2 K0 ht (by omega) (lok12 (by omega))
  rw [e1, bdS, f1]
  obtain ⟨r2, T2, e2, f2, K2⟩ := kept_ex 12 9 K1 ht (by omega) (lok12 (by omega))
  rw [e2, bdS, f2]
  obtain ⟨r3, T3, e3, f3, K3⟩ := kept_ex 12 3 K2 ht (by omega) (lok12 (by omega))
  rw [e3, bdS, f3]
  unfold alL
  rw [kl_cons, kl_cons, kl_cons, kl_cons]
  exact lp_r ht 12 5000 0 _ _ K3 (by omega) (by omega) (by omega)
theorem img_ps {M : Mem} {k j : Nat} (h : (k, j) ∈ alL) : img M k 0 j = M 89 0 (ps (k, j)) := by
  rw [alL_mem] at h
  rcases h with ⟨rfl, h⟩ | ⟨h, _⟩ | ⟨rfl, _⟩ | ⟨h, _⟩ | ⟨h, _⟩ | ⟨h, _⟩
  · rcases h with rfl | rfl | rfl | rfl | rfl | rfl | rfl | rfl <;> rfl
  · rcases (show k = 60 ∨ k = 61 ∨ k = 62 ∨ k = 63 ∨ k = 64 ∨ k = 65 ∨ k = 66 ∨ k = 67 ∨ k = 68 ∨ k = 69 ∨ k = 70 ∨ k = 71 by omega) with rfl | rfl | rfl | rfl | rfl | rfl | rfl | rfl | rfl | rfl | rfl | rfl <;> (simp [img, ps] <;> congr 1 <;> omega)
  · simp [img, ps]
  · rcases (show k = 84 ∨ k = 85 ∨ k = 86 ∨ k = 87 by omega) with rfl | rfl | rfl | rfl <;> (simp [img, ps] <;> congr 1 <;> omega)
  · rcases (show k = 75 ∨ k = 76 ∨ k = 77 by omega) with rfl | rfl | rfl <;> (simp [img, ps] <;> congr 1 <;> omega)
  · rcases (show k = 78 ∨ k = 79 by omega) with rfl | rfl <;> (simp [img, ps] <;> congr 1 <;> omega)
theorem agM_of {M M' : Mem} (h : ∀ k j, (k, j) ∈ alL → M' k 0 j = M k 0 j) : agM M M' := ⟨fun j hj => h 12 j (alL_mem.mpr (by omega)), fun k j h1 h2 h3 => h k j (alL_mem.mpr (by omega)), fun j h1 => h 72 j (alL_mem.mpr (by omega)), fun k j h1 h2 h3 => h k j (alL_mem.mpr (by omega)), fun k j h1 h2 h3 => h k j (alL_mem.mpr (by omega)), fun k j h1 h2 h3 => h k j (alL_mem.mpr (by omega))⟩
theorem sim_image {C M : Mem} (h : Rel C M) (p0 : Int32) (hp : p0 = 0 ∨ p0 = 1) : ∃ r C' M', fX11_image p0 C = some (r, C') ∧ fX12_image p0 M = some (r, M') ∧ Rel C' M' := by
  have h0 := h.told
  unfold fX11_image fX12_image
  generalize up M 12 0 0 0 = M0 at h0 ⊢
  have h' := h0
  obtain ⟨nr, np, dy, nl, nc, hCo, hU, hT, hW, hF, hK⟩ := h'
  rcases hp with rfl | rfl
  · rw [if_pos rfl, if_pos rfl]
    rcases hK with ⟨k1, k2⟩ | ⟨k1, k2, nr', np', dy', nl', nc', hCo'⟩
    · rw [if_pos k1, if_pos k2]
      exact ⟨_, _, _, rfl, rfl, h0⟩
    · rw [k1, k2, if_neg (by decide), if_neg (by decide)]
      obtain ⟨C', g1, g2⟩ := copyArch (show 0 ≠ 1 by decide) (fX10_forget C)
      rw [g1, bindS, show fX12_image_18 0 M0 = _ from image_m (t := 0) (by omega)]
      refine ⟨_, _, _, rfl, rfl, ?_⟩
      have hKI : KI 0 0 (up (up (up M0 12 0 51 (nI 0)) 12 0 52 1) 12 0 53 0) := ⟨up_at, by rw [upj (by omega), upj (by omega), up_at]⟩
      have sk : ∀ k i j, ¬ (k = 12 ∧ i = 0 ∧ 51 ≤ j ∧ j ≤ 53) → up (up (up M0 12 0 51 (nI 0)) 12 0 52 1) 12 0 53 0 k i j = M0 k i j := fun k i j hh => by
        simp only [up]
        rw [if_neg (by omega), if_neg (by omega), if_neg (by omega)]
      have s52 : up (up (up M0 12 0 51 (nI 0)) 12 0 52 1) 12 0 53 0 12 0 52 = 1 := by rw [upj (by omega), up_at]
      generalize up (up (up M0 12 0 51 (nI 0)) 12 0 52 1) 12 0 53 0 = S0 at hKI sk s52
      obtain ⟨a1, a2⟩ := kl0 alL_ck hKI alL_lok (by rw [alL_len]; omega)
      generalize hM1 : kl 0 alL S0 = M1 at a1 a2
      have e0 : endI 0 M1 = up M1 12 0 44 0 := rfl
      rw [e0]
      -- frames of the reference
      have FM : ∀ k i j, ¬ (i = 0 ∧ (k, j) ∈ alL) → ¬ (k = 12 ∧ i = 0 ∧ ((51 ≤ j ∧ j ≤ 53) ∨ j = 44)) → up M1 12 0 44 0 k i j = M0 k i j := fun k i j q1 q2 => by
        simp only [up]
        rw [if_neg (by omega), a2 k i j q1 (by omega), sk k i j (by omega)]
      have FA : ∀ k j, (k, j) ∈ alL → up M1 12 0 44 0 k 0 j = img M0 k 0 j := fun k j hq => by
        rw [img_ps hq]
        have h44 : ¬ (k = 12 ∧ (0 : Nat) = 0 ∧ j = 44) := by rw [alL_mem] at hq; omega
        simp only [up]
        rw [if_neg (fun z => h44 ⟨z.1, rfl, z.2.2⟩), a1 (k, j) hq, sk 89 0 _ (by omega)]
      have Fk : ∀ k i, ¬ (k = 12 ∨ (60 ≤ k ∧ k ≤ 72) ∨ (75 ≤ k ∧ k ≤ 79) ∨ (84 ≤ k ∧ k ≤ 87)) → up M1 12 0 44 0 k i = M0 k i := fun k i hh => by
        funext j
        exact FM k i j (fun z => by have := z.2; rw [alL_mem] at this; omega) (by omega)
      have F12 : ∀ j, ¬ (j = 1 ∨ j = 2 ∨ j = 9 ∨ j = 3 ∨ j = 10 ∨ j = 18 ∨ j = 45 ∨ j = 27) → ¬ ((51 ≤ j ∧ j ≤ 53) ∨ j = 44) → up M1 12 0 44 0 12 0 j = M0 12 0 j := fun j h1 h2 => FM 12 0 j (fun z => by have := z.2; rw [alL_mem] at this; omega) (by omega)
      -- and of the class
      obtain ⟨x0, x1, x2, x3, x5, x6, x16, x17, x21, x22, xf⟩ := g2
      have ff : ∀ k i, ¬ (k = 10 ∧ i = 0) → fX10_forget C k i = C k i := fun k i hh => by unfold fX10_forget; rw [upf hh]
      have hag : agC (vw1 C) C' := by
        refine ⟨fun j h1 h2 => ?_, ?_, ?_, ?_, fun i j h1 h2 => ?_, fun i j h1 h2 => ?_, fun j h1 => ?_, fun k j h1 h2 h3 => ?_, fun j h1 => ?_, fun k j h1 h2 h3 => ?_⟩
        · rw [x0 j h1 h2, ff 0 1 (by omega)]; rfl
        · rw [x1, ff 1 1 (by omega)]; rfl
        · rw [x2, ff 2 1 (by omega)]; rfl
        · rw [x3, ff 3 1 (by omega)]; rfl
        · have := x5 i j h1 h2
          rw [show 12 * 0 + i = i by omega, ff 5 _ (by omega)] at this
          rw [this]
          rfl
        · have := x6 i j h1 h2
          rw [show 12 * 0 + i = i by omega, ff 6 _ (by omega)] at this
          rw [this]
          rfl
        · rw [x16 j h1, ff 16 1 (by omega)]; rfl
        · rw [x17 k j h1 h2 h3, ff k 1 (by omega)]
          unfold vw1
          rw [if_neg (by omega)]
        · rw [x21 j h1, ff 21 1 (by omega)]; rfl
        · rw [x22 k j h1 h2 h3, ff k 1 (by omega)]
          unfold vw1
          rw [if_neg (by omega)]
      obtain ⟨lt0, hlt0, hlt1⟩ : ∃ lt, lt < 10 ∧ C 10 0 2 = nI lt := by obtain ⟨_, lt, _, _, q1, _, _, q2, _⟩ := hU; exact ⟨lt, q1, q2⟩
      have FC : ∀ k i, ¬ ((k ≤ 3 ∨ (16 ≤ k ∧ k ≤ 24)) ∧ i = 0) → ¬ ((k = 5 ∨ k = 6) ∧ i < 12) → ¬ (k = 10 ∧ i = 0) → C' k i = C k i := fun k i q1 q2 q3 => by rw [xf k i q1 (by omega), ff k i q3]
      have hK' : Kpt C M0 := Or.inr ⟨k1, k2, nr', np', dy', nl', nc', hCo'⟩
      refine ⟨nr', np', dy', nl', nc', hCo'.ag hag (agM_of (fun k j hq => FA k j hq)), Und.zero ?_ up_at lt0 hlt0 ?_, hT.cg (by rw [FC 7 0 (by omega) (by omega) (by omega)]) (FC 27 0 (by omega) (by omega) (by omega)) (F12 21 (by omega) (by omega)) (Fk 73 0 (by omega)), hW.cg (Fk 74 0 (by omega)), ?_, hK'.cg (by rw [FC 11 0 (by omega) (by omega) (by omega)]) ?_ (Fk 89 0 (by omega)) (fun k i q1 q2 q3 => FC k i (by omega) (by omega) (by omega))⟩
      · rw [xf 10 0 (by omega) (by omega)]
        unfold fX10_forget
        rw [up_at]
      · rw [xf 10 0 (by omega) (by omega)]
        unfold fX10_forget
        rw [upj (by omega)]
        exact hlt1
      · unfold Flt
        rw [FC 4 0 (by omega) (by omega) (by omega), F12 39 (by omega) (by omega), F12 40 (by omega) (by omega)]
        exact hF
      · rw [upj (by omega), a2 12 0 52 (fun z => by have := z.2; rw [alL_mem] at this; omega) (by omega), s52, k2]
  · rw [if_neg (by decide), if_neg (by decide)]
    obtain ⟨C', g1, g2⟩ := copyArch (show 1 ≠ 0 by decide) C
    rw [g1, bindS, show fX12_image_18 1 M0 = _ from image_m (t := 1) (by omega)]
    refine ⟨_, _, _, rfl, rfl, ?_⟩
    have hKI : KI 1 0 (up (up (up M0 12 0 51 (nI 1)) 12 0 52 1) 12 0 53 0) := ⟨up_at, by rw [upj (by omega), upj (by omega), up_at]⟩
    have sk : ∀ k i j, ¬ (k = 12 ∧ i = 0 ∧ 51 ≤ j ∧ j ≤ 53) → up (up (up M0 12 0 51 (nI 1)) 12 0 52 1) 12 0 53 0 k i j = M0 k i j := fun k i j hh => by
      simp only [up]
      rw [if_neg (by omega), if_neg (by omega), if_neg (by omega)]
    have s52 : up (up (up M0 12 0 51 (nI 1)) 12 0 52 1) 12 0 53 0 12 0 52 = 1 := by rw [upj (by omega), up_at]
    generalize up (up (up M0 12 0 51 (nI 1)) 12 0 52 1) 12 0 53 0 = S0 at hKI sk s52
    obtain ⟨a1, a2, a3⟩ := kl1 alL_ck hKI alL_lok (by rw [alL_len]; omega)
    generalize hM1 : kl 1 alL S0 = M1 at a1 a2 a3
    have e0 : endI 1 M1 = M1 := rfl
    rw [e0]
    have FM : ∀ k i j, k ≠ 89 → ¬ (k = 12 ∧ i = 0 ∧ 51 ≤ j ∧ j ≤ 53) → M1 k i j = M0 k i j := fun k i j q1 q2 => by
      rw [a2 k i j q1 (by omega), sk k i j q2]
    have Fk : ∀ k, k ≠ 89 → k ≠ 12 → M1 k = M0 k := fun k h1 h2 => by
      funext i j
      exact FM k i j h1 (by omega)
    obtain ⟨x0, x1, x2, x3, x5, x6, x16, x17, x21, x22, xf⟩ := g2
    have hag : agC C (vw1 (up C' 11 0 2 1)) := by
      have u1 : ∀ k i, k ≠ 11 → up C' 11 0 2 1 k i = C' k i := fun k i hk => by rw [upk hk]
      refine ⟨fun j h1 h2 => ?_, ?_, ?_, ?_, fun i j h1 h2 => ?_, fun i j h1 h2 => ?_, fun j h1 => ?_, fun k j h1 h2 h3 => ?_, fun j h1 => ?_, fun k j h1 h2 h3 => ?_⟩
      · show up C' 11 0 2 1 0 1 j = _
        rw [u1 0 1 (by omega), x0 j h1 h2]
      · show up C' 11 0 2 1 1 1 1 = _
        rw [u1 1 1 (by omega), x1]
      · show up C' 11 0 2 1 2 1 4 = _
        rw [u1 2 1 (by omega), x2]
      · show up C' 11 0 2 1 3 1 6 = _
        rw [u1 3 1 (by omega), x3]
      · show up C' 11 0 2 1 5 (12 + i) j = _
        have := x5 i j h1 h2
        rw [show 12 * 1 + i = 12 + i by omega, show 12 * 0 + i = i by omega] at this
        rw [u1 5 _ (by omega), this]
      · show up C' 11 0 2 1 6 (12 + i) j = _
        have := x6 i j h1 h2
        rw [show 12 * 1 + i = 12 + i by omega, show 12 * 0 + i = i by omega] at this
        rw [u1 6 _ (by omega), this]
      · show up C' 11 0 2 1 16 1 j = _
        rw [u1 16 1 (by omega), x16 j h1]
      · unfold vw1
        rw [if_neg (by omega), u1 k _ (by omega), x17 k j h1 h2 h3]
      · show up C' 11 0 2 1 21 1 j = _
        rw [u1 21 1 (by omega), x21 j h1]
      · unfold vw1
        rw [if_neg (by omega), u1 k _ (by omega), x22 k j h1 h2 h3]
    have FC : ∀ k i, ¬ ((k ≤ 3 ∨ (16 ≤ k ∧ k ≤ 24)) ∧ i = 1) → ¬ ((k = 5 ∨ k = 6) ∧ 12 ≤ i ∧ i < 24) → k ≠ 11 → up C' 11 0 2 1 k i = C k i := fun k i q1 q2 q3 => by rw [upk q3, xf k i q1 (by omega)]
    refine ⟨nr, np, dy, nl, nc, hCo.cg (fun j _ => by rw [FC 0 0 (by omega) (by omega) (by omega)]) (by rw [FC 1 0 (by omega) (by omega) (by omega)]) (by rw [FC 2 0 (by omega) (by omega) (by omega)]) (by rw [FC 3 0 (by omega) (by omega) (by omega)]) (fun i hi => FC 5 i (by omega) (by omega) (by omega)) (fun i hi => FC 6 i (by omega) (by omega) (by omega)) (FC 16 0 (by omega) (by omega) (by omega)) (FC 17 0 (by omega) (by omega) (by omega)) (FC 18 0 (by omega) (by omega) (by omega)) (FC 19 0 (by omega) (by omega) (by omega)) (FC 20 0 (by omega) (by omega) (by omega)) (FC 21 0 (by omega) (by omega) (by omega)) (FC 22 0 (by omega) (by omega) (by omega)) (FC 23 0 (by omega) (by omega) (by omega)) (FC 24 0 (by omega) (by omega) (by omega)) (fun j hj => FM 12 0 j (by omega) (by omega)) (fun k h1 h2 => Fk k (by omega) (by omega)) (fun k i h1 h2 h3 => by rw [Fk k (by omega) (by omega)]) (by rw [Fk 72 (by omega) (by omega)]) (fun k h1 h2 => by rw [Fk k (by omega) (by omega)]) (fun k h1 h2 => by rw [Fk k (by omega) (by omega)]), hU.cg (by omega) (by omega) hCo.1.2.1.2.2 (FC 10 0 (by omega) (by omega) (by omega)) (fun i hi => FC 5 i (by omega) (by omega) (by omega)) (FC 30 0 (by omega) (by omega) (by omega)) (FM 12 0 44 (by omega) (by omega)) (by rw [Fk 83 (by omega) (by omega)]), hT.cg (by rw [FC 7 0 (by omega) (by omega) (by omega)]) (FC 27 0 (by omega) (by omega) (by omega)) (FM 12 0 21 (by omega) (by omega)) (by rw [Fk 73 (by omega) (by omega)]), hW.cg (by rw [Fk 74 (by omega) (by omega)]), ?_, Or.inr ⟨up_at, ?_, nr, np, dy, nl, nc, hCo.ag hag (agM_of (fun k j hq => ?_))⟩⟩
    · unfold Flt
      rw [FC 4 0 (by omega) (by omega) (by omega), FM 12 0 39 (by omega) (by omega), FM 12 0 40 (by omega) (by omega)]
      exact hF
    · rw [a2 12 0 52 (by omega) (by omega), s52]
    · rw [img_ps hq, a1 (k, j) hq, sk k 0 j (fun z => by rw [alL_mem] at hq; omega)]
