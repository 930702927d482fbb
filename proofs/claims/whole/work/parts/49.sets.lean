/-! ===== PURE: sets of readers ===== -/
/-- how many bits -/
def pc (x : Nat) : Nat := cnt (fun i => x.testBit i) 12
theorem bitCount_eq {x : Nat} (h : x < 4096) : fJ6_bitCount_0f7a4 (nI x) = nI (pc x) := of_decide_eq_true (all64 bc_all h)
theorem ones_eq {x : Nat} (h : x < 4096) : fX12_ones (nI x) = some (nI (pc x)) := of_decide_eq_true (all64 on_all h)
theorem ntz_eq {x b : Nat} (h : x < 4096) (hb : fs (fun i => x.testBit i) 12 = some b) : fJ6_numberOfTrailingZeros_0f7a4 (nI x) = nI b := by
  have := all64 ntz_all h
  unfold ntzB at this
  rw [hb] at this
  exact of_decide_eq_true this
theorem pc_le (x : Nat) : pc x ≤ 12 := cnt_le _ _
theorem cnt_lt {P Q : Nat → Bool} (h : ∀ i, P i = true → Q i = true) : ∀ n, cnt P n ≤ cnt Q n ∧ ((∃ i, i < n ∧ Q i = true ∧ P i = false) → cnt P n < cnt Q n)
  | 0 => ⟨Nat.le_refl _, fun ⟨i, hi, _⟩ => absurd hi (by omega)⟩
  | n + 1 => by
    obtain ⟨a, b⟩ := cnt_lt h n
    unfold cnt
    have hn := h n
    cases hP : P n with
    | true =>
      rw [hn hP]
      refine ⟨by simp; omega, fun ⟨i, h1, h2, h3⟩ => ?_⟩
      have : i ≠ n := fun e => by rw [e, hP] at h3; cases h3
      have := b ⟨i, by omega, h2, h3⟩
      simp
      omega
    | false =>
      cases hQ : Q n with
      | true => exact ⟨by simp; omega, fun _ => by simp; omega⟩
      | false =>
        refine ⟨by simp; omega, fun ⟨i, h1, h2, h3⟩ => ?_⟩
        have : i ≠ n := fun e => by rw [e, hQ] at h2; cases h2
        have := b ⟨i, by omega, h2, h3⟩
        simp
        omega
theorem nI_and (a b : Nat) : nI a &&& nI b = nI (a &&& b) := by
  apply Int32.toBitVec_inj.mp
  rw [Int32.toBitVec_and]
  show BitVec.ofNat 32 a &&& BitVec.ofNat 32 b = BitVec.ofNat 32 (a &&& b)
  apply BitVec.eq_of_toNat_eq
  simp [Nat.and_mod_two_pow]
theorem nI_or (a b : Nat) : nI a ||| nI b = nI (a ||| b) := by
  apply Int32.toBitVec_inj.mp
  rw [Int32.toBitVec_or]
  show BitVec.ofNat 32 a ||| BitVec.ofNat 32 b = BitVec.ofNat 32 (a ||| b)
  apply BitVec.eq_of_toNat_eq
  simp [Nat.or_mod_two_pow]
theorem nI_xor (a b : Nat) : nI a ^^^ nI b = nI (a ^^^ b) := by
  apply Int32.toBitVec_inj.mp
  rw [Int32.toBitVec_xor]
  show BitVec.ofNat 32 a ^^^ BitVec.ofNat 32 b = BitVec.ofNat 32 (a ^^^ b)
  apply BitVec.eq_of_toNat_eq
  simp [Nat.xor_mod_two_pow]
theorem shl1 : ∀ q, q < 13 → (1 : Int32) <<< (nI q &&& 31) = nI (2 ^ q) := by decide +kernel
theorem sl31 : ∀ n, n < 32 → ((nI n &&& 31).toBitVec.smod 32).toNat = n := by decide +kernel
theorem nI_shr {x p : Nat} (hx : x < 2 ^ 31) (hp : p < 32) : nI x >>> (nI p &&& 31) = nI (x >>> p) := by
  apply Int32.toBitVec_inj.mp
  rw [Int32.toBitVec_shiftRight, BitVec.sshiftRight_eq', sl31 p hp]
  show (BitVec.ofNat 32 x).sshiftRight p = BitVec.ofNat 32 (x >>> p)
  rw [BitVec.sshiftRight_eq_of_msb_false]
  · apply BitVec.eq_of_toNat_eq
    rw [BitVec.toNat_ushiftRight, BitVec.toNat_ofNat, BitVec.toNat_ofNat, Nat.mod_eq_of_lt (by omega), Nat.mod_eq_of_lt]
    rw [Nat.shiftRight_eq_div_pow]
    exact Nat.lt_of_le_of_lt (Nat.div_le_self _ _) (by omega)
  · rw [BitVec.msb_eq_decide]
    simp
    omega
theorem shr_bit {p x : Nat} (hp : p < 12) (hx : x < 4096) : ((nI x >>> (nI p &&& 31)) &&& 1 = 1) ↔ x.testBit p = true := by
  rw [nI_shr (by omega) (by omega), show (1 : Int32) = nI 1 from rfl, nI_and, nI_eq]
  · unfold Nat.testBit
    rw [Nat.and_comm]
    have : 1 &&& x >>> p = 0 ∨ 1 &&& x >>> p = 1 := by
      rw [Nat.one_and_eq_mod_two]
      omega
    rcases this with e | e <;> simp [e]
  · have := Nat.and_le_right (n := x >>> p) (m := 1)
    omega
  · omega
theorem nz_bit {x : Nat} : ¬ x = 0 ↔ ∃ i, x.testBit i = true := by
  refine ⟨fun h => ?_, fun ⟨i, hi⟩ e => by rw [e, Nat.zero_testBit] at hi; cases hi⟩
  apply Classical.byContradiction
  intro q
  apply h
  apply Nat.eq_of_testBit_eq
  intro i
  rw [Nat.zero_testBit]
  cases hb : x.testBit i with
  | false => rfl
  | true => exact absurd ⟨i, hb⟩ q
theorem bit_lt {x i n : Nat} (h : x < 2 ^ n) (hb : x.testBit i = true) : i < n := by
  rcases Nat.lt_or_ge i n with q | q
  · exact q
  · rw [Nat.testBit_lt_two_pow (Nat.lt_of_lt_of_le h (Nat.pow_le_pow_right (by omega) q))] at hb
    cases hb
/-- the bits of a row of truths -/
def bitsOf (B : Nat → Bool) : Nat → Nat
  | 0 => 0
  | n + 1 => bitsOf B n ||| (if B n = true then 2 ^ n else 0)
theorem bitsOf_lt (B : Nat → Bool) : ∀ n, bitsOf B n < 2 ^ n
  | 0 => by simp [bitsOf]
  | n + 1 => by
    have h := bitsOf_lt B n
    unfold bitsOf
    apply Nat.or_lt_two_pow
    · rw [Nat.pow_succ]; omega
    · split
      · rw [Nat.pow_succ]; have : 0 < 2 ^ n := Nat.two_pow_pos n; omega
      · exact Nat.two_pow_pos _
theorem bitsOf_bit (B : Nat → Bool) (i : Nat) : ∀ n, (bitsOf B n).testBit i = true ↔ i < n ∧ B i = true
  | 0 => by simp [bitsOf]
  | n + 1 => by
    have h := bitsOf_bit B i n
    unfold bitsOf
    rw [Nat.testBit_or, Bool.or_eq_true, h]
    by_cases e : i = n
    · subst e
      cases hb : B i with
      | true => simp [Nat.testBit_two_pow_self]
      | false => simp
    · have : (if B n = true then 2 ^ n else 0).testBit i = false := by
        split
        · rw [Nat.testBit_two_pow]
          simp
          omega
        · simp
      rw [this]
      simp
      intro
      omega
noncomputable def dcd (P : Prop) : Bool := @decide P (Classical.propDecidable P)
theorem dcd_iff {P : Prop} : dcd P = true ↔ P := by
  unfold dcd
  exact ⟨fun h => @of_decide_eq_true P (Classical.propDecidable P) h, fun h => @decide_eq_true P (Classical.propDecidable P) h⟩
theorem dcd_no {P : Prop} (h : ¬ P) : dcd P = false := by
  cases e : dcd P with
  | false => rfl
  | true => exact absurd (dcd_iff.mp e) h
theorem bitsOf_succ {B : Nat → Bool} {n : Nat} (hn : n < 12) : nI (bitsOf B (n + 1)) = if B n = true then nI (bitsOf B n) ||| (1 <<< (nI n &&& 31)) else nI (bitsOf B n) := by
  rw [show bitsOf B (n + 1) = bitsOf B n ||| (if B n = true then 2 ^ n else 0) from rfl]
  by_cases h : B n = true
  · rw [if_pos h, if_pos h, shl1 n (by omega), nI_or]
  · rw [if_neg h, if_neg h, Nat.or_zero]
theorem b12_lt {B : Nat → Bool} {n : Nat} (hn : n ≤ 12) : bitsOf B n < 4096 := Nat.lt_of_lt_of_le (bitsOf_lt B n) (Nat.pow_le_pow_right (by omega) hn)
