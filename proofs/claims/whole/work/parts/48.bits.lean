/-! ===== PURE: sets of readers as bits ===== -/
noncomputable def ntzB (x : Nat) : Bool := match fs (fun i => x.testBit i) 12 with
  | none => true
  | some b => decide (fJ6_numberOfTrailingZeros_0f7a4 (nI x) = nI b)
noncomputable def bcB (x : Nat) : Bool := decide (fJ6_bitCount_0f7a4 (nI x) = nI (cnt (fun i => x.testBit i) 12))
noncomputable def onB (x : Nat) : Bool := decide (fX12_ones (nI x) = some (nI (cnt (fun i => x.testBit i) 12)))
def allB (P : Nat → Bool) : Nat → Bool
  | 0 => true
  | n + 1 => P n && allB P n
theorem allB_at {P : Nat → Bool} : ∀ {n i : Nat}, allB P n = true → i < n → P i = true
  | n + 1, i, h, hi => by
    unfold allB at h
    rw [Bool.and_eq_true] at h
    by_cases e : i = n
    · rw [e]; exact h.1
    · exact allB_at h.2 (by omega)
theorem all64 {P : Nat → Bool} (h : allB (fun a => allB (fun b => P (64 * a + b)) 64) 64 = true) {x : Nat} (hx : x < 4096) : P x = true := by
  have h1 : allB (fun b => P (64 * (x / 64) + b)) 64 = true := allB_at (P := fun a => allB (fun b => P (64 * a + b)) 64) h (show x / 64 < 64 by omega)
  have := allB_at (P := fun b => P (64 * (x / 64) + b)) h1 (show x % 64 < 64 by omega)
  rw [show 64 * (x / 64) + x % 64 = x by omega] at this
  exact this
theorem bc_all : allB (fun a => allB (fun b => bcB (64 * a + b)) 64) 64 = true := by decide +kernel
theorem on_all : allB (fun a => allB (fun b => onB (64 * a + b)) 64) 64 = true := by decide +kernel
theorem ntz_all : allB (fun a => allB (fun b => ntzB (64 * a + b)) 64) 64 = true := by decide +kernel
