/-! PURE: bits of a row of doors -/
theorem hI_bit' : ∀ n, n < 16 → ∀ k, k < 4 → (decide (((hI n >>> (hI k &&& 31)) &&& 1) = 1)) = n.testBit k := by decide +kernel
theorem hI_bit {n k : Nat} (hn : n < 16) (hk : k < 4) : ((hI n >>> (hI k &&& 31)) &&& 1) = 1 ↔ n.testBit k = true := by rw [← hI_bit' n hn k hk, decide_eq_true_iff]
theorem hv_ok.door16 {h : hv} (ok : hv_ok h) {r : Nat} (hr : r < 4) : h.door r < 16 := by
  have h1 := (ok.door r hr).1
  have h2 := ok.R.2
  have : 2 ^ h.R ≤ 2 ^ 4 := Nat.pow_le_pow_right (by decide) h2
  omega
