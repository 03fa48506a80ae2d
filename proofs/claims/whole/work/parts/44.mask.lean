/-! PURE: masks of rooms; marks -/
theorem hI_and1 : ∀ k, k < 16 → ∀ r, r < 4 → hI k &&& (1 <<< (hI r &&& 31)) = hI (k &&& 2 ^ r) := by decide +kernel
theorem hI_and2 : ∀ k, k < 16 → ∀ r, r < 4 → hI k &&& ((1 <<< (hI r &&& 31)) ^^^ (-1)) = hI (k &&& (15 ^^^ 2 ^ r)) := by decide +kernel
theorem hI_or1 : ∀ k, k < 16 → ∀ r, r < 4 → hI k ||| (1 <<< (hI r &&& 31)) = hI (k ||| 2 ^ r) := by decide +kernel
theorem hI_xor1 : ∀ k, k < 16 → ∀ r, r < 4 → hI k ^^^ (1 <<< (hI r &&& 31)) = hI (k ^^^ 2 ^ r) := by decide +kernel
theorem hI_full : ∀ n, n < 5 → (1 <<< (hI n &&& 31)) - 1 = hI (2 ^ n - 1) := by decide +kernel
theorem hI_pow : ∀ n, n < 9 → (1 : Int32) <<< (hI n &&& 31) = hI (2 ^ n) := by decide +kernel
theorem hv_tb1 : ∀ r, r < 4 → ∀ q, q < 4 → (15 ^^^ 2 ^ r).testBit q = (q != r) := by decide +kernel
theorem hv_tb2 : ∀ r, r < 4 → ∀ q, q < 4 → (2 ^ r).testBit q = (q == r) := by decide +kernel
theorem hv_tb3 : ∀ n, n < 5 → ∀ q, q < 4 → (2 ^ n - 1).testBit q = decide (q < n) := by decide +kernel
theorem hv_p16 : ∀ r, r < 4 → 2 ^ r < 16 := by decide
/-- the number x is the mask of the rooms below R in which one may be -/
def hv_msk (R : Nat) (may : Nat → Bool) (x : Int32) : Prop := ∃ k, k < 16 ∧ x = hI k ∧ ∀ r, r < 4 → k.testBit r = (decide (r < R) && may r)
theorem hv_msk.full {R : Nat} (hR : R < 5) : hv_msk R (fun _ => true) ((1 <<< (hI R &&& 31)) - 1) := by
  refine ⟨2 ^ R - 1, ?_, hI_full R hR, fun r hr => by rw [hv_tb3 R hR r hr, Bool.and_true]⟩
  have : 2 ^ R ≤ 2 ^ 4 := Nat.pow_le_pow_right (by decide) (by omega)
  omega
theorem hv_msk.bit {R : Nat} {may : Nat → Bool} {x : Int32} (m : hv_msk R may x) {r : Nat} (hr : r < 4) : hv_msk R (fun q => may q && q == r) (x &&& (1 <<< (hI r &&& 31))) := by
  obtain ⟨k, hk, rfl, t⟩ := m
  refine ⟨k &&& 2 ^ r, Nat.lt_of_le_of_lt Nat.and_le_left hk, hI_and1 k hk r hr, fun q hq => ?_⟩
  rw [Nat.testBit_and, t q hq, hv_tb2 r hr q hq, Bool.and_assoc]
theorem hv_msk.not {R : Nat} {may : Nat → Bool} {x : Int32} (m : hv_msk R may x) {r : Nat} (hr : r < 4) : hv_msk R (fun q => may q && q != r) (x &&& ((1 <<< (hI r &&& 31)) ^^^ (-1))) := by
  obtain ⟨k, hk, rfl, t⟩ := m
  refine ⟨k &&& (15 ^^^ 2 ^ r), Nat.lt_of_le_of_lt Nat.and_le_left hk, hI_and2 k hk r hr, fun q hq => ?_⟩
  rw [Nat.testBit_and, t q hq, hv_tb1 r hr q hq, Bool.and_assoc]
theorem hv_msk.congr {R : Nat} {may may' : Nat → Bool} {x : Int32} (m : hv_msk R may x) (e : ∀ r, r < 4 → may r = may' r) : hv_msk R may' x := by
  obtain ⟨k, hk, rfl, t⟩ := m
  exact ⟨k, hk, rfl, fun r hr => by rw [t r hr, e r hr]⟩
theorem hv_msk.has {R : Nat} {may : Nat → Bool} {x : Int32} (m : hv_msk R may x) {r : Nat} (hr : r < 4) (hR : r < R) : ((x >>> (hI r &&& 31)) &&& 1) = if may r then 1 else 0 := by
  obtain ⟨k, hk, rfl, t⟩ := m
  have e := t r hr
  rw [decide_eq_true hR, Bool.true_and] at e
  rw [← e]
  have h01 : ∀ k, k < 16 → ∀ r, r < 4 → ((hI k >>> (hI r &&& 31)) &&& 1) = if k.testBit r then 1 else 0 := by decide +kernel
  exact h01 k hk r hr
theorem hv_step_bit {h : hv} (ok : hv_ok h) {r q : Nat} (hr : r < 4) (hq : q < 4) : ((hI (h.door r ||| 2 ^ r) >>> (hI q &&& 31)) &&& 1) = 1 ↔ hv_step h r q = true := by
  have k1 := ok.door16 hr
  have k2 : ∀ k, k < 16 → k ||| 2 ^ r < 16 := by
    intro k hk
    have : ∀ r, r < 4 → ∀ k, k < 16 → k ||| 2 ^ r < 16 := by decide +kernel
    exact this r hr k hk
  rw [hI_bit (k2 _ k1) hq, Nat.testBit_or, hv_tb2 r hr q hq]
  unfold hv_step
  rw [Bool.or_comm, show (q == r) = (r == q) from Bool.beq_comm]
theorem hv_mark_child : ∀ c, c < 4 → ∀ m, m < 6 → ∀ r, r < 4 → ∀ x, x < 4 → ((hI (hv_mark c m r x) >>> 9) &&& 7) = hI c := by decide +kernel
theorem hv_mark_minute : ∀ c, c < 4 → ∀ m, m < 6 → ∀ r, r < 4 → ∀ x, x < 4 → ((hI (hv_mark c m r x) >>> 6) &&& 7) = hI m := by decide +kernel
theorem hv_mark_room : ∀ c, c < 4 → ∀ m, m < 6 → ∀ r, r < 4 → ∀ x, x < 4 → ((hI (hv_mark c m r x) >>> 3) &&& 7) = hI r := by decide +kernel
theorem hv_mark_more : ∀ c, c < 4 → ∀ m, m < 6 → ∀ r, r < 4 → ∀ x, x < 4 → (hI (hv_mark c m r x) &&& 7) = hI x := by decide +kernel
theorem hv_mark_mark : ∀ c, c < 4 → ∀ m, m < 6 → ∀ r, r < 4 → ∀ x, x < 4 → ((((hI c <<< 9) ||| (hI m <<< 6)) ||| (hI r <<< 3)) ||| hI x) = hI (hv_mark c m r x) := by decide +kernel
/-- may by the first n facts -/
def hv_mayN (h : hv) (c n m r : Nat) : Bool := (List.range n).all fun i => !(h.fc i == c && h.fm i == m) || (if h.fi i = 1 then h.fr i == r else h.fr i != r)
theorem hv_mayN_F (h : hv) (c m r : Nat) : hv_mayN h c h.F m r = hv_may h c m r := rfl
theorem hv_mayN_0 (h : hv) (c m r : Nat) : hv_mayN h c 0 m r = true := rfl
theorem hv_mayN_succ (h : hv) (c n m r : Nat) : hv_mayN h c (n + 1) m r = (hv_mayN h c n m r && (!(h.fc n == c && h.fm n == m) || (if h.fi n = 1 then h.fr n == r else h.fr n != r))) := by
  unfold hv_mayN
  rw [List.range_succ, List.all_append]
  simp
theorem hv_mayN_other {h : hv} {c n m r : Nat} (x : ¬ (h.fc n = c ∧ h.fm n = m)) : hv_mayN h c (n + 1) m r = hv_mayN h c n m r := by
  rw [hv_mayN_succ]
  have : (h.fc n == c && h.fm n == m) = false := by
    cases e : (h.fc n == c && h.fm n == m)
    · rfl
    · rw [Bool.and_eq_true, beq_iff_eq, beq_iff_eq] at e; exact absurd e x
  rw [this]; simp
theorem hv_mayN_is {h : hv} {c n m r : Nat} (x : h.fc n = c ∧ h.fm n = m) (y : h.fi n = 1) : hv_mayN h c (n + 1) m r = (hv_mayN h c n m r && r == h.fr n) := by
  rw [hv_mayN_succ, x.1, x.2, y, beq_self_eq_true, beq_self_eq_true, if_pos rfl, show (h.fr n == r) = (r == h.fr n) from Bool.beq_comm]; simp
theorem hv_mayN_not {h : hv} {c n m r : Nat} (x : h.fc n = c ∧ h.fm n = m) (y : ¬ h.fi n = 1) : hv_mayN h c (n + 1) m r = (hv_mayN h c n m r && r != h.fr n) := by
  rw [hv_mayN_succ, x.1, x.2, if_neg y, beq_self_eq_true, beq_self_eq_true]
  simp [bne, Bool.beq_comm]
