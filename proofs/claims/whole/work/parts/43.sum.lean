/-! PURE: sums; ways forward and backward -/
def hv_sum (n : Nat) (f : Nat → Nat) : Nat := ((List.range n).map f).sum
theorem hv_sum_zero (f : Nat → Nat) : hv_sum 0 f = 0 := rfl
theorem hv_sum_succ (n : Nat) (f : Nat → Nat) : hv_sum (n + 1) f = hv_sum n f + f n := by
  unfold hv_sum
  rw [List.range_succ, List.map_append, List.sum_append]
  simp
theorem hv_sum_congr {n : Nat} {f g : Nat → Nat} (h : ∀ i, i < n → f i = g i) : hv_sum n f = hv_sum n g := by
  induction n with
  | zero => rfl
  | succ n ih => rw [hv_sum_succ, hv_sum_succ, ih (fun i hi => h i (by omega)), h n (by omega)]
theorem hv_sum_le {n : Nat} {f g : Nat → Nat} (h : ∀ i, i < n → f i ≤ g i) : hv_sum n f ≤ hv_sum n g := by
  induction n with
  | zero => exact Nat.le_refl _
  | succ n ih => rw [hv_sum_succ, hv_sum_succ]; exact Nat.add_le_add (ih (fun i hi => h i (by omega))) (h n (by omega))
theorem hv_sum_nul (n : Nat) : hv_sum n (fun _ => 0) = 0 := by
  induction n with
  | zero => rfl
  | succ n ih => rw [hv_sum_succ, ih]
theorem hv_sum_const (n c : Nat) : hv_sum n (fun _ => c) = n * c := by
  induction n with
  | zero => rw [hv_sum_zero, Nat.zero_mul]
  | succ n ih => rw [hv_sum_succ, ih, Nat.succ_mul]
theorem hv_sum_add (n : Nat) (f g : Nat → Nat) : hv_sum n (fun i => f i + g i) = hv_sum n f + hv_sum n g := by
  induction n with
  | zero => rfl
  | succ n ih => rw [hv_sum_succ, hv_sum_succ, hv_sum_succ, ih]; omega
theorem hv_sum_mul (n : Nat) (f : Nat → Nat) (c : Nat) : hv_sum n (fun i => f i * c) = hv_sum n f * c := by
  induction n with
  | zero => rw [hv_sum_zero, hv_sum_zero, Nat.zero_mul]
  | succ n ih => rw [hv_sum_succ, hv_sum_succ, ih, Nat.add_mul]
theorem hv_sum_mul2 (n : Nat) (f : Nat → Nat) (c : Nat) : hv_sum n (fun i => c * f i) = c * hv_sum n f := by
  induction n with
  | zero => rw [hv_sum_zero, hv_sum_zero, Nat.mul_zero]
  | succ n ih => rw [hv_sum_succ, hv_sum_succ, ih, Nat.mul_add]
theorem hv_sum_comm (n m : Nat) (f : Nat → Nat → Nat) : hv_sum n (fun i => hv_sum m (fun j => f i j)) = hv_sum m (fun j => hv_sum n (fun i => f i j)) := by
  induction n with
  | zero => rw [hv_sum_zero]; exact (hv_sum_nul m).symm
  | succ n ih =>
    rw [hv_sum_succ, ih, ← hv_sum_add]
    exact hv_sum_congr fun j _ => (hv_sum_succ n _).symm
theorem hv_sum_pick {n r : Nat} (hr : r < n) (f : Nat → Nat) : hv_sum n (fun i => if i = r then f i else 0) = f r := by
  induction n with
  | zero => omega
  | succ n ih =>
    rw [hv_sum_succ]
    by_cases c : r = n
    · subst c
      rw [if_pos rfl, hv_sum_congr (g := fun _ => 0) (fun i hi => if_neg (by omega)), hv_sum_nul, Nat.zero_add]
    · rw [ih (by omega), if_neg (fun e => c e.symm), Nat.add_zero]
theorem hv_sum_pos {n r : Nat} (hr : r < n) (f : Nat → Nat) (h : 0 < f r) : 0 < hv_sum n f := by
  have : hv_sum n (fun i => if i = r then f i else 0) ≤ hv_sum n f := hv_sum_le fun i _ => by
    show (if i = r then f i else 0) ≤ f i
    split
    · exact Nat.le_refl _
    · exact Nat.zero_le _
  rw [hv_sum_pick hr] at this
  omega
theorem hv_cnt_zero (h : hv) (may : Nat → Nat → Bool) (r : Nat) : hv_cnt h may 0 r = if may 0 r then 1 else 0 := by rw [hv_cnt]
theorem hv_cnt_succ (h : hv) (may : Nat → Nat → Bool) (m r : Nat) : hv_cnt h may (m + 1) r = if may (m + 1) r then hv_sum h.R (fun q => if hv_step h r q then hv_cnt h may m q else 0) else 0 := by rw [hv_cnt]; rfl
theorem hv_all_eq (h : hv) (may : Nat → Nat → Bool) : hv_all h may = hv_sum h.R (fun r => hv_cnt h may (h.M - 1) r) := rfl
theorem hv_cnt_may {h : hv} {may : Nat → Nat → Bool} {m r : Nat} (x : may m r = false) : hv_cnt h may m r = 0 := by
  cases m with
  | zero => rw [hv_cnt_zero, x]; rfl
  | succ m => rw [hv_cnt_succ, x]; rfl
theorem hv_cnt_congr {h : hv} {may may' : Nat → Nat → Bool} {n : Nat} (x : ∀ m r, m ≤ n → r < h.R → may m r = may' m r) : ∀ m r, m ≤ n → r < h.R → hv_cnt h may m r = hv_cnt h may' m r := by
  intro m
  induction m with
  | zero => intro r hm hr; rw [hv_cnt_zero, hv_cnt_zero, x 0 r hm hr]
  | succ m ih =>
    intro r hm hr
    rw [hv_cnt_succ, hv_cnt_succ, x (m + 1) r hm hr]
    rw [hv_sum_congr fun q hq => by rw [ih q (by omega) hq]]
theorem hv_all_congr {h : hv} {may may' : Nat → Nat → Bool} (x : ∀ m r, m ≤ h.M - 1 → r < h.R → may m r = may' m r) : hv_all h may = hv_all h may' := by
  rw [hv_all_eq, hv_all_eq]
  exact hv_sum_congr fun r hr => hv_cnt_congr x (h.M - 1) r (Nat.le_refl _) hr
theorem hv_cnt_mono {h : hv} {may may' : Nat → Nat → Bool} (x : ∀ m r, may m r = true → may' m r = true) : ∀ m r, hv_cnt h may m r ≤ hv_cnt h may' m r := by
  intro m
  induction m with
  | zero =>
    intro r
    rw [hv_cnt_zero, hv_cnt_zero]
    cases c : may 0 r
    · exact Nat.zero_le _
    · rw [x _ _ c]; exact Nat.le_refl _
  | succ m ih =>
    intro r
    rw [hv_cnt_succ, hv_cnt_succ]
    cases c : may (m + 1) r
    · exact Nat.zero_le _
    · rw [x _ _ c, if_pos rfl, if_pos rfl]
      refine hv_sum_le fun q _ => ?_
      cases hv_step h r q
      · exact Nat.le_refl _
      · exact ih q
theorem hv_all_mono {h : hv} {may may' : Nat → Nat → Bool} (x : ∀ m r, may m r = true → may' m r = true) : hv_all h may ≤ hv_all h may' := by
  rw [hv_all_eq, hv_all_eq]
  exact hv_sum_le fun r _ => hv_cnt_mono x _ r
theorem hv_cnt_big {h : hv} (ok : hv_ok h) (may : Nat → Nat → Bool) : ∀ m r, hv_cnt h may m r ≤ 4 ^ m := by
  intro m
  induction m with
  | zero => intro r; rw [hv_cnt_zero]; split <;> decide
  | succ m ih =>
    intro r
    rw [hv_cnt_succ]
    split
    · have h1 : hv_sum h.R (fun q => if hv_step h r q then hv_cnt h may m q else 0) ≤ hv_sum h.R (fun _ => 4 ^ m) := hv_sum_le fun q _ => by
        show (if hv_step h r q = true then hv_cnt h may m q else 0) ≤ 4 ^ m
        split
        · exact ih q
        · exact Nat.zero_le _
      have h2 := ok.R
      rw [hv_sum_const] at h1
      have h3 : h.R * 4 ^ m ≤ 4 * 4 ^ m := Nat.mul_le_mul_right _ h2.2
      rw [Nat.pow_succ]; omega
    · exact Nat.zero_le _
theorem hv_all_big {h : hv} (ok : hv_ok h) (may : Nat → Nat → Bool) : hv_all h may ≤ 4096 := by
  have h1 : hv_all h may ≤ hv_sum h.R (fun _ => 4 ^ (h.M - 1)) := by rw [hv_all_eq]; exact hv_sum_le fun r _ => hv_cnt_big ok may _ r
  have h2 := ok.R
  have h3 := ok.M
  rw [hv_sum_const] at h1
  have h4 : 4 ^ (h.M - 1) ≤ 4 ^ 5 := Nat.pow_le_pow_right (by decide) (by omega)
  have h5 : h.R * 4 ^ (h.M - 1) ≤ 4 * 4 ^ 5 := Nat.mul_le_mul h2.2 h4
  have h6 : 4 * 4 ^ 5 = 4096 := by decide
  omega
/-- the ways on from room r at minute m, n minutes on -/
def hv_bk (h : hv) (may : Nat → Nat → Bool) : Nat → Nat → Nat → Nat
  | 0, _, _ => 1
  | n + 1, m, r => hv_sum h.R fun q => if hv_step h r q then (if may (m + 1) q then hv_bk h may n (m + 1) q else 0) else 0
theorem hv_bk_zero (h : hv) (may : Nat → Nat → Bool) (m r : Nat) : hv_bk h may 0 m r = 1 := by rw [hv_bk]
theorem hv_bk_succ (h : hv) (may : Nat → Nat → Bool) (n m r : Nat) : hv_bk h may (n + 1) m r = hv_sum h.R fun q => if hv_step h r q then (if may (m + 1) q then hv_bk h may n (m + 1) q else 0) else 0 := by rw [hv_bk]
theorem hv_step_sym {h : hv} (ok : hv_ok h) {r q : Nat} (hr : r < h.R) (hq : q < h.R) : hv_step h r q = hv_step h q r := by
  have h1 := ok.R
  unfold hv_step
  rw [ok.sym r q (by omega) (by omega)]
  by_cases c : r = q
  · rw [c]
  · rw [beq_eq_false_iff_ne.mpr c, beq_eq_false_iff_ne.mpr (fun e => c e.symm)]
theorem hv_inner {h : hv} (ok : hv_ok h) {may may' : Nat → Nat → Bool} : ∀ n m, (∀ j q, m < j → may' j q = may j q) → hv_sum h.R (fun q => hv_cnt h may' m q * hv_bk h may n m q) = hv_sum h.R (fun q => hv_cnt h may' (m + n) q) := by
  intro n
  induction n with
  | zero => intro m _; exact hv_sum_congr fun q _ => by rw [hv_bk_zero, Nat.mul_one]; rfl
  | succ n ih =>
    intro m x
    have e1 : hv_sum h.R (fun q => hv_cnt h may' m q * hv_bk h may (n + 1) m q) = hv_sum h.R (fun q => hv_sum h.R (fun p => hv_cnt h may' m q * (if hv_step h q p then (if may (m + 1) p then hv_bk h may n (m + 1) p else 0) else 0))) := hv_sum_congr fun q _ => by rw [hv_bk_succ, hv_sum_mul2]
    rw [e1, hv_sum_comm, show m + (n + 1) = (m + 1) + n by omega, ← ih (m + 1) (fun j q hj => x j q (by omega))]
    refine hv_sum_congr fun p hp => ?_
    rw [hv_cnt_succ, x (m + 1) p (by omega)]
    cases c : may (m + 1) p
    · rw [hv_sum_congr (g := fun _ => 0) (fun q hq => by
        cases hv_step h q p
        · exact Nat.mul_zero _
        · exact Nat.mul_zero _), hv_sum_nul]
      exact (Nat.zero_mul _).symm
    · simp only [↓reduceIte]
      rw [← hv_sum_mul]
      refine hv_sum_congr fun q hq => ?_
      rw [hv_step_sym ok hp hq]
      cases hv_step h q p
      · show hv_cnt h may' m q * 0 = 0 * _
        rw [Nat.mul_zero, Nat.zero_mul]
      · rfl
/-- may, but at minute m only in room r -/
def hv_pin (may : Nat → Nat → Bool) (m r : Nat) : Nat → Nat → Bool := fun j q => may j q && (j != m || q == r)
theorem hv_through {h : hv} (ok : hv_ok h) (may : Nat → Nat → Bool) {m r : Nat} (hm : m < h.M) (hr : r < h.R) : hv_all h (hv_pin may m r) = hv_cnt h may m r * hv_bk h may (h.M - 1 - m) m r := by
  have k1 : ∀ j q, m < j → hv_pin may m r j q = may j q := fun j q hj => by
    unfold hv_pin
    rw [bne_iff_ne.mpr (show j ≠ m by omega), Bool.true_or, Bool.and_true]
  have k2 := hv_inner ok (may := may) (may' := hv_pin may m r) (h.M - 1 - m) m k1
  rw [hv_all_eq, show h.M - 1 = m + (h.M - 1 - m) by omega, ← k2, show m + (h.M - 1 - m) - m = h.M - 1 - m by omega]
  have k3 : ∀ q, q < h.R → hv_cnt h (hv_pin may m r) m q = if q = r then hv_cnt h may m r else 0 := fun q hq => by
    by_cases c : q = r
    · subst c
      rw [if_pos rfl]
      cases m with
      | zero =>
        rw [hv_cnt_zero, hv_cnt_zero]; unfold hv_pin
        rw [beq_self_eq_true, Bool.or_true, Bool.and_true]
      | succ m =>
        rw [hv_cnt_succ, hv_cnt_succ]
        have e : hv_pin may (m + 1) q (m + 1) q = may (m + 1) q := by
          unfold hv_pin
          rw [beq_self_eq_true, Bool.or_true, Bool.and_true]
        rw [e]
        rw [hv_sum_congr fun p hp => by rw [hv_cnt_congr (may := hv_pin may (m + 1) q) (may' := may) (n := m) (fun j s hj _ => by
          unfold hv_pin
          rw [bne_iff_ne.mpr (show j ≠ m + 1 by omega), Bool.true_or, Bool.and_true]) m p (Nat.le_refl _) hp]]
    · rw [if_neg c]
      refine hv_cnt_may ?_
      unfold hv_pin
      rw [show (m != m) = false from bne_self_eq_false m, beq_eq_false_iff_ne.mpr c, Bool.or_false, Bool.and_false]
  rw [hv_sum_congr (g := fun q => if q = r then hv_cnt h may m q * hv_bk h may (h.M - 1 - m) m q else 0) (fun q hq => by
    rw [k3 q hq]
    by_cases c : q = r
    · rw [if_pos c, if_pos c, c]
    · rw [if_neg c, if_neg c, Nat.zero_mul]), hv_sum_pick hr]
