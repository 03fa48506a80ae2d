/-! PURE: least terms; lasts -/
def hL (n : Nat) : Int64 := Int64.ofNat n
theorem hL_toInt {n : Nat} (h : n < 2 ^ 63) : (hL n).toInt = n := Int64.toInt_ofNat_of_lt h
theorem hL_inj {n m : Nat} (h1 : n < 2 ^ 63) (h2 : m < 2 ^ 63) : hL n = hL m ↔ n = m := ⟨fun e => by
  have := congrArg Int64.toInt e
  rw [hL_toInt h1, hL_toInt h2] at this
  omega, fun e => by rw [e]⟩
theorem hL_lt {n m : Nat} (h1 : n < 2 ^ 63) (h2 : m < 2 ^ 63) : hL n < hL m ↔ n < m := by
  rw [Int64.lt_iff_toInt_lt, hL_toInt h1, hL_toInt h2]; omega
theorem hL_le {n m : Nat} (h1 : n < 2 ^ 63) (h2 : m < 2 ^ 63) : hL n ≤ hL m ↔ n ≤ m := by
  rw [Int64.le_iff_toInt_le, hL_toInt h1, hL_toInt h2]; omega
theorem hL_add (n m : Nat) : hL n + hL m = hL (n + m) := (Int64.ofNat_add n m).symm
theorem hL_mul (n m : Nat) : hL n * hL m = hL (n * m) := (Int64.ofNat_mul n m).symm
theorem hL_sub {n m : Nat} (h : m ≤ n) : hL n - hL m = hL (n - m) := by
  have e : hL n = hL (n - m) + hL m := by rw [hL_add, Nat.sub_add_cancel h]
  rw [e, Int64.add_sub_cancel]
theorem hL_div {n m : Nat} (h1 : n < 2 ^ 63) (h2 : m < 2 ^ 63) : hL n / hL m = hL (n / m) := by
  refine Int64.toInt_inj.mp ?_
  have h3 : n / m < 2 ^ 63 := Nat.lt_of_le_of_lt (Nat.div_le_self n m) h1
  rw [Int64.toInt_div, hL_toInt h1, hL_toInt h2, hL_toInt h3]
  have e : (n : Int).tdiv (m : Int) = ((n / m : Nat) : Int) := rfl
  rw [e]
  clear e
  generalize n / m = q at h3 ⊢
  exact Int.bmod_eq_of_le (by omega) (by omega)
theorem hL_rem {n m : Nat} (h1 : n < 2 ^ 63) (h2 : m < 2 ^ 63) : am_lrem (hL n) (hL m) = hL (n % m) := by
  unfold am_lrem
  rw [hL_div h1 h2, hL_mul, hL_sub (Nat.div_mul_le_self n m)]
  congr 1
  have := Nat.div_add_mod n m
  rw [Nat.mul_comm] at this
  omega
theorem hI_long {n : Nat} (h : n < 2 ^ 31) : (hI n).toInt64 = hL n := by
  refine Int64.toInt_inj.mp ?_
  rw [Int32.toInt_toInt64, hI_toInt h, hL_toInt (by omega)]
theorem hv_cmp0 (x y : Int64) : (lg_cmp x y = 0) = (x = y) := by
  refine propext ?_
  show (if x > y then (1 : Int32) else if x = y then 0 else -1) = 0 ↔ _
  by_cases h : x > y
  · rw [if_pos h]
    exact ⟨fun e => absurd e (by decide), fun e => absurd h (by rw [e]; exact Int64.lt_irrefl)⟩
  · rw [if_neg h]
    by_cases h2 : x = y
    · rw [if_pos h2]; exact ⟨fun _ => h2, fun _ => rfl⟩
    · rw [if_neg h2]; exact ⟨fun e => absurd e (by decide), fun e => absurd e h2⟩
theorem hv_cmpL0 {n : Nat} (h : n < 2 ^ 63) : (lg_cmp (hL n) 0 = 0) = (n = 0) := by
  rw [hv_cmp0]; exact propext (hL_inj (m := 0) h (by decide))
theorem hv_L0 {n : Nat} (h : n < 2 ^ 63) : (hL n = 0) = (n = 0) := propext (hL_inj (m := 0) h (by decide))
/-- Euclid's steps -/
def hv_eu : Nat → Nat → Nat → Nat × Nat
  | 0, a, b => (a, b)
  | n + 1, a, b => if a = 0 then (a, b) else hv_eu n (b % a) a
theorem hv_eu_0 (a b : Nat) : hv_eu 0 a b = (a, b) := by rw [hv_eu]
theorem hv_eu_s (n a b : Nat) : hv_eu (n + 1) a b = if a = 0 then (a, b) else hv_eu n (b % a) a := by rw [hv_eu]
def hv_fp : Nat → Nat × Nat
  | 0 => (1, 1)
  | n + 1 => match hv_fp n with
    | (a, b) => (b, a + b)
theorem hv_fp_0 : hv_fp 0 = (1, 1) := by rw [hv_fp]
theorem hv_fp_s (n : Nat) : hv_fp (n + 1) = ((hv_fp n).2, (hv_fp n).1 + (hv_fp n).2) := by rw [hv_fp]
theorem hv_eu_fib : ∀ n a b, a < b → (hv_eu n a b).1 ≠ 0 → (hv_fp n).1 ≤ a ∧ (hv_fp n).2 ≤ b := by
  intro n
  induction n with
  | zero =>
    intro a b h e
    rw [hv_eu_0] at e
    rw [hv_fp_0]
    dsimp only at e ⊢
    omega
  | succ n ih =>
    intro a b h e
    rw [hv_eu_s] at e
    by_cases z : a = 0
    · rw [if_pos z] at e; exact absurd z e
    · rw [if_neg z] at e
      obtain ⟨i1, i2⟩ := ih (b % a) a (Nat.mod_lt _ (by omega)) e
      rw [hv_fp_s]
      dsimp only
      refine ⟨i2, ?_⟩
      have k1 := Nat.div_add_mod b a
      have k2 : 1 ≤ b / a := (Nat.one_le_div_iff (by omega)).mpr (by omega)
      have k3 : a * 1 ≤ a * (b / a) := Nat.mul_le_mul_left a k2
      omega
theorem hv_eu_100 {a b : Nat} (h : a < 2 ^ 63) : (hv_eu 100 a b).1 = 0 := by
  rw [hv_eu_s]
  by_cases z : a = 0
  · rw [if_pos z]; exact z
  · rw [if_neg z]
    refine Decidable.byContradiction fun e => ?_
    have := (hv_eu_fib 99 (b % a) a (Nat.mod_lt _ (by omega)) e).2
    have k : 2 ^ 63 < (hv_fp 99).2 := by decide +kernel
    omega
/-- a by b in least terms; 0 by 1, where there is nothing above -/
def hv_part (a b p : Nat) : Int64 := if a = 0 then hL p else if p = 0 then hL (a / Nat.gcd a b) else hL (b / Nat.gcd a b)
theorem hv_gcd_lt {a b : Nat} (h : a < 2 ^ 63) (z : a ≠ 0) : Nat.gcd a b < 2 ^ 63 := by
  have := Nat.gcd_le_left b (show 0 < a by omega)
  omega
theorem hv_M_divisor {a b : Nat} (ha : a < 2 ^ 63) (hb : b < 2 ^ 63) (σ : am_St) : f_M_divisor (hL a) (hL b) σ = some (hL (Nat.gcd a b), σ) := by
  rw [eq_M_divisor]; unfold g_M_divisor f_M_divisor_6
  have L := hv_lp (body := fun s : Int64 × Int64 × am_St => b_M_divisor_6 s.1 s.2.1 s.2.2) (P := fun x => x = (hL (Nat.gcd a b), σ)) (fun n t => ∃ x y, t = (hL x, hL y, σ) ∧ x < 2 ^ 63 ∧ y < 2 ^ 63 ∧ y ≤ n ∧ Nat.gcd x y = Nat.gcd a b) b (hL a, hL b, σ) ⟨a, b, rfl, ha, hb, Nat.le_refl _, rfl⟩ ?_ ?_
  · obtain ⟨x, e, rfl⟩ := L; exact e
  · rintro n t ⟨x, y, rfl, hx, hy, hn, g⟩
    by_cases z : y = 0
    · refine .inr ⟨(hL x, σ), ?_, by rw [← g, z, Nat.gcd_zero_right]⟩
      show b_M_divisor_6 (hL x) (hL y) σ = _
      unfold b_M_divisor_6
      rw [if_pos (show lg_cmp (hL y) 0 = 0 by rw [hv_cmpL0 hy]; exact z)]
    · refine .inl ⟨_, ?_, y, x % y, rfl, hy, by have := Nat.mod_lt x (show 0 < y by omega); omega, by have := Nat.mod_lt x (show 0 < y by omega); omega, ?_⟩
      · show b_M_divisor_6 (hL x) (hL y) σ = _
        unfold b_M_divisor_6
        simp only [hv_cmpL0 hy, hv_L0 hy, z, ↓reduceIte, hL_rem hx hy]
      · rw [← g, Nat.gcd_comm y, ← Nat.gcd_rec, Nat.gcd_comm]
  · rintro t ⟨x, y, rfl, hx, hy, hn, g⟩
    have z : y = 0 := by omega
    refine ⟨(hL x, σ), ?_, by rw [← g, z, Nat.gcd_zero_right]⟩
    show b_M_divisor_6 (hL x) (hL y) σ = _
    unfold b_M_divisor_6
    rw [if_pos (show lg_cmp (hL y) 0 = 0 by rw [hv_cmpL0 hy]; exact z)]
theorem hv_M_part {a b p : Nat} (ha : a < 2 ^ 63) (hb : b < 2 ^ 63) (hp : p < 2) (σ : am_St) : f_M_partOf (hL a) (hL b) (hI p) σ = some (hv_part a b p, σ) := by
  rw [eq_M_partOf]; unfold g_M_partOf hv_part
  simp only [hv_cmpL0 ha]
  by_cases z : a = 0
  · rw [if_pos z, if_pos z, hI_long (by omega)]
  · have k := hv_gcd_lt (b := b) ha z
    have k0 : Nat.gcd a b ≠ 0 := fun e => z (Nat.eq_zero_of_gcd_eq_zero_left e)
    rw [if_neg z, if_neg z, hv_M_divisor ha hb, Option.bind_some]
    simp only [hv_L0 k, k0, ↓reduceIte, hL_div ha k, hL_div hb k]
    obtain rfl | rfl : p = 0 ∨ p = 1 := by omega
    · rfl
    · rfl
theorem hv_X_part {a b p : Nat} (ha : a < 2 ^ 63) (hb : b < 2 ^ 63) (hp : p < 2) (h0 : b = 0 → a = 0) (σ : am_St) : f_O_inLeastTerms (hL a) (hL b) (hI p) σ = some (hv_part a b p, σ) := by
  rw [eq_O_inLeastTerms]; unfold g_O_inLeastTerms
  simp only [hv_cmpL0 hb]
  by_cases z : b = 0
  · rw [if_pos z, hI_long (by omega)]
    unfold hv_part
    rw [if_pos (h0 z)]
  · rw [if_neg z]
    have kg : Nat.gcd a b < 2 ^ 63 := by have := Nat.gcd_le_right a (show 0 < b by omega); omega
    have k0 : Nat.gcd a b ≠ 0 := fun e => z (Nat.eq_zero_of_gcd_eq_zero_right e)
    have F : f_O_inLeastTerms_54 (hL a) (hL b) (hI p) (hL (Nat.gcd a b)) σ = some (hv_part a b p, σ) := by
      rw [eq_O_inLeastTerms_54]; unfold g_O_inLeastTerms_54
      simp only [hv_cmpL0 kg, k0, ↓reduceIte, eq_O_inLeastTerms_75, g_O_inLeastTerms_75, hv_L0 kg, hL_div ha kg, hL_div hb kg]
      unfold hv_part
      by_cases za : a = 0
      · rw [if_pos za, za, Nat.gcd_zero_left, Nat.zero_div, Nat.div_self (by omega)]
        obtain rfl | rfl : p = 0 ∨ p = 1 := by omega
        · rfl
        · rfl
      · rw [if_neg za]
        obtain rfl | rfl : p = 0 ∨ p = 1 := by omega
        · rfl
        · rfl
    unfold f_O_inLeastTerms_19
    have L := hv_lp (body := fun s : Int64 × Int64 × Int32 × Int64 × Int64 × Int32 × am_St => b_O_inLeastTerms_19 s.1 s.2.1 s.2.2.1 s.2.2.2.1 s.2.2.2.2.1 s.2.2.2.2.2.1 s.2.2.2.2.2.2) (P := fun x => x = (hv_part a b p, σ)) (fun n t => ∃ x y, t = (hL a, hL b, hI p, hL x, hL y, hI (100 - n), σ) ∧ x < 2 ^ 63 ∧ y < 2 ^ 63 ∧ n ≤ 100 ∧ Nat.gcd x y = Nat.gcd a b ∧ (hv_eu n x y).1 = 0) 100 (hL a, hL b, hI p, hL a, hL b, 0, σ) ⟨a, b, rfl, ha, hb, Nat.le_refl _, rfl, hv_eu_100 ha⟩ ?_ ?_
    · obtain ⟨x, e, rfl⟩ := L; exact e
    · rintro n t ⟨x, y, rfl, hx, hy, hn, g, eu⟩
      by_cases zx : x = 0
      · refine .inr ⟨_, ?_, rfl⟩
        have gy : y = Nat.gcd a b := by rw [← g, zx, Nat.gcd_zero_left]
        show b_O_inLeastTerms_19 (hL a) (hL b) (hI p) (hL x) (hL y) (hI (100 - (n + 1))) σ = _
        unfold b_O_inLeastTerms_19
        rw [if_neg (hI_nge100 (by omega))]
        simp only [hv_cmpL0 hx, zx, ↓reduceIte]
        rw [gy, F]; rfl
      · rw [hv_eu_s, if_neg zx] at eu
        have km := Nat.mod_lt y (show 0 < x by omega)
        refine .inl ⟨_, ?_, y % x, x, rfl, by omega, hx, by omega, ?_, eu⟩
        · show b_O_inLeastTerms_19 (hL a) (hL b) (hI p) (hL x) (hL y) (hI (100 - (n + 1))) σ = _
          unfold b_O_inLeastTerms_19
          rw [if_neg (hI_nge100 (by omega))]
          simp only [hv_cmpL0 hx, hv_L0 hx, zx, ↓reduceIte, hL_rem hy hx, hI_add1]
          rw [show 100 - (n + 1) + 1 = 100 - n by omega]
        · rw [← g, ← Nat.gcd_rec]
    · rintro t ⟨x, y, rfl, hx, hy, hn, g, eu⟩
      rw [hv_eu_0] at eu
      have gy : y = Nat.gcd a b := by
        have zx : x = 0 := eu
        rw [← g, zx, Nat.gcd_zero_left]
      refine ⟨_, ?_, rfl⟩
      show b_O_inLeastTerms_19 (hL a) (hL b) (hI p) (hL x) (hL y) (hI (100 - 0)) σ = _
      unfold b_O_inLeastTerms_19
      rw [if_pos (hI_ge100 (by omega) (by omega)), gy, F]; rfl
/-- products -/
def hv_prod (f : Nat → Nat) : Nat → Nat
  | 0 => 1
  | n + 1 => hv_prod f n * f n
theorem hv_prod_0 (f : Nat → Nat) : hv_prod f 0 = 1 := by rw [hv_prod]
theorem hv_prod_s (f : Nat → Nat) (n : Nat) : hv_prod f (n + 1) = hv_prod f n * f n := by rw [hv_prod]
theorem hv_prod_pow (f : Nat → Nat) (k : Nat) : ∀ n, hv_prod (fun i => f i ^ k) n = hv_prod f n ^ k := by
  intro n
  induction n with
  | zero => rw [hv_prod_0, hv_prod_0, Nat.one_pow]
  | succ n ih => rw [hv_prod_s, hv_prod_s, ih, Nat.mul_pow]
theorem hv_prod_le {f : Nat → Nat} {b : Nat} : ∀ n, (∀ i, i < n → f i ≤ b) → hv_prod f n ≤ b ^ n := by
  intro n
  induction n with
  | zero => intro _; rw [hv_prod_0, Nat.pow_zero]; exact Nat.le_refl _
  | succ n ih => intro h; rw [hv_prod_s, Nat.pow_succ]; exact Nat.mul_le_mul (ih fun i hi => h i (by omega)) (h n (by omega))
theorem hv_prod_pos {f : Nat → Nat} : ∀ n, (∀ i, i < n → 0 < f i) → 0 < hv_prod f n := by
  intro n
  induction n with
  | zero => intro _; rw [hv_prod_0]; decide
  | succ n ih => intro h; rw [hv_prod_s]; exact Nat.mul_pos (ih fun i hi => h i (by omega)) (h n (by omega))
theorem hv_prod_congr {f g : Nat → Nat} : ∀ n, (∀ i, i < n → f i = g i) → hv_prod f n = hv_prod g n := by
  intro n
  induction n with
  | zero => intro _; rw [hv_prod_0, hv_prod_0]
  | succ n ih => intro h; rw [hv_prod_s, hv_prod_s, ih fun i hi => h i (by omega), h n (by omega)]
def hv_firm (h : hv) (c : Nat) : Nat := 10 - hv_slips h c
def hv_lastA (h : hv) (n : Nat) : Nat := hv_prod (hv_firm h) h.C ^ n
def hv_lastB (h : hv) (n : Nat) : Nat := (10 ^ h.C) ^ n
theorem hv_lastA_lt {h : hv} (ok : hv_ok h) {n : Nat} (hn : n ≤ 4) : hv_lastA h n < 2 ^ 63 := by
  have kC := ok.C
  have k1 : hv_prod (hv_firm h) h.C ≤ 10 ^ h.C := hv_prod_le h.C fun i _ => Nat.sub_le _ _
  have k2 : 10 ^ h.C ≤ 10 ^ 4 := Nat.pow_le_pow_right (by decide) kC
  have k3 : hv_prod (hv_firm h) h.C ^ n ≤ (10 ^ 4) ^ n := Nat.pow_le_pow_left (by omega) n
  have k4 : (10 ^ 4) ^ n ≤ (10 ^ 4) ^ 4 := Nat.pow_le_pow_right (by decide) hn
  have k5 : (10 ^ 4) ^ 4 < 2 ^ 63 := by decide
  unfold hv_lastA
  omega
theorem hv_lastB_lt {h : hv} (ok : hv_ok h) {n : Nat} (hn : n ≤ 4) : hv_lastB h n < 2 ^ 63 := by
  have kC := ok.C
  have k2 : 10 ^ h.C ≤ 10 ^ 4 := Nat.pow_le_pow_right (by decide) kC
  have k3 : (10 ^ h.C) ^ n ≤ (10 ^ 4) ^ n := Nat.pow_le_pow_left k2 n
  have k4 : (10 ^ 4) ^ n ≤ (10 ^ 4) ^ 4 := Nat.pow_le_pow_right (by decide) hn
  have k5 : (10 ^ 4) ^ 4 < 2 ^ 63 := by decide
  unfold hv_lastB
  omega
theorem hv_firm_I {h : hv} (ok : hv_ok h) {c : Nat} (hc : c < h.C) : (10 - hI (hv_slips h c)).toInt64 = hL (hv_firm h c) := by
  have := hv_slips_le ok hc
  rw [show (10 : Int32) - hI (hv_slips h c) = hI (10 - hv_slips h c) from hI_sub (n := 10) (by omega), hI_long (by omega)]; rfl
theorem hv_X_lasts {h : hv} {σ : am_St} (H : hv_at h σ) {n p : Nat} (hn : n ≤ 4) (hp : p < 2) : f_P_unbroken_1 (hI n) (hI p) σ = some (hv_part (hv_lastA h n) (hv_lastB h n) p, σ) := by
  have kC := H.ok.C
  have D1 : σ.1 1 2 = hI h.C := H.d.C
  rw [eq_P_unbroken_1]; unfold g_P_unbroken_1 f_P_unbroken_1_8
  have L := hv_up (body := fun s : Int32 × Int32 × Int64 × Int64 × Int32 × am_St => b_P_unbroken_1_8 s.1 s.2.1 s.2.2.1 s.2.2.2.1 s.2.2.2.2.1 s.2.2.2.2.2) (P := fun x => x = (hv_part (hv_lastA h n) (hv_lastB h n) p, σ)) h.C (fun i t => t = (hI n, hI p, hL (hv_prod (fun c => hv_firm h c ^ n) i), hL ((10 ^ n) ^ i), hI i, σ)) 0 (Nat.zero_le _) (hI n, hI p, 1, 1, 0, σ) (by rw [hv_prod_0, Nat.pow_zero]; rfl) ?_ ?_
  · obtain ⟨x, e, rfl⟩ := L; exact e
  · rintro i t hi rfl
    refine .inl ⟨_, ?_, rfl⟩
    show b_P_unbroken_1_8 _ _ _ _ (hI i) σ = _
    unfold b_P_unbroken_1_8
    rw [D1, if_neg (hI_nle (by omega) (by omega) hi)]
    unfold f_P_unbroken_1_20
    have L2 := hv_up (body := fun s : Int32 × Int32 × Int64 × Int64 × Int32 × Int32 × am_St => b_P_unbroken_1_20 s.1 s.2.1 s.2.2.1 s.2.2.2.1 s.2.2.2.2.1 s.2.2.2.2.2.1 s.2.2.2.2.2.2) (P := fun x => x = .inl (hI n, hI p, hL (hv_prod (fun c => hv_firm h c ^ n) (i + 1)), hL ((10 ^ n) ^ (i + 1)), hI (i + 1), σ)) n (fun j t => t = (hI n, hI p, hL (hv_prod (fun c => hv_firm h c ^ n) i * hv_firm h i ^ j), hL ((10 ^ n) ^ i * 10 ^ j), hI i, hI j, σ)) 0 (Nat.zero_le _) (hI n, hI p, hL (hv_prod (fun c => hv_firm h c ^ n) i), hL ((10 ^ n) ^ i), hI i, 0, σ) (by rw [Nat.pow_zero, Nat.mul_one, Nat.pow_zero, Nat.mul_one]; rfl) ?_ ?_
    · obtain ⟨x, e, rfl⟩ := L2; exact e
    · rintro j t hj rfl
      refine .inl ⟨_, ?_, rfl⟩
      show b_P_unbroken_1_20 _ _ _ _ (hI i) (hI j) σ = _
      unfold b_P_unbroken_1_20
      rw [if_neg (hI_nle (by omega) (by omega) hj), H.slipsX hi, Option.bind_some]
      dsimp only
      rw [hv_firm_I H.ok hi, hL_mul, show ((10 : Int64)) = hL 10 from rfl, hL_mul, hI_add1, Nat.mul_assoc, ← Nat.pow_succ, Nat.mul_assoc, ← Nat.pow_succ]
    · rintro t rfl
      refine ⟨_, ?_, rfl⟩
      show b_P_unbroken_1_20 _ _ _ _ (hI i) (hI n) σ = _
      unfold b_P_unbroken_1_20
      rw [if_pos (Int32.le_refl _)]
      dsimp only
      rw [hI_add1, hv_prod_s, Nat.pow_succ]
  · rintro t rfl
    refine ⟨_, ?_, rfl⟩
    show b_P_unbroken_1_8 _ _ _ _ (hI h.C) σ = _
    unfold b_P_unbroken_1_8
    have eA : hv_prod (fun c => hv_firm h c ^ n) h.C = hv_lastA h n := hv_prod_pow _ _ _
    have eB : (10 ^ n) ^ h.C = hv_lastB h n := by unfold hv_lastB; rw [← Nat.pow_mul, ← Nat.pow_mul, Nat.mul_comm]
    rw [D1, if_pos (Int32.le_refl _), eA, eB, hv_X_part (hv_lastA_lt H.ok hn) (hv_lastB_lt H.ok hn) hp (fun e => absurd e (by unfold hv_lastB; exact Nat.pos_iff_ne_zero.mp (Nat.pow_pos (Nat.pow_pos (by decide))))) σ]
    rfl
theorem hv_M_lasts {h : hv} {σ : am_St} (H : hv_at h σ) {n p : Nat} (hn : n ≤ 4) (hp : p < 2) : f_M_lasts_57 (hI n) (hI p) 1 1 0 σ = some (hv_part (hv_lastA h n) (hv_lastB h n) p, σ) := by
  have kC := H.ok.C
  have D1 : σ.1 66 2 = hI h.C := H.m.C
  unfold f_M_lasts_57
  have L := hv_up (body := fun s : Int32 × Int32 × Int64 × Int64 × Int32 × am_St => b_M_lasts_57 s.1 s.2.1 s.2.2.1 s.2.2.2.1 s.2.2.2.2.1 s.2.2.2.2.2) (P := fun x => x = (hv_part (hv_lastA h n) (hv_lastB h n) p, σ)) n (fun i t => t = (hI n, hI p, hL (hv_prod (hv_firm h) h.C ^ i), hL ((10 ^ h.C) ^ i), hI i, σ)) 0 (Nat.zero_le _) (hI n, hI p, 1, 1, 0, σ) (by rw [Nat.pow_zero, Nat.pow_zero]; rfl) ?_ ?_
  · obtain ⟨x, e, rfl⟩ := L; exact e
  · rintro i t hi rfl
    refine .inl ⟨_, ?_, rfl⟩
    show b_M_lasts_57 _ _ _ _ (hI i) σ = _
    unfold b_M_lasts_57
    rw [if_neg (hI_nle (by omega) (by omega) hi)]
    unfold f_M_lasts_66
    have L2 := hv_up (body := fun s : Int32 × Int32 × Int64 × Int64 × Int32 × Int32 × am_St => b_M_lasts_66 s.1 s.2.1 s.2.2.1 s.2.2.2.1 s.2.2.2.2.1 s.2.2.2.2.2.1 s.2.2.2.2.2.2) (P := fun x => x = .inl (hI n, hI p, hL (hv_prod (hv_firm h) h.C ^ (i + 1)), hL ((10 ^ h.C) ^ (i + 1)), hI (i + 1), σ)) h.C (fun j t => t = (hI n, hI p, hL (hv_prod (hv_firm h) h.C ^ i * hv_prod (hv_firm h) j), hL ((10 ^ h.C) ^ i * 10 ^ j), hI i, hI j, σ)) 0 (Nat.zero_le _) (hI n, hI p, hL (hv_prod (hv_firm h) h.C ^ i), hL ((10 ^ h.C) ^ i), hI i, 0, σ) (by rw [hv_prod_0, Nat.mul_one, Nat.pow_zero, Nat.mul_one]; rfl) ?_ ?_
    · obtain ⟨x, e, rfl⟩ := L2; exact e
    · rintro j t hj rfl
      refine .inl ⟨_, ?_, rfl⟩
      show b_M_lasts_66 _ _ _ _ (hI i) (hI j) σ = _
      unfold b_M_lasts_66
      rw [D1, if_neg (hI_nle (by omega) (by omega) hj), H.slipsM hj, Option.bind_some]
      dsimp only
      rw [hv_firm_I H.ok hj, hL_mul, show ((10 : Int64)) = hL 10 from rfl, hL_mul, hI_add1, Nat.mul_assoc, ← hv_prod_s, Nat.mul_assoc, ← Nat.pow_succ]
    · rintro t rfl
      refine ⟨_, ?_, rfl⟩
      show b_M_lasts_66 _ _ _ _ (hI i) (hI h.C) σ = _
      unfold b_M_lasts_66
      rw [D1, if_pos (Int32.le_refl _)]
      dsimp only
      rw [hI_add1, Nat.pow_succ, Nat.pow_succ]
  · rintro t rfl
    refine ⟨_, ?_, rfl⟩
    show b_M_lasts_57 _ _ _ _ (hI n) σ = _
    unfold b_M_lasts_57
    rw [if_pos (Int32.le_refl _)]
    show Option.bind (f_M_partOf (hL (hv_lastA h n)) (hL (hv_lastB h n)) (hI p) σ) _ = _
    rw [hv_M_part (hv_lastA_lt H.ok hn) (hv_lastB_lt H.ok hn) hp σ]
    rfl
theorem hv_st_lasts : st_lasts hv_inv := by
  intro σ hi n w
  obtain ⟨h, H⟩ := hi.at
  rcases hv_num n 4 (by decide) 4 rfl with ⟨n1, n2⟩ | ⟨n1, n2, n3, n4⟩ | ⟨x, hx, rfl, n1, n2, n3, n4⟩
  · refine hv_qry hi H 4 (4000000000000000000 - (-4 : Int32).toInt64) (hv_refX (by decide) ?_) (fun τ T _ => ?_)
    · simp only [eq_X_lasts, g_X_lasts, eq_X_refuseLong, g_X_refuseLong, n1, Option.bind_some, ↓reduceIte, hv_10, hv_01, hI_00, hI_10, hv_X_r1, hv_X_r2, hv_X_r3, hv_X_r4, hv_X_r6, hv_M_r1, hv_M_r2, hv_M_r3, hv_M_r4, hv_M_r6]
    · refine hv_thr ?_
      rw [eq_M_lasts]; unfold g_M_lasts
      replace T := T.thrown
      generalize am_sI τ 66 22 0 = τ at T ⊢
      dsimp only
      refine hv_refM (by decide) ?_
      simp only [eq_M_lasts, g_M_lasts, eq_M_lasts_26, g_M_lasts_26, eq_M_lasts_31, g_M_lasts_31, eq_M_lasts_32, g_M_lasts_32, n1, eq_M_wrongNumber, g_M_wrongNumber, Option.bind_some, ↓reduceIte, hv_10, hv_01, hI_00, hI_10, hv_X_r1, hv_X_r2, hv_X_r3, hv_X_r4, hv_X_r6, hv_M_r1, hv_M_r2, hv_M_r3, hv_M_r4, hv_M_r6, show ¬ ((-4 : Int32) = 0) by decide, show ¬ ((0 : Int32) ≤ -4) by decide]
  · refine hv_qry hi H 6 (4000000000000000000 - (-6 : Int32).toInt64) (hv_refX (by decide) ?_) (fun τ T _ => ?_)
    · simp only [eq_X_lasts, g_X_lasts, eq_X_refuseLong, g_X_refuseLong, n1, n3, Option.bind_some, ↓reduceIte, hv_10, hv_01, hI_00, hI_10, hv_X_r1, hv_X_r2, hv_X_r3, hv_X_r4, hv_X_r6, hv_M_r1, hv_M_r2, hv_M_r3, hv_M_r4, hv_M_r6]
    · refine hv_thr ?_
      rw [eq_M_lasts]; unfold g_M_lasts
      replace T := T.thrown
      generalize am_sI τ 66 22 0 = τ at T ⊢
      dsimp only
      refine hv_refM (by decide) ?_
      simp only [eq_M_lasts, g_M_lasts, eq_M_lasts_26, g_M_lasts_26, eq_M_lasts_31, g_M_lasts_31, eq_M_lasts_32, g_M_lasts_32, n1, n3, eq_M_wrongNumber, g_M_wrongNumber, Option.bind_some, ↓reduceIte, hv_10, hv_01, hI_00, hI_10, hv_X_r1, hv_X_r2, hv_X_r3, hv_X_r4, hv_X_r6, hv_M_r1, hv_M_r2, hv_M_r3, hv_M_r4, hv_M_r6, show ¬ ((-6 : Int32) = 0) by decide, show ¬ ((0 : Int32) ≤ -6) by decide]
  · rcases hv_rng_cases w (n := 2) (by decide) with c3 | ⟨k, hk, rfl, c3⟩
    · refine hv_qry hi H 2 (4000000000000000000 - (-2 : Int32).toInt64) (hv_refX (by decide) ?_) (fun τ T _ => ?_)
      · simp only [eq_X_lasts, g_X_lasts, eq_X_refuseLong, g_X_refuseLong, n1, n3, hv_X_01, c3, Option.bind_some, ↓reduceIte, hv_10, hv_01, hI_00, hI_10, hv_X_r1, hv_X_r2, hv_X_r3, hv_X_r4, hv_X_r6, hv_M_r1, hv_M_r2, hv_M_r3, hv_M_r4, hv_M_r6]
      · refine hv_thr ?_
        rw [eq_M_lasts]; unfold g_M_lasts
        replace T := T.thrown
        generalize am_sI τ 66 22 0 = τ at T ⊢
        dsimp only
        refine hv_refM (by decide) ?_
        simp only [eq_M_lasts, g_M_lasts, eq_M_lasts_26, g_M_lasts_26, eq_M_lasts_31, g_M_lasts_31, eq_M_lasts_32, g_M_lasts_32, n1, n3, hv_M_01, c3, eq_M_wrongNumber, g_M_wrongNumber, Option.bind_some, ↓reduceIte, hv_10, hv_01, hI_00, hI_10, hv_X_r1, hv_X_r2, hv_X_r3, hv_X_r4, hv_X_r6, hv_M_r1, hv_M_r2, hv_M_r3, hv_M_r4, hv_M_r6, show ¬ ((0 : Int32) ≤ -2) by decide]
    · refine hv_qry hi H 0 (hv_part (hv_lastA h x) (hv_lastB h x) k) ⟨σ, ?_, hv_Sx.same _ _⟩ (fun τ T _ => ?_)
      · simp only [eq_X_lasts, g_X_lasts, n1, n3, hv_X_01, c3, hv_X_lasts H hx hk, Option.bind_some, ↓reduceIte, hv_10, hv_01, hI_00, hI_10, hv_X_r1, hv_X_r2, hv_X_r3, hv_X_r4, hv_X_r6, hv_M_r1, hv_M_r2, hv_M_r3, hv_M_r4, hv_M_r6]
      · refine hv_thr ?_
        rw [eq_M_lasts]; unfold g_M_lasts
        replace T := T.thrown
        generalize am_sI τ 66 22 0 = τ at T ⊢
        dsimp only
        refine ⟨τ, ?_, hv_Sx.same _ _⟩
        simp only [eq_M_lasts, g_M_lasts, eq_M_lasts_26, g_M_lasts_26, eq_M_lasts_31, g_M_lasts_31, eq_M_lasts_32, g_M_lasts_32, n1, n3, hv_M_01, c3, eq_M_wrongNumber, g_M_wrongNumber, show ((0 : Int32) ≤ 0) = True from eq_true (by decide), hv_M_lasts T hx hk, Option.bind_some, ↓reduceIte, hv_10, hv_01, hI_00, hI_10, hv_X_r1, hv_X_r2, hv_X_r3, hv_X_r4, hv_X_r6, hv_M_r1, hv_M_r2, hv_M_r3, hv_M_r4, hv_M_r6]
