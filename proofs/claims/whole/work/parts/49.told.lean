/-! PURE: arithmetic of numbers; who tells what of whom -/
theorem hI_div {n m : Nat} (h1 : n < 2 ^ 31) (h2 : m < 2 ^ 31) : hI n / hI m = hI (n / m) := by
  refine Int32.toInt_inj.mp ?_
  have h3 : n / m < 2 ^ 31 := Nat.lt_of_le_of_lt (Nat.div_le_self n m) h1
  rw [Int32.toInt_div, hI_toInt h1, hI_toInt h2, hI_toInt h3]
  have e : (n : Int).tdiv (m : Int) = ((n / m : Nat) : Int) := rfl
  rw [e]
  clear e
  generalize n / m = q at h3 ⊢
  exact Int.bmod_eq_of_le (by omega) (by omega)
theorem hI_sub {n m : Nat} (h : m ≤ n) : hI n - hI m = hI (n - m) := by
  have e : hI n = hI (n - m) + hI m := by rw [hI_add, Nat.sub_add_cancel h]
  rw [e, Int32.add_sub_cancel]
theorem hI_rem {n m : Nat} (h1 : n < 2 ^ 31) (h2 : m < 2 ^ 31) : am_rem (hI n) (hI m) = hI (n % m) := by
  unfold am_rem
  rw [hI_div h1 h2, hI_mul, hI_sub (Nat.div_mul_le_self n m)]
  congr 1
  have := Nat.div_add_mod n m
  rw [Nat.mul_comm] at this
  omega
theorem hv_num (a : Int32) (n : Nat) (hn : n < 2 ^ 31) (N : Int32) (hN : N = hI n) : ((0 ≤ a) = False ∧ (a < 0) = True) ∨ ((0 ≤ a) = True ∧ (a < 0) = False ∧ (a ≤ N) = False ∧ (N < a) = True) ∨ ∃ k, k ≤ n ∧ a = hI k ∧ (0 ≤ hI k) = True ∧ (hI k < 0) = False ∧ (hI k ≤ N) = True ∧ (N < hI k) = False := by
  by_cases c : 0 ≤ a
  · obtain ⟨k, hk, rfl⟩ := hI_of c
    by_cases c2 : k ≤ n
    · refine .inr (.inr ⟨k, c2, rfl, eq_true c, eq_false (Int32.not_lt.mpr c), ?_, ?_⟩)
      · rw [hN]; exact eq_true ((hI_le hk hn).mpr c2)
      · rw [hN]; exact eq_false (fun e => by have := (hI_lt hn hk).mp e; omega)
    · refine .inr (.inl ⟨eq_true c, eq_false (Int32.not_lt.mpr c), ?_, ?_⟩)
      · rw [hN]; exact eq_false (fun e => by have := (hI_le hk hn).mp e; omega)
      · rw [hN]; exact eq_true ((hI_lt hn hk).mpr (by omega))
  · exact .inl ⟨eq_false c, eq_true (Int32.not_le.mp c)⟩
/-- what the model's saying is, told of c at minute m by p: 9 for nothing -/
def hv_own (h : hv) (c m : Nat) : Nat := if m = h.dm ∧ h.place c m = h.dr then (h.dr + 1) % h.R else h.place c m
def hv_told (h : hv) (p c m : Nat) : Nat :=
  if h.kind p = 0 then (if c = p then hv_own h c m else h.place c m)
  else if h.kind p = 1 then h.place c m
  else if h.kind p = 2 then (if c = p ∨ c = h.tie p then hv_own h c m else h.place c m)
  else if h.kind p = 3 then (if m = h.dm ∧ ¬ c = p ∧ ¬ c = h.tie p ∧ ¬ h.fig p ≤ 4 then h.dr else if c = p ∨ c = h.tie p then hv_own h c m else h.place c m)
  else if h.kind p = 4 then (if m = h.dm ∧ ¬ c = p ∧ h.fig p % 2 = 1 then h.dr else h.place c m)
  else (if m = h.dm then 9 else h.place c m)
def hv_tI (x : Nat) : Int32 := if x = 9 then -9 else hI x
theorem hv_tI_9 : hv_tI 9 = -9 := rfl
theorem hv_tI_lt {x : Nat} (h : x < 9) : hv_tI x = hI x := if_neg (by omega)
theorem hv_own_lt {h : hv} (ok : hv_ok h) {c m : Nat} (hc : c < h.C) (hm : m < h.M) : hv_own h c m < h.R := by
  have k1 := ok.place c hc m hm
  have k2 := ok.R
  unfold hv_own
  split
  · exact Nat.mod_lt _ (by omega)
  · exact k1
theorem hv_told_lt {h : hv} (ok : hv_ok h) {p c m : Nat} (hc : c < h.C) (hm : m < h.M) : hv_told h p c m < h.R ∨ hv_told h p c m = 9 := by
  have k1 := ok.place c hc m hm
  have k2 := hv_own_lt ok hc hm
  have k3 := ok.dr
  unfold hv_told
  split
  · split <;> exact .inl (by assumption)
  · split
    · exact .inl k1
    · split
      · split <;> exact .inl (by assumption)
      · split
        · split
          · exact .inl k3
          · split <;> exact .inl (by assumption)
        · split
          · split <;> exact .inl (by assumption)
          · split
            · exact .inr rfl
            · exact .inl k1
theorem hv_dev.kindOf {h : hv} {σ : am_St} (d : hv_dev 1 h σ) (ok : hv_ok h) {p : Nat} (hp : p < h.C) : f_H_kindOf_1 (hI p) σ = some (σ.1 3 p, σ) := by
  have k := ok.C
  rw [eq_H_kindOf_1]; unfold g_H_kindOf_1
  rw [if_neg (hI_lt0 (by omega)), if_neg (hI_nge4 (by omega)), if_pos (hI_ix (by omega) (by decide)), hI_clamp (by omega)]
theorem hv_dev.figureOf {h : hv} {σ : am_St} (d : hv_dev 1 h σ) (ok : hv_ok h) {p : Nat} (hp : p < h.C) : f_H_figureOf_1 (hI p) σ = some (σ.1 4 p, σ) := by
  have k := ok.C
  rw [eq_H_figureOf_1]; unfold g_H_figureOf_1
  rw [if_neg (hI_lt0 (by omega)), if_neg (hI_nge4 (by omega)), if_pos (hI_ix (by omega) (by decide)), hI_clamp (by omega)]
theorem hv_dev.tieOf {h : hv} {σ : am_St} (d : hv_dev 1 h σ) (ok : hv_ok h) {p : Nat} (hp : p < h.C) : f_H_tieOf_1 (hI p) σ = some (σ.1 5 p, σ) := by
  have k := ok.C
  rw [eq_H_tieOf_1]; unfold g_H_tieOf_1
  rw [if_neg (hI_lt0 (by omega)), if_neg (hI_nge4 (by omega)), if_pos (hI_ix (by omega) (by decide)), hI_clamp (by omega)]
theorem hv_dev.skillOf {h : hv} {σ : am_St} (d : hv_dev 1 h σ) (ok : hv_ok h) {p : Nat} (hp : p < h.C) : f_H_skillOf_1 (hI p) σ = some (σ.1 6 p, σ) := by
  have k := ok.C
  rw [eq_H_skillOf_1]; unfold g_H_skillOf_1
  rw [if_neg (hI_lt0 (by omega)), if_neg (hI_nge4 (by omega)), if_pos (hI_ix (by omega) (by decide)), hI_clamp (by omega)]
theorem hv_dev.natureOf {h : hv} {σ : am_St} (d : hv_dev 1 h σ) (ok : hv_ok h) {p : Nat} (hp : p < h.C) : f_H_natureOf_1 (hI p) σ = some (12 + h.kind p, σ) := by
  have k := (ok.kind p hp).1
  have k2 : σ.1 3 p = hI (h.kind p) := d.kind p hp
  rw [eq_H_natureOf_1]; unfold g_H_natureOf_1
  rw [d.kindOf ok hp, Option.bind_some]
  dsimp only
  rw [k2, if_neg (hI_lt0 (by omega)), if_neg (hI_nge6 (by omega)), if_pos (hI_ix (by omega) (by decide)), hI_clamp (by omega)]
theorem hv_rem2 : ∀ n, n < 10 → am_rem (hI n) 2 = hI (n % 2) := by decide +kernel
theorem hv_dev.told {h : hv} {σ : am_St} (d : hv_dev 1 h σ) (ok : hv_ok h) {p c m : Nat} (hp : p < h.C) (hc : c < h.C) (hm : m < h.M) : f_H_told_1 (hI p) (hI c) (hI m) σ = some (hv_tI (hv_told h p c m), σ) := by
  have kC := ok.C
  have kM := ok.M
  have kR := ok.R
  have kr := ok.dr
  have km := ok.dm
  obtain ⟨k1, k2, k3, k4⟩ := ok.kind p hp
  have kp := ok.place c hc m hm
  have n1 : hv_rng (hI p) h.C = 1 := hv_rng_lt (by omega) hp
  have n2 : hv_rng (hI c) h.C = 1 := hv_rng_lt (by omega) hc
  have n3 : hv_rng (hI m) h.M = 1 := hv_rng_lt (by omega) hm
  have E1 : (hI c = hI p) = (c = p) := propext (hI_inj (by omega) (by omega))
  have E2 : (hI c = hI (h.tie p)) = (c = h.tie p) := propext (hI_inj (by omega) (by omega))
  have E3 : (hI m = hI h.dm) = (m = h.dm) := propext (hI_inj (by omega) (by omega))
  have E4 : (hI (h.place c m) = hI h.dr) = (h.place c m = h.dr) := propext (hI_inj (by omega) (by omega))
  have E5 : (hI (h.fig p) ≤ 4) = (h.fig p ≤ 4) := propext (hI_le (m := 4) (by omega) (by decide))
  have E6 : (am_rem (hI (h.fig p)) 2 = 0) = (h.fig p % 2 = 0) := by rw [hv_rem2 _ k2]; exact propext (hI_inj (m := 0) (by omega) (by decide))
  have D1 : σ.1 1 3 = hI h.dr := d.dr
  have D2 : σ.1 1 4 = hI h.dm := d.dm
  have D3 : σ.1 4 p = hI (h.fig p) := d.fig p hp
  have D4 : σ.1 5 p = hI (h.tie p) := d.tie p hp
  have V1 : hv_tI (h.place c m) = hI (h.place c m) := hv_tI_lt (by omega)
  have V2 : hv_tI h.dr = hI h.dr := hv_tI_lt (by omega)
  have V3 : hv_tI ((h.dr + 1) % h.R) = hI ((h.dr + 1) % h.R) := hv_tI_lt (by have := Nat.mod_lt (h.dr + 1) (show 0 < h.R by omega); omega)
  have RB : h.place c m = h.dr → f_H_roomBehind_1 (hI (h.place c m)) σ = some (hI ((h.dr + 1) % h.R), σ) := fun e => by
    rw [eq_H_roomBehind_1]; unfold g_H_roomBehind_1
    rw [d.R, hI_add1, e]
    by_cases q : h.dr + 1 = h.R
    · rw [if_pos (by rw [q]; exact Int32.le_refl _), q, Nat.mod_self]; rfl
    · rw [if_neg (hI_nle (by omega) (by omega) (by omega)), Nat.mod_eq_of_lt (by omega)]
  have PL := d.placeOf ok hc hm
  rw [eq_H_told_1]; unfold g_H_told_1
  simp only [d.hasChild, d.hasMinute, n1, n2, n3, Option.bind_some, hv_10, ↓reduceIte]
  rw [eq_H_told_1_27]; unfold g_H_told_1_27
  rw [d.natureOf ok hp, Option.bind_some]
  dsimp only
  have kk : h.kind p = 0 ∨ h.kind p = 1 ∨ h.kind p = 2 ∨ h.kind p = 3 ∨ h.kind p = 4 ∨ h.kind p = 5 := by omega
  unfold hv_told hv_own
  have C1 : (c = p) = True ∨ (c = p) = False := (Classical.em (c = p)).imp eq_true eq_false
  have C2 : (c = h.tie p) = True ∨ (c = h.tie p) = False := (Classical.em _).imp eq_true eq_false
  have C3 : (m = h.dm) = True ∨ (m = h.dm) = False := (Classical.em _).imp eq_true eq_false
  have C4 : (h.place c m = h.dr) = True ∨ (h.place c m = h.dr) = False := (Classical.em _).imp eq_true eq_false
  have C5 : (h.fig p ≤ 4) = True ∨ (h.fig p ≤ 4) = False := (Classical.em _).imp eq_true eq_false
  have C6 : ((h.fig p % 2 = 0) = True ∧ (h.fig p % 2 = 1) = False) ∨ ((h.fig p % 2 = 0) = False ∧ (h.fig p % 2 = 1) = True) := by
    rcases (show h.fig p % 2 = 0 ∨ h.fig p % 2 = 1 by omega) with q | q
    · exact .inl ⟨eq_true q, eq_false (by omega)⟩
    · exact .inr ⟨eq_false (by omega), eq_true q⟩
  generalize h.place c m = P at *
  have TI := d.tieOf ok hp
  have FI := d.figureOf ok hp
  rcases kk with kk | kk | kk | kk | kk | kk
  · rcases C1 with q1 | q1 <;> rcases C3 with q3 | q3 <;> rcases C4 with q4 | q4 <;> simp [kk, eq_nC_tells_12_1, g_nC_tells_12_1, eq_nC_tells_12_1_30, g_nC_tells_12_1_30, eq_nC_covers_12_1, g_nC_covers_12_1, eq_H_isDeed_1, g_H_isDeed_1, PL, TI, FI, E1, E2, E3, E4, E5, E6, D1, D2, D3, D4, V1, V2, V3, hv_10, RB, hv_tI_9, q1, q3, q4]
  · simp [kk, eq_nC_tells_13_1, g_nC_tells_13_1, eq_nC_tells_13_1_30, g_nC_tells_13_1_30, eq_nS_covers_13_1, g_nS_covers_13_1, PL, TI, FI, E1, E2, E3, E4, E5, E6, D1, D2, D3, D4, V1, V2, V3, hv_10, RB, hv_tI_9]
  · rcases C1 with q1 | q1 <;> rcases C2 with q2 | q2 <;> rcases C3 with q3 | q3 <;> rcases C4 with q4 | q4 <;> simp [kk, eq_nC_tells_14_1, g_nC_tells_14_1, eq_nC_tells_14_1_30, g_nC_tells_14_1_30, eq_nL_covers_14_1, g_nL_covers_14_1, eq_H_isDeed_1, g_H_isDeed_1, PL, TI, FI, E1, E2, E3, E4, E5, E6, D1, D2, D3, D4, V1, V2, V3, hv_10, RB, hv_tI_9, q1, q2, q3, q4]
  · rcases C3 with q3 | q3 <;> rcases C5 with q5 | q5 <;> rcases C1 with q1 | q1 <;> rcases C2 with q2 | q2 <;> rcases C4 with q4 | q4 <;> simp [kk, eq_nB_tells_15_1, g_nB_tells_15_1, eq_nB_tells_15_1_28, g_nB_tells_15_1_28, eq_nB_tells_15_1_33, g_nB_tells_15_1_33, eq_nC_tells_15_1, g_nC_tells_15_1, eq_nC_tells_15_1_30, g_nC_tells_15_1_30, eq_nL_covers_15_1, g_nL_covers_15_1, eq_H_isDeed_1, g_H_isDeed_1, PL, TI, FI, E1, E2, E3, E4, E5, E6, D1, D2, D3, D4, V1, V2, V3, hv_10, RB, hv_tI_9, q3, q5, q1, q2, q4]
  · rcases C1 with q1 | q1 <;> rcases C3 with q3 | q3 <;> rcases C6 with ⟨q6, q6b⟩ | ⟨q6, q6b⟩ <;> simp [kk, eq_nD_tells_16_1, g_nD_tells_16_1, eq_nD_tells_16_1_29, g_nD_tells_16_1_29, eq_nC_tells_16_1, g_nC_tells_16_1, eq_nC_tells_16_1_30, g_nC_tells_16_1_30, eq_nD_covers_16_1, g_nD_covers_16_1, PL, TI, FI, E1, E2, E3, E4, E5, E6, D1, D2, D3, D4, V1, V2, V3, hv_10, RB, hv_tI_9, q1, q3, q6, q6b]
  · rcases C3 with q3 | q3 <;> simp [kk, eq_nI_tells_17_1, g_nI_tells_17_1, eq_nC_tells_17_1, g_nC_tells_17_1, eq_nC_tells_17_1_30, g_nC_tells_17_1_30, eq_nS_covers_17_1, g_nS_covers_17_1, PL, TI, FI, E1, E2, E3, E4, E5, E6, D1, D2, D3, D4, V1, V2, V3, hv_10, RB, hv_tI_9, q3]
theorem hv_mod.trulyAt' {h : hv} {σ : am_St} (d : hv_mod h σ) (ok : hv_ok h) {c m : Nat} (hc : c < h.C) (hm : m < h.M) : f_M_trulyAt (hI c) (hI m) σ = some (hI (h.place c m), σ) := d.trulyAt ok hc hm
theorem hv_mod.saysOf {h : hv} {σ : am_St} (d : hv_mod h σ) (ok : hv_ok h) {p c m : Nat} (hp : p < h.C) (hc : c < h.C) (hm : m < h.M) : f_M_saysOf (hI p) (hI c) (hI m) σ = some (hv_tI (hv_told h p c m), σ) := by
  have kC := ok.C
  have kM := ok.M
  have kR := ok.R
  have kr := ok.dr
  have km := ok.dm
  obtain ⟨k1, k2, k3, k4⟩ := ok.kind p hp
  have kp := ok.place c hc m hm
  have E1 : (hI c = hI p) = (c = p) := propext (hI_inj (by omega) (by omega))
  have E2 : (hI c = hI (h.tie p)) = (c = h.tie p) := propext (hI_inj (by omega) (by omega))
  have E3 : (hI m = hI h.dm) = (m = h.dm) := propext (hI_inj (by omega) (by omega))
  have E4 : (hI (h.place c m) = hI h.dr) = (h.place c m = h.dr) := propext (hI_inj (by omega) (by omega))
  have E5 : (hI (h.fig p) ≤ 4) = (h.fig p ≤ 4) := propext (hI_le (m := 4) (by omega) (by decide))
  have E6 : (am_rem (hI (h.fig p)) 2 = 1) = (h.fig p % 2 = 1) := by rw [hv_rem2 _ k2]; exact propext (hI_inj (m := 1) (by omega) (by decide))
  have E7 : am_rem (hI h.dr + 1) (hI h.R) = hI ((h.dr + 1) % h.R) := by rw [hI_add1, hI_rem (by omega) (by omega)]
  have E8 : (hI h.R = 0) = False := eq_false (hI_ne0 (by omega) (by omega))
  have ix : am_ix (hI p) 4 = true := hI_ix (by omega) (by decide)
  have cl : (hI p).toNatClampNeg = p := hI_clamp (by omega)
  have D0 : σ.1 66 0 = hI h.R := d.R
  have D1 : σ.1 66 5 = hI h.dr := d.dr
  have D2 : σ.1 66 6 = hI h.dm := d.dm
  have D3 : σ.1 69 p = hI (h.fig p) := d.fig p hp
  have D4 : σ.1 70 p = hI (h.tie p) := d.tie p hp
  have D5 : σ.1 68 p = hI (h.kind p) := d.kind p hp
  have V1 : hv_tI (h.place c m) = hI (h.place c m) := hv_tI_lt (by omega)
  have V2 : hv_tI h.dr = hI h.dr := hv_tI_lt (by omega)
  have V3 : hv_tI ((h.dr + 1) % h.R) = hI ((h.dr + 1) % h.R) := hv_tI_lt (by have := Nat.mod_lt (h.dr + 1) (show 0 < h.R by omega); omega)
  have PL := d.trulyAt ok hc hm
  have kk : h.kind p = 0 ∨ h.kind p = 1 ∨ h.kind p = 2 ∨ h.kind p = 3 ∨ h.kind p = 4 ∨ h.kind p = 5 := by omega
  unfold hv_told hv_own
  have C1 : (c = p) = True ∨ (c = p) = False := (Classical.em (c = p)).imp eq_true eq_false
  have C2 : (c = h.tie p) = True ∨ (c = h.tie p) = False := (Classical.em _).imp eq_true eq_false
  have C3 : (m = h.dm) = True ∨ (m = h.dm) = False := (Classical.em _).imp eq_true eq_false
  have C4 : (h.place c m = h.dr) = True ∨ (h.place c m = h.dr) = False := (Classical.em _).imp eq_true eq_false
  have C5 : (h.fig p ≤ 4) = True ∨ (h.fig p ≤ 4) = False := (Classical.em _).imp eq_true eq_false
  have C6 : (h.fig p % 2 = 1) = False ∨ (h.fig p % 2 = 1) = True := (Classical.em (h.fig p % 2 = 1)).symm.imp eq_false eq_true
  have OW : f_M_saysOfOwn (hI c) (hI m) σ = some (hI (if m = h.dm ∧ h.place c m = h.dr then (h.dr + 1) % h.R else h.place c m), σ) := by
    rcases C3 with q3 | q3 <;> rcases C4 with q4 | q4 <;> simp only [eq_M_saysOfOwn, g_M_saysOfOwn, PL, Option.bind_some, D0, D1, D2, E3, E4, E7, E8, q3, q4, ↓reduceIte, and_true, and_self, and_false, false_and]
    rw [of_eq_true q4, E7]
  have VO : hv_tI (if m = h.dm ∧ h.place c m = h.dr then (h.dr + 1) % h.R else h.place c m) = hI (if m = h.dm ∧ h.place c m = h.dr then (h.dr + 1) % h.R else h.place c m) := by split <;> assumption
  generalize (if m = h.dm ∧ h.place c m = h.dr then (h.dr + 1) % h.R else h.place c m) = W at *
  generalize h.place c m = P at *
  have K01 : (hI 0 = (1 : Int32)) = False := eq_false (by decide)
  have K20 : (hI 2 = (0 : Int32)) = False := eq_false (by decide)
  have K21 : (hI 2 = (1 : Int32)) = False := eq_false (by decide)
  have K30 : (hI 3 = (0 : Int32)) = False := eq_false (by decide)
  have K31 : (hI 3 = (1 : Int32)) = False := eq_false (by decide)
  have K32 : (hI 3 = (2 : Int32)) = False := eq_false (by decide)
  have K40 : (hI 4 = (0 : Int32)) = False := eq_false (by decide)
  have K41 : (hI 4 = (1 : Int32)) = False := eq_false (by decide)
  have K42 : (hI 4 = (2 : Int32)) = False := eq_false (by decide)
  have K43 : (hI 4 = (3 : Int32)) = False := eq_false (by decide)
  have K50 : (hI 5 = (0 : Int32)) = False := eq_false (by decide)
  have K51 : (hI 5 = (1 : Int32)) = False := eq_false (by decide)
  have K52 : (hI 5 = (2 : Int32)) = False := eq_false (by decide)
  have K53 : (hI 5 = (3 : Int32)) = False := eq_false (by decide)
  have K54 : (hI 5 = (4 : Int32)) = False := eq_false (by decide)
  have K00 : (hI 0 = (0 : Int32)) = True := eq_true rfl
  have K11 : (hI 1 = (1 : Int32)) = True := eq_true rfl
  have K10 : (hI 1 = (0 : Int32)) = False := eq_false (by decide)
  have K22 : (hI 2 = (2 : Int32)) = True := eq_true rfl
  have K33 : (hI 3 = (3 : Int32)) = True := eq_true rfl
  have K44 : (hI 4 = (4 : Int32)) = True := eq_true rfl
  rcases kk with kk | kk | kk | kk | kk | kk
  · rcases C3 with q3 | q3 <;> rcases C1 with q1 | q1 <;> simp [kk, eq_M_saysOf, g_M_saysOf, eq_M_saysOf_129, g_M_saysOf_129, eq_M_saysOf_13, g_M_saysOf_13, eq_M_saysOf_166, g_M_saysOf_166, eq_M_saysLoyally, g_M_saysLoyally, eq_M_saysLoyally_15, g_M_saysLoyally_15, ix, cl, PL, OW, VO, D0, D1, D2, D3, D4, D5, E1, E2, E3, E4, E5, E6, V1, V2, V3, hv_10, hv_tI_9, K00, K01, K10, K11, K20, K21, K22, K30, K31, K32, K33, K40, K41, K42, K43, K44, K50, K51, K52, K53, K54, q3, q1]
  · rcases C3 with q3 | q3 <;> simp [kk, eq_M_saysOf, g_M_saysOf, eq_M_saysOf_129, g_M_saysOf_129, eq_M_saysOf_13, g_M_saysOf_13, eq_M_saysOf_166, g_M_saysOf_166, eq_M_saysLoyally, g_M_saysLoyally, eq_M_saysLoyally_15, g_M_saysLoyally_15, ix, cl, PL, OW, VO, D0, D1, D2, D3, D4, D5, E1, E2, E3, E4, E5, E6, V1, V2, V3, hv_10, hv_tI_9, K00, K01, K10, K11, K20, K21, K22, K30, K31, K32, K33, K40, K41, K42, K43, K44, K50, K51, K52, K53, K54, q3]
  · rcases C3 with q3 | q3 <;> rcases C1 with q1 | q1 <;> rcases C2 with q2 | q2 <;> simp [kk, eq_M_saysOf, g_M_saysOf, eq_M_saysOf_129, g_M_saysOf_129, eq_M_saysOf_13, g_M_saysOf_13, eq_M_saysOf_166, g_M_saysOf_166, eq_M_saysLoyally, g_M_saysLoyally, eq_M_saysLoyally_15, g_M_saysLoyally_15, ix, cl, PL, OW, VO, D0, D1, D2, D3, D4, D5, E1, E2, E3, E4, E5, E6, V1, V2, V3, hv_10, hv_tI_9, K00, K01, K10, K11, K20, K21, K22, K30, K31, K32, K33, K40, K41, K42, K43, K44, K50, K51, K52, K53, K54, q3, q1, q2]
  · rcases C3 with q3 | q3 <;> rcases C5 with q5 | q5 <;> rcases C1 with q1 | q1 <;> rcases C2 with q2 | q2 <;> simp [kk, eq_M_saysOf, g_M_saysOf, eq_M_saysOf_129, g_M_saysOf_129, eq_M_saysOf_13, g_M_saysOf_13, eq_M_saysOf_166, g_M_saysOf_166, eq_M_saysLoyally, g_M_saysLoyally, eq_M_saysLoyally_15, g_M_saysLoyally_15, ix, cl, PL, OW, VO, D0, D1, D2, D3, D4, D5, E1, E2, E3, E4, E5, E6, V1, V2, V3, hv_10, hv_tI_9, K00, K01, K10, K11, K20, K21, K22, K30, K31, K32, K33, K40, K41, K42, K43, K44, K50, K51, K52, K53, K54, q3, q5, q1, q2]
  · rcases C3 with q3 | q3 <;> rcases C1 with q1 | q1 <;> rcases C6 with q6 | q6 <;> simp [kk, eq_M_saysOf, g_M_saysOf, eq_M_saysOf_129, g_M_saysOf_129, eq_M_saysOf_13, g_M_saysOf_13, eq_M_saysOf_166, g_M_saysOf_166, eq_M_saysLoyally, g_M_saysLoyally, eq_M_saysLoyally_15, g_M_saysLoyally_15, ix, cl, PL, OW, VO, D0, D1, D2, D3, D4, D5, E1, E2, E3, E4, E5, E6, V1, V2, V3, hv_10, hv_tI_9, K00, K01, K10, K11, K20, K21, K22, K30, K31, K32, K33, K40, K41, K42, K43, K44, K50, K51, K52, K53, K54, q3, q1, q6]
  · rcases C3 with q3 | q3 <;> simp [kk, eq_M_saysOf, g_M_saysOf, eq_M_saysOf_129, g_M_saysOf_129, eq_M_saysOf_13, g_M_saysOf_13, eq_M_saysOf_166, g_M_saysOf_166, eq_M_saysLoyally, g_M_saysLoyally, eq_M_saysLoyally_15, g_M_saysLoyally_15, ix, cl, PL, OW, VO, D0, D1, D2, D3, D4, D5, E1, E2, E3, E4, E5, E6, V1, V2, V3, hv_10, hv_tI_9, K00, K01, K10, K11, K20, K21, K22, K30, K31, K32, K33, K40, K41, K42, K43, K44, K50, K51, K52, K53, K54, q3]
