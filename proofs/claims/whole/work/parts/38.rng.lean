/-! PURE: ranges in the model -/
theorem hI_toInt {n : Nat} (h : n < 2 ^ 31) : (hI n).toInt = n := Int32.toInt_ofNat_of_lt h
theorem hv_cmp_neg (x y : Int64) : lg_cmp x y < 0 ↔ x < y := by
  show (if x > y then (1 : Int32) else if x = y then 0 else -1) < 0 ↔ _
  by_cases h : x > y
  · rw [if_pos h]
    exact ⟨fun e => absurd e (by decide), fun e => absurd e (Int64.not_lt.mpr (Int64.le_of_lt h))⟩
  · rw [if_neg h]
    by_cases h2 : x = y
    · rw [if_pos h2]
      exact ⟨fun e => absurd e (by decide), fun e => absurd e (by rw [h2]; exact fun q => Int64.lt_irrefl q)⟩
    · rw [if_neg h2]
      exact ⟨fun _ => Int64.lt_of_le_of_ne (Int64.not_lt.mp h) h2, fun _ => by decide⟩
theorem hv_cmp_pos (x y : Int64) : 0 < lg_cmp x y ↔ y < x := by
  show 0 < (if x > y then (1 : Int32) else if x = y then 0 else -1) ↔ _
  by_cases h : x > y
  · rw [if_pos h]
    exact ⟨fun _ => h, fun _ => by decide⟩
  · rw [if_neg h]
    refine ⟨fun e => absurd e ?_, fun e => absurd e h⟩
    split <;> decide
theorem hv_M_in (x y z : Int64) (σ : am_St) : f_M_in x y z σ = some (if y ≤ x ∧ x ≤ z then 1 else 0, σ) := by
  rw [eq_M_in]; unfold g_M_in
  by_cases h1 : x < y
  · rw [if_pos ((hv_cmp_neg x y).mpr h1), if_neg (fun e => Int64.not_lt.mpr e.1 h1)]
  · rw [if_neg (fun e => h1 ((hv_cmp_neg x y).mp e))]
    by_cases h2 : z < x
    · rw [if_pos ((hv_cmp_pos x z).mpr h2), if_neg (fun e => Int64.not_lt.mpr e.2 h2)]
    · rw [if_neg (fun e => h2 ((hv_cmp_pos x z).mp e)), if_pos ⟨Int64.not_lt.mp h1, Int64.not_lt.mp h2⟩]
theorem hv_M_below {n : Nat} (hn : n < 100) (a : Int32) (σ : am_St) : f_M_in a.toInt64 0 ((hI n - 1).toInt64) σ = some (hv_rng a n, σ) := by
  rw [hv_M_in]
  unfold hv_rng
  have e1 : ((0 : Int64) ≤ a.toInt64) ↔ 0 ≤ a := by
    rw [Int64.le_iff_toInt_le, Int32.toInt_toInt64, Int32.le_iff_toInt_le]; rfl
  have e3 : (hI n - 1).toInt = (n : Int) - 1 := by
    have : hI n - 1 = Int32.ofInt ((n : Int) - 1) := by
      rw [Int32.ofInt_sub]; rfl
    rw [this, Int32.toInt_ofInt_of_le (by omega) (by omega)]
  have e2 : (a.toInt64 ≤ (hI n - 1).toInt64) ↔ a < hI n := by
    rw [Int64.le_iff_toInt_le, Int32.toInt_toInt64, Int32.toInt_toInt64, Int32.lt_iff_toInt_lt, e3, hI_toInt (by omega)]; omega
  simp only [e1, e2]
theorem hv_M_rng {n : Nat} (hn : n < 100) (a : Int32) (σ : am_St) : ((f_M_in a.toInt64 0 ((hI n - 1).toInt64) σ).bind (fun p1 => if p1.1 &&& 1 = p1.1 then some ((p1.1, p1.2)) else none)) = some (hv_rng a n, σ) := by
  rw [hv_M_below hn]
  show (if hv_rng a n &&& 1 = hv_rng a n then some (hv_rng a n, σ) else none) = _
  rw [if_pos (hv_rng_01 a n)]
theorem hv_mod.isRoom {h : hv} {σ : am_St} (m : hv_mod h σ) (ok : hv_ok h) (x : Int32) : f_M_isRoom x σ = some (hv_rng x h.R, σ) := by
  rw [eq_M_isRoom]; unfold g_M_isRoom; rw [m.R]; exact hv_M_rng (by have := ok.R; omega) x σ
theorem hv_mod.isMinute {h : hv} {σ : am_St} (m : hv_mod h σ) (ok : hv_ok h) (x : Int32) : f_M_isMinute x σ = some (hv_rng x h.M, σ) := by
  rw [eq_M_isMinute]; unfold g_M_isMinute; rw [m.M]; exact hv_M_rng (by have := ok.M; omega) x σ
theorem hv_mod.isChild {h : hv} {σ : am_St} (m : hv_mod h σ) (ok : hv_ok h) (x : Int32) : f_M_isChild x σ = some (hv_rng x h.C, σ) := by
  rw [eq_M_isChild]; unfold g_M_isChild; rw [m.C]; exact hv_M_rng (by have := ok.C; omega) x σ
