/-! PURE: bits of a row of doors -/
theorem hI_bit' : ∀ n, n < 16 → ∀ k, k < 4 → (decide (((hI n >>> (hI k &&& 31)) &&& 1) = 1)) = n.testBit k := by decide +kernel
theorem hI_bit {n k : Nat} (hn : n < 16) (hk : k < 4) : ((hI n >>> (hI k &&& 31)) &&& 1) = 1 ↔ n.testBit k = true := by rw [← hI_bit' n hn k hk, decide_eq_true_iff]
theorem hv_ok.door16 {h : hv} (ok : hv_ok h) {r : Nat} (hr : r < 4) : h.door r < 16 := by
  have h1 := (ok.door r hr).1
  have h2 := ok.R.2
  have : 2 ^ h.R ≤ 2 ^ 4 := Nat.pow_le_pow_right (by decide) h2
  omega
theorem hv_dev.isStep {h : hv} {σ : am_St} (d : hv_dev 1 h σ) (ok : hv_ok h) {a b : Nat} (ha : a < h.R) (hb : b < h.R) : f_H_isStep_1 (hI a) (hI b) σ = some (if a = b ∨ (h.door a).testBit b = true then 1 else 0, σ) := by
  have h1 := ok.R
  rw [eq_H_isStep_1]; unfold g_H_isStep_1
  rw [d.hasRoom]
  have e1 : hv_rng (hI a) h.R = 1 := if_pos ⟨(hI_le (n := 0) (by decide) (by omega)).mpr (Nat.zero_le _), (hI_lt (by omega) (by omega)).mpr ha⟩
  have e2 : hv_rng (hI b) h.R = 1 := if_pos ⟨(hI_le (n := 0) (by decide) (by omega)).mpr (Nat.zero_le _), (hI_lt (by omega) (by omega)).mpr hb⟩
  show (if hv_rng (hI a) h.R = 0 then _ else _) = _
  rw [e1, if_neg (by decide), d.hasRoom]
  show (if hv_rng (hI b) h.R = 0 then _ else _) = _
  rw [e2, if_neg (by decide)]
  by_cases c : a = b
  · rw [if_pos (by rw [c]), if_pos (Or.inl c)]
  · rw [if_neg (fun e => c ((hI_inj (by omega) (by omega)).mp e)), if_pos (hI_ix (by omega) (by decide)), hI_clamp (by omega)]
    show (if ((σ.1 (1 + 1) a >>> (hI b &&& 31)) &&& 1) = 1 then _ else _) = _
    rw [d.door a (by omega)]
    by_cases t : (h.door a).testBit b = true
    · rw [if_pos ((hI_bit (ok.door16 (by omega)) (by omega)).mpr t), if_pos (Or.inr t)]
    · rw [if_neg (fun e => t ((hI_bit (ok.door16 (by omega)) (by omega)).mp e)), if_neg (fun e => e.elim c t)]
theorem hv_st_door : st_door hv_inv := by
  intro σ hi a b
  obtain ⟨⟨h, ok, so, d, m⟩, -⟩ := id hi
  have s2 : ∀ x : am_St, hv_Sm x (am_sI x 66 22 0) := fun x => (hv_Sm.rfl' x).set 0 rfl
  have R1 : ∀ x : am_St, f_X_door_27 x = some (-1, am_sI x 65 1 (x.1 65 1 + 1)) := fun x => by
    rw [eq_X_door_27]; unfold g_X_door_27; rw [show (-1 : Int32) = -(hI 1) from rfl, hv_X_refuse (by decide)]; rfl
  have R2 : ∀ x : am_St, f_M_door_26 x = some (-1, am_sI x 82 1 (x.1 82 1 + 1)) := fun x => by
    rw [eq_M_door_26]; unfold g_M_door_26; rw [show (-1 : Int32) = -(hI 1) from rfl, hv_M_refuse (by decide)]; rfl
  rw [eq_X_door]
  simp only [eq_M_door]
  unfold g_X_door g_M_door
  rw [d.hasRoom]
  by_cases c1 : hv_rng a h.R = 0
  · refine ⟨-1, am_sI σ 65 1 (σ.1 65 1 + 1), _, ?_, ?_, hv_inv_refuse (n := 1) hi (hv_Sm.rfl' σ) (s2 _)⟩
    · show (if hv_rng a h.R = 0 then _ else _) = _
      rw [if_pos c1]; exact R1 σ
    · show (f_M_isRoom a (am_sI (am_sI σ 65 1 (σ.1 65 1 + 1)) 66 22 0)).bind _ = _
      rw [(m.ref 1 _).thrown.isRoom ok]
      show (if hv_rng a h.R = 0 then _ else _) = _
      rw [if_pos c1]; exact R2 _
  · by_cases c2 : hv_rng b h.R = 0
    · refine ⟨-1, am_sI σ 65 1 (σ.1 65 1 + 1), _, ?_, ?_, hv_inv_refuse (n := 1) hi (hv_Sm.rfl' σ) (s2 _)⟩
      · show (if hv_rng a h.R = 0 then _ else _) = _
        rw [if_neg c1, d.hasRoom]
        show (if hv_rng b h.R = 0 then _ else _) = _
        rw [if_pos c2]; exact R1 σ
      · show (f_M_isRoom a (am_sI (am_sI σ 65 1 (σ.1 65 1 + 1)) 66 22 0)).bind _ = _
        rw [(m.ref 1 _).thrown.isRoom ok]
        show (if hv_rng a h.R = 0 then _ else _) = _
        rw [if_neg c1, (m.ref 1 _).thrown.isRoom ok]
        show (if hv_rng b h.R = 0 then _ else _) = _
        rw [if_pos c2]; exact R2 _
    · have h1 := ok.R
      obtain ⟨p, hp, rfl⟩ := hv_rng_in (by omega) c1
      obtain ⟨q, hq, rfl⟩ := hv_rng_in (by omega) c2
      by_cases c3 : hI p = hI q
      · refine ⟨-1, am_sI σ 65 1 (σ.1 65 1 + 1), _, ?_, ?_, hv_inv_refuse (n := 1) hi (hv_Sm.rfl' σ) (s2 _)⟩
        · show (if hv_rng (hI p) h.R = 0 then _ else _) = _
          rw [if_neg c1, d.hasRoom]
          show (if hv_rng (hI q) h.R = 0 then _ else _) = _
          rw [if_neg c2, if_pos c3]; exact R1 σ
        · show (f_M_isRoom (hI p) (am_sI (am_sI σ 65 1 (σ.1 65 1 + 1)) 66 22 0)).bind _ = _
          rw [(m.ref 1 _).thrown.isRoom ok]
          show (if hv_rng (hI p) h.R = 0 then _ else _) = _
          rw [if_neg c1, (m.ref 1 _).thrown.isRoom ok]
          show (if hv_rng (hI q) h.R = 0 then _ else _) = _
          rw [if_neg c2, eq_M_door_21]
          unfold g_M_door_21
          rw [if_pos c3]; exact R2 _
      · have c4 : p ≠ q := fun e => c3 (by rw [e])
        refine ⟨if p = q ∨ (h.door p).testBit q = true then 1 else 0, σ, am_sI σ 66 22 0, ?_, ?_, (s2 σ).inv hi⟩
        · show (if hv_rng (hI p) h.R = 0 then _ else _) = _
          rw [if_neg c1, d.hasRoom]
          show (if hv_rng (hI q) h.R = 0 then _ else _) = _
          rw [if_neg c2, if_neg c3, eq_X_door_33]
          unfold g_X_door_33
          rw [d.isStep ok hp hq]
          show (f_X_bit _ σ).bind _ = _
          rw [eq_X_bit]
          unfold g_X_bit
          by_cases t : p = q ∨ (h.door p).testBit q = true
          · rw [if_pos t]; rfl
          · rw [if_neg t]; rfl
        · show (f_M_isRoom (hI p) (am_sI σ 66 22 0)).bind _ = _
          rw [m.thrown.isRoom ok]
          show (if hv_rng (hI p) h.R = 0 then _ else _) = _
          rw [if_neg c1, m.thrown.isRoom ok]
          show (if hv_rng (hI q) h.R = 0 then _ else _) = _
          rw [if_neg c2, eq_M_door_21]
          unfold g_M_door_21
          rw [if_neg c3, if_pos (hI_ix (by omega) (by decide)), hI_clamp (by omega), m.thrown.door p (by omega), eq_M_has]
          unfold g_M_has
          by_cases t : (h.door p).testBit q = true
          · rw [if_pos ((hI_bit (ok.door16 (by omega)) (by omega)).mpr t), if_pos (Or.inr t)]; rfl
          · rw [if_neg (fun e => t ((hI_bit (ok.door16 (by omega)) (by omega)).mp e)), if_neg (fun e => e.elim c4 t)]; rfl
