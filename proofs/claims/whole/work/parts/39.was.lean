/-! PURE: was -/
theorem hI_mul (n m : Nat) : hI n * hI m = hI (n * m) := (Int32.ofNat_mul n m).symm
theorem hv_dev.placeOf {h : hv} {σ : am_St} (d : hv_dev 1 h σ) (ok : hv_ok h) {c m : Nat} (hc : c < h.C) (hm : m < h.M) : f_H_placeOf_1 (hI c) (hI m) σ = some (hI (h.place c m), σ) := by
  have h1 := ok.C
  have h2 := ok.M
  rw [eq_H_placeOf_1]; unfold g_H_placeOf_1
  rw [d.hasChild]
  have e1 : hv_rng (hI c) h.C = 1 := if_pos ⟨(hI_le (n := 0) (by decide) (by omega)).mpr (Nat.zero_le _), (hI_lt (by omega) (by omega)).mpr hc⟩
  have e2 : hv_rng (hI m) h.M = 1 := if_pos ⟨(hI_le (n := 0) (by decide) (by omega)).mpr (Nat.zero_le _), (hI_lt (by omega) (by omega)).mpr hm⟩
  have e3 : hI c * 6 + hI m = hI (c * 6 + m) := by rw [show (6 : Int32) = hI 6 from rfl, hI_mul, hI_add]
  show (if hv_rng (hI c) h.C = 0 then _ else _) = _
  rw [e1, if_neg (by decide), d.hasMinute]
  show (if hv_rng (hI m) h.M = 0 then _ else _) = _
  rw [e2, if_neg (by decide)]
  rw [e3, if_pos (hI_ix (by omega) (by decide)), hI_clamp (by omega)]
  show some (σ.1 (1 + 6) (c * 6 + m), σ) = _
  rw [d.place c hc m hm]
theorem hv_mod.trulyAt {h : hv} {σ : am_St} (d : hv_mod h σ) (ok : hv_ok h) {c m : Nat} (hc : c < h.C) (hm : m < h.M) : f_M_trulyAt (hI c) (hI m) σ = some (hI (h.place c m), σ) := by
  have h1 := ok.C
  have h2 := ok.M
  rw [eq_M_trulyAt]; unfold g_M_trulyAt
  have e3 : 6 * hI c + hI m = hI (6 * c + m) := by rw [show (6 : Int32) = hI 6 from rfl, hI_mul, hI_add]
  rw [e3, if_pos (hI_ix (by omega) (by decide)), hI_clamp (by omega), d.place c hc m hm]
theorem hv_mod.thrown {h : hv} {σ : am_St} (m : hv_mod h σ) : hv_mod h (am_sI σ 66 22 0) := m.frame (fun k hk => hv_g3 _ _ (by omega) _) (fun i k h1 h2 => by rw [hv_g2 _ (by omega)])
theorem hv_mod.ref {h : hv} {σ : am_St} (m : hv_mod h σ) (n : Nat) (x : Int32) : hv_mod h (am_sI σ 65 n x) := m.frame (fun k hk => by rw [hv_g2 _ (by decide)]) (fun i k h1 h2 => by rw [hv_g2 _ (by omega)])
theorem hv_st_was : st_was hv_inv := by
  intro σ hi a b
  obtain ⟨⟨h, ok, so, d, m⟩, -⟩ := id hi
  have s2 : ∀ x : am_St, hv_Sm x (am_sI x 66 22 0) := fun x => (hv_Sm.rfl' x).set 0 rfl
  have R1 : ∀ x : am_St, f_X_was_22 x = some (-1, am_sI x 65 1 (x.1 65 1 + 1)) := fun x => by
    rw [eq_X_was_22]; unfold g_X_was_22; rw [show (-1 : Int32) = -(hI 1) from rfl, hv_X_refuse (by decide)]; rfl
  have R2 : ∀ x : am_St, f_M_was_30 x = some (-1, am_sI x 82 1 (x.1 82 1 + 1)) := fun x => by
    rw [eq_M_was_30]; unfold g_M_was_30; rw [show (-1 : Int32) = -(hI 1) from rfl, hv_M_refuse (by decide)]; rfl
  rw [eq_X_was]
  simp only [eq_M_was]
  unfold g_X_was g_M_was
  rw [d.hasChild]
  by_cases c1 : hv_rng a h.C = 0
  · refine ⟨-1, am_sI σ 65 1 (σ.1 65 1 + 1), _, ?_, ?_, hv_inv_refuse (n := 1) hi (hv_Sm.rfl' σ) (s2 _)⟩
    · show (if hv_rng a h.C = 0 then _ else _) = _
      rw [if_pos c1]; exact R1 σ
    · show (f_M_isChild a (am_sI (am_sI σ 65 1 (σ.1 65 1 + 1)) 66 22 0)).bind _ = _
      rw [(m.ref 1 _).thrown.isChild ok]
      show (if hv_rng a h.C = 0 then _ else _) = _
      rw [if_pos c1]; exact R2 _
  · by_cases c2 : hv_rng b h.M = 0
    · refine ⟨-1, am_sI σ 65 1 (σ.1 65 1 + 1), _, ?_, ?_, hv_inv_refuse (n := 1) hi (hv_Sm.rfl' σ) (s2 _)⟩
      · show (if hv_rng a h.C = 0 then _ else _) = _
        rw [if_neg c1, d.hasMinute]
        show (if hv_rng b h.M = 0 then _ else _) = _
        rw [if_pos c2]; exact R1 σ
      · show (f_M_isChild a (am_sI (am_sI σ 65 1 (σ.1 65 1 + 1)) 66 22 0)).bind _ = _
        rw [(m.ref 1 _).thrown.isChild ok]
        show (if hv_rng a h.C = 0 then _ else _) = _
        rw [if_neg c1, (m.ref 1 _).thrown.isMinute ok]
        show (if hv_rng b h.M = 0 then _ else _) = _
        rw [if_pos c2]; exact R2 _
    · have h1 := ok.C
      have h2 := ok.M
      obtain ⟨c, hc, rfl⟩ := hv_rng_in (by omega) c1
      obtain ⟨q, hq, rfl⟩ := hv_rng_in (by omega) c2
      refine ⟨hI (h.place c q), σ, am_sI σ 66 22 0, ?_, ?_, (s2 σ).inv hi⟩
      · show (if hv_rng (hI c) h.C = 0 then _ else _) = _
        rw [if_neg c1, d.hasMinute]
        show (if hv_rng (hI q) h.M = 0 then _ else _) = _
        rw [if_neg c2, d.placeOf ok hc hq]; rfl
      · show (f_M_isChild (hI c) (am_sI σ 66 22 0)).bind _ = _
        rw [m.thrown.isChild ok]
        show (if hv_rng (hI c) h.C = 0 then _ else _) = _
        rw [if_neg c1, m.thrown.isMinute ok]
        show (if hv_rng (hI q) h.M = 0 then _ else _) = _
        rw [if_neg c2, eq_M_was_21]
        unfold g_M_was_21
        rw [m.thrown.trulyAt ok hc hq]; rfl
