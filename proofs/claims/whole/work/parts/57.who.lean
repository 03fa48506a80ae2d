/-! PURE: who, likeliest, punish, missed -/
theorem hv_tot_lt {h : hv} (ok : hv_ok h) : hv_tot h < 2 ^ 59 := by
  have := hv_tot_le ok 7 (by decide)
  unfold hv_tot
  omega
theorem hv_M_46 (x : Int32) (σ : am_St) : f_M_in x.toInt64 4 6 σ = some (if 4 ≤ x ∧ x ≤ 6 then 1 else 0, σ) := by
  rw [hv_M_in]
  have e1 : ((4 : Int64) ≤ x.toInt64) ↔ 4 ≤ x := by
    rw [Int64.le_iff_toInt_le, Int32.toInt_toInt64, Int32.le_iff_toInt_le]; rfl
  have e2 : (x.toInt64 ≤ (6 : Int64)) ↔ x ≤ 6 := by
    rw [Int64.le_iff_toInt_le, Int32.toInt_toInt64, Int32.le_iff_toInt_le]; rfl
  simp only [e1, e2]
theorem hv_st_who : st_who hv_inv := by
  intro σ hi x p
  obtain ⟨h, H⟩ := hi.at
  have kC := H.ok.C
  have kt := hv_tot_lt H.ok
  have Q : ∀ k, k < 7 → x = hI k → (∀ τ, hv_at h τ → ∃ X : Prop, g_X_who x p τ = f_X_who_28 x p τ) → g_X_who x p σ = f_X_who_28 x p σ → (∀ τ, hv_at h τ → (g_M_who x p τ = f_M_who_38 x p (am_sI τ 66 22 0))) → ∃ r τ1 τ2, f_X_who x p σ = some (r, τ1) ∧ f_M_who x p τ1 = some (r, τ2) ∧ hv_inv τ2 := by
    intro k hk ex _ eX eM
    subst ex
    have kw := hv_w_tot (h := h) hk
    rcases hv_rng_cases p (n := 2) (by decide) with c2 | ⟨p, hp, rfl, c2⟩
    · refine hv_qry hi H 2 (4000000000000000000 - (-2 : Int32).toInt64) (hv_refX (by decide) ?_) (fun τ T _ => hv_thr (hv_refM (by decide) ?_))
      · rw [eq_X_who, eX]
        simp only [eq_X_who_28, g_X_who_28, hv_X_01, c2, eq_X_refuseLong, g_X_refuseLong, Option.bind_some, ↓reduceIte, hv_10, hv_01, hI_00, hI_10, hv_X_r1, hv_X_r2, hv_X_r3, hv_X_r4, hv_X_r6, hv_M_r1, hv_M_r2, hv_M_r3, hv_M_r4, hv_M_r6]
      · rw [eq_M_who, eM τ T]
        simp only [eq_M_who_38, g_M_who_38, hv_M_01, c2, Option.bind_some, ↓reduceIte, hv_10, hv_01, hI_00, hI_10, hv_X_r1, hv_X_r2, hv_X_r3, hv_X_r4, hv_X_r6, hv_M_r1, hv_M_r2, hv_M_r3, hv_M_r4, hv_M_r6]
    · refine hv_qry hi H 0 (hv_part (hv_w h k) (hv_tot h) p) ?_ (fun τ T _ => hv_thr ?_)
      · obtain ⟨υ, e, s, w, tt⟩ := hv_X_weigh H
        refine ⟨υ, ?_, hv_Sx.of s⟩
        rw [eq_X_who, eX]
        simp only [eq_X_who_28, g_X_who_28, hv_X_01, c2, e, Option.bind_some, ↓reduceIte, hv_10, hv_01, hI_00, hI_10, hv_X_r1, hv_X_r2, hv_X_r3, hv_X_r4, hv_X_r6, hv_M_r1, hv_M_r2, hv_M_r3, hv_M_r4, hv_M_r6]
        rw [eq_O_shareOf]; unfold g_O_shareOf
        rw [if_neg (hI_lt0 (by omega)), if_neg (hI_nge7 hk), if_pos (hI_ix hk (by decide)), hI_clamp (by omega), w k hk, eq_O_shareOf_20]
        unfold g_O_shareOf_20
        rw [tt, hv_X_part (by omega) (by omega) hp (by omega)]
        rfl
      · obtain ⟨υ, e, s, w, tt⟩ := hv_M_weigh T.thrown
        refine ⟨υ, ?_, hv_Sx.of s⟩
        rw [eq_M_who, eM τ T]
        simp only [eq_M_who_38, g_M_who_38, hv_M_01, c2, e, Option.bind_some, ↓reduceIte, hv_10, hv_01, hI_00, hI_10, hv_X_r1, hv_X_r2, hv_X_r3, hv_X_r4, hv_X_r6, hv_M_r1, hv_M_r2, hv_M_r3, hv_M_r4, hv_M_r6]
        rw [if_pos (hI_ix hk (by decide)), hI_clamp (by omega), w k hk, tt, hv_M_part (by omega) (by omega) hp]
        rfl
  rcases hv_rng_cases x H.C31 with c1 | ⟨c, hc, rfl, c1⟩
  · by_cases c4 : 4 ≤ x ∧ x ≤ 6
    · obtain ⟨k, hk, rfl⟩ := hI_of (Int32.le_trans (show (0 : Int32) ≤ 4 by decide) c4.1)
      have k4 : 4 ≤ k := (hI_le (n := 4) (by decide) hk).mp c4.1
      have k6 : k ≤ 6 := (hI_le (m := 6) hk (by decide)).mp c4.2
      have l4 : ¬ hI k < 4 := hI_nlt (m := 4) (by omega) (by decide) k4
      have l7 : hI k < 7 := (hI_lt (m := 7) hk (by decide)).mpr (by omega)
      refine Q k (by omega) rfl (fun τ T => ⟨True, ?_⟩) ?_ (fun τ T => ?_)
      · unfold g_X_who
        simp only [T.hasChild, c1, l4, l7, Option.bind_some, ↓reduceIte, hv_10, hv_01, hI_00, hI_10, hv_X_r1, hv_X_r2, hv_X_r3, hv_X_r4, hv_X_r6, hv_M_r1, hv_M_r2, hv_M_r3, hv_M_r4, hv_M_r6]
      · unfold g_X_who
        simp only [H.hasChild, c1, l4, l7, Option.bind_some, ↓reduceIte, hv_10, hv_01, hI_00, hI_10, hv_X_r1, hv_X_r2, hv_X_r3, hv_X_r4, hv_X_r6, hv_M_r1, hv_M_r2, hv_M_r3, hv_M_r4, hv_M_r6]
      · unfold g_M_who
        simp only [T.thrown.isChild, c1, hv_M_46, c4, and_self, Option.bind_some, ↓reduceIte, hv_10, hv_01, hI_00, hI_10, hv_X_r1, hv_X_r2, hv_X_r3, hv_X_r4, hv_X_r6, hv_M_r1, hv_M_r2, hv_M_r3, hv_M_r4, hv_M_r6]
    · refine hv_qry hi H 1 (4000000000000000000 - (-1 : Int32).toInt64) (hv_refX (by decide) ?_) (fun τ T _ => ?_)
      · rw [eq_X_who]; unfold g_X_who
        by_cases l4 : x < 4
        · simp only [H.hasChild, c1, l4, eq_X_who_22, g_X_who_22, eq_X_refuseLong, g_X_refuseLong, Option.bind_some, ↓reduceIte, hv_10, hv_01, hI_00, hI_10, hv_X_r1, hv_X_r2, hv_X_r3, hv_X_r4, hv_X_r6, hv_M_r1, hv_M_r2, hv_M_r3, hv_M_r4, hv_M_r6]
        · have l7 : ¬ x < 7 := fun e => c4 ⟨Int32.not_lt.mp l4, by
            obtain ⟨k, hk, rfl⟩ := hI_of (Int32.le_trans (show (0 : Int32) ≤ 4 by decide) (Int32.not_lt.mp l4))
            have := (hI_lt (m := 7) hk (by decide)).mp e
            exact (hI_le (m := 6) hk (by decide)).mpr (by omega)⟩
          simp only [H.hasChild, c1, l4, l7, eq_X_who_22, g_X_who_22, eq_X_refuseLong, g_X_refuseLong, Option.bind_some, ↓reduceIte, hv_10, hv_01, hI_00, hI_10, hv_X_r1, hv_X_r2, hv_X_r3, hv_X_r4, hv_X_r6, hv_M_r1, hv_M_r2, hv_M_r3, hv_M_r4, hv_M_r6]
      · refine hv_thr ?_
        rw [eq_M_who]; unfold g_M_who
        replace T := T.thrown
        generalize am_sI τ 66 22 0 = τ at T ⊢
        dsimp only
        refine hv_refM (by decide) ?_
        simp only [T.isChild, c1, hv_M_46, c4, eq_M_who_27, g_M_who_27, Option.bind_some, ↓reduceIte, hv_10, hv_01, hI_00, hI_10, hv_X_r1, hv_X_r2, hv_X_r3, hv_X_r4, hv_X_r6, hv_M_r1, hv_M_r2, hv_M_r3, hv_M_r4, hv_M_r6]
  · refine Q c (by omega) rfl (fun τ T => ⟨True, ?_⟩) ?_ (fun τ T => ?_)
    · unfold g_X_who
      simp only [T.hasChild, c1, Option.bind_some, ↓reduceIte, hv_10, hv_01, hI_00, hI_10, hv_X_r1, hv_X_r2, hv_X_r3, hv_X_r4, hv_X_r6, hv_M_r1, hv_M_r2, hv_M_r3, hv_M_r4, hv_M_r6]
    · unfold g_X_who
      simp only [H.hasChild, c1, Option.bind_some, ↓reduceIte, hv_10, hv_01, hI_00, hI_10, hv_X_r1, hv_X_r2, hv_X_r3, hv_X_r4, hv_X_r6, hv_M_r1, hv_M_r2, hv_M_r3, hv_M_r4, hv_M_r6]
    · unfold g_M_who
      simp only [T.thrown.isChild, c1, Option.bind_some, ↓reduceIte, hv_10, hv_01, hI_00, hI_10, hv_X_r1, hv_X_r2, hv_X_r3, hv_X_r4, hv_X_r6, hv_M_r1, hv_M_r2, hv_M_r3, hv_M_r4, hv_M_r6]
/-- the heaviest of the first n, and its weight; 9 for none -/
def hv_bst (h : hv) : Nat → Nat × Nat
  | 0 => (9, 0)
  | n + 1 => if (hv_bst h n).2 < hv_w h n then (n, hv_w h n) else hv_bst h n
theorem hv_bst_0 (h : hv) : hv_bst h 0 = (9, 0) := by rw [hv_bst]
theorem hv_bst_s (h : hv) (n : Nat) : hv_bst h (n + 1) = if (hv_bst h n).2 < hv_w h n then (n, hv_w h n) else hv_bst h n := by rw [hv_bst]
theorem hv_bst_ok {h : hv} (ok : hv_ok h) : ∀ n, n ≤ 7 → (hv_bst h n).2 ≤ 2 ^ 55 ∧ (((hv_bst h n).1 = 9 ∧ (hv_bst h n).2 = 0) ∨ ((hv_bst h n).1 < 7 ∧ (hv_bst h n).2 = hv_w h (hv_bst h n).1)) := by
  intro n
  induction n with
  | zero => intro _; rw [hv_bst_0]; exact ⟨by decide, .inl ⟨rfl, rfl⟩⟩
  | succ n ih =>
    intro hn
    rw [hv_bst_s]
    split
    · exact ⟨hv_w_le ok (by omega), .inr ⟨by dsimp only; omega, rfl⟩⟩
    · exact ih (by omega)
theorem hv_cmp_le (x y : Int64) : (lg_cmp x y ≤ 0) = (x ≤ y) := by
  refine propext ?_
  rw [← Int32.not_lt, hv_cmp_pos, Int64.not_lt]
theorem hv_st_likeliest : st_likeliest hv_inv := by
  intro σ hi
  obtain ⟨h, H⟩ := hi.at
  refine hv_qry hi H 0 (hv_tI (hv_bst h 7).1) ?_ (fun τ T _ => ?_)
  · obtain ⟨υ, e, s, w, tt⟩ := hv_X_weigh H
    refine ⟨υ, ?_, hv_Sx.of s⟩
    rw [eq_X_likeliest]; unfold g_X_likeliest
    rw [e]
    simp only [Option.bind_some]
    rw [eq_O_heaviest]; unfold g_O_heaviest f_O_heaviest_8
    have L := hv_up (body := fun s : Int32 × Int64 × Int32 × am_St => b_O_heaviest_8 s.1 s.2.1 s.2.2.1 s.2.2.2) (P := fun x => x = (hv_tI (hv_bst h 7).1, υ)) 7 (fun i t => t = (hv_tI (hv_bst h i).1, hL (hv_bst h i).2, hI i, υ)) 0 (Nat.zero_le _) (-9, 0, 0, υ) (by rw [hv_bst_0]; rfl) ?_ ?_
    · obtain ⟨x, e, rfl⟩ := L; rw [e]; rfl
    · rintro i t hi rfl
      have kw := hv_w_le H.ok hi
      obtain ⟨kb, -⟩ := hv_bst_ok H.ok i (by omega)
      have ix : am_ix (hI i) 7 = true := hI_ix hi (by decide)
      refine .inl ⟨_, ?_, rfl⟩
      show b_O_heaviest_8 _ _ (hI i) υ = _
      unfold b_O_heaviest_8
      rw [if_neg (hI_nge7 hi), if_pos ix, hI_clamp (by omega), w i hi, hv_bst_s]
      simp only [hv_cmp_le, hL_le (show hv_w h i < 2 ^ 63 by omega) (show (hv_bst h i).2 < 2 ^ 63 by omega)]
      by_cases q : (hv_bst h i).2 < hv_w h i
      · rw [if_neg (by omega), if_pos ix, if_pos q, eq_O_heaviest_38]
        unfold g_O_heaviest_38
        dsimp only
        rw [hI_add1, hv_tI_lt (by omega)]
      · rw [if_pos (by omega), if_neg q, eq_O_heaviest_38]
        unfold g_O_heaviest_38
        dsimp only
        rw [hI_add1]
    · rintro t rfl
      exact ⟨_, rfl, rfl⟩
  · refine hv_thr ?_
    rw [eq_M_likeliest]; unfold g_M_likeliest
    replace T := T.thrown
    generalize am_sI τ 66 22 0 = τ at T ⊢
    dsimp only
    obtain ⟨υ, e, s, w, tt⟩ := hv_M_weigh T
    refine ⟨υ, ?_, hv_Sx.of s⟩
    rw [e]
    simp only [Option.bind_some]
    unfold f_M_likeliest_14
    have L := hv_up (body := fun s : Int32 × Int32 × am_St => b_M_likeliest_14 s.1 s.2.1 s.2.2) (P := fun x => x = (hv_tI (hv_bst h 7).1, υ)) 7 (fun i t => t = (hv_tI (hv_bst h i).1, hI i, υ)) 0 (Nat.zero_le _) (-9, 0, υ) (by rw [hv_bst_0]; rfl) ?_ ?_
    · obtain ⟨x, e, rfl⟩ := L; rw [e]
    · rintro i t hi rfl
      have kw := hv_w_le H.ok hi
      obtain ⟨kb, kc⟩ := hv_bst_ok H.ok i (by omega)
      have ix : am_ix (hI i) 7 = true := hI_ix hi (by decide)
      have A : ∀ y, f_M_likeliest_56 (hI i) y υ = some (.inl (y, hI (i + 1), υ)) := fun y => by
        rw [eq_M_likeliest_56]; unfold g_M_likeliest_56
        dsimp only
        rw [hI_add1]
      refine .inl ⟨_, ?_, rfl⟩
      show b_M_likeliest_14 _ (hI i) υ = _
      unfold b_M_likeliest_14
      rw [if_neg (hI_nge7 hi), if_pos ix, hI_clamp (by omega), w i hi, hv_bst_s]
      have z0 : (hL (hv_w h i) ≤ 0) = (hv_w h i = 0) := propext ((hL_le (m := 0) (by omega) (by decide)).trans (by omega))
      simp only [hv_cmp_le, z0, eq_M_likeliest_55, g_M_likeliest_55, eq_M_likeliest_51, g_M_likeliest_51, A]
      by_cases z : hv_w h i = 0
      · rw [if_pos z, if_neg (by omega)]
      · rw [if_neg z]
        rcases kc with ⟨k1, k2⟩ | ⟨k1, k2⟩
        · rw [k1, if_pos (show hv_tI 9 < 0 by decide), if_pos (by omega), hv_tI_lt (by omega)]
        · rw [hv_tI_lt (show (hv_bst h i).1 < 9 by omega), if_neg (hI_lt0 (by omega)), if_pos ix, if_pos (hI_ix k1 (by decide)), hI_clamp (show (hv_bst h i).1 < 2 ^ 31 by omega), w _ k1, ← k2]
          simp only [hL_le (show hv_w h i < 2 ^ 63 by omega) (show (hv_bst h i).2 < 2 ^ 63 by omega)]
          by_cases q : (hv_bst h i).2 < hv_w h i
          · rw [if_neg (by omega), if_pos q, hv_tI_lt (by omega)]
          · rw [if_pos (by omega), if_neg q, hv_tI_lt (show (hv_bst h i).1 < 9 by omega)]
    · rintro t rfl
      exact ⟨_, rfl, rfl⟩
/-- is the child punished from s tenths on -/
def hv_pun (h : hv) (s c : Nat) : Prop := s * max 1 (hv_tot h) ≤ hv_w h c * 10
theorem hv_mmaxL1 {n : Nat} (h : n < 2 ^ 63) : am_mmaxL 1 (hL n) = hL (max 1 n) := by
  unfold am_mmaxL
  by_cases c : n < 1
  · rw [if_pos (show hL n < 1 from (hL_lt (m := 1) h (by decide)).mpr c), Nat.max_eq_left (by omega)]; rfl
  · rw [if_neg (show ¬ hL n < 1 from fun e => c ((hL_lt (m := 1) h (by decide)).mp e)), Nat.max_eq_right (by omega)]
theorem hv_X_punF {h : hv} {σ : am_St} (H : hv_at h σ) (w : ∀ k, k < 7 → σ.2.1 61 k = hL (hv_w h k)) (tt : σ.2.1 60 3 = hL (hv_tot h)) {s : Nat} (hs : s ≤ 10) : f_O_punishedFrom (hI s) (hI h.C) σ = some (hv_bits (fun c => s * max 1 (hv_tot h) ≤ hv_w h c * 10) h.C, σ) := by
  have kC := H.ok.C
  have kt := hv_tot_lt H.ok
  rw [eq_O_punishedFrom]; unfold g_O_punishedFrom
  rw [tt, hv_mmaxL1 (by omega)]
  dsimp only
  unfold f_O_punishedFrom_15
  have L := hv_up (body := fun s : Int32 × Int32 × Int64 × Int32 × Int32 × am_St => b_O_punishedFrom_15 s.1 s.2.1 s.2.2.1 s.2.2.2.1 s.2.2.2.2.1 s.2.2.2.2.2) (P := fun x => x = (hv_bits (fun c => s * max 1 (hv_tot h) ≤ hv_w h c * 10) h.C, σ)) h.C (fun i t => t = (hI s, hI h.C, hL (max 1 (hv_tot h)), hv_bits (fun c => s * max 1 (hv_tot h) ≤ hv_w h c * 10) i, hI i, σ)) 0 (Nat.zero_le _) (hI s, hI h.C, hL (max 1 (hv_tot h)), 0, 0, σ) (by rw [hv_bits_0]; rfl) ?_ ?_
  · obtain ⟨x, e, rfl⟩ := L; exact e
  · rintro i t hi rfl
    have kw := hv_w_le H.ok (show i < 7 by omega)
    have km : s * max 1 (hv_tot h) ≤ 10 * 2 ^ 59 := Nat.mul_le_mul hs (by omega)
    refine .inl ⟨_, ?_, rfl⟩
    show b_O_punishedFrom_15 _ _ _ _ (hI i) σ = _
    unfold b_O_punishedFrom_15
    rw [if_neg (hI_nle (by omega) (by omega) hi), if_neg (hI_nge7 (by omega)), if_pos (hI_ix (show i < 7 by omega) (by decide)), hI_clamp (by omega), w i (by omega), hI_long (by omega), show (10 : Int64) = hL 10 from rfl, hL_mul, hL_mul]
    simp only [hv_cmp_neg, hL_lt (show hv_w h i * 10 < 2 ^ 63 by omega) (show s * max 1 (hv_tot h) < 2 ^ 63 by omega), eq_O_punishedFrom_56, g_O_punishedFrom_56]
    by_cases q : s * max 1 (hv_tot h) ≤ hv_w h i * 10
    · rw [if_neg (by omega), hv_bits_y (p := fun c => s * max 1 (hv_tot h) ≤ hv_w h c * 10) q, hI_add1]
    · rw [if_pos (by omega), hv_bits_n (p := fun c => s * max 1 (hv_tot h) ≤ hv_w h c * 10) q, hI_add1]
  · rintro t rfl
    refine ⟨_, ?_, rfl⟩
    show b_O_punishedFrom_15 _ _ _ _ (hI h.C) σ = _
    unfold b_O_punishedFrom_15
    rw [if_pos (Int32.le_refl _)]
theorem hv_M_punF {h : hv} {σ : am_St} (H : hv_at h σ) {s : Nat} (hs : s ≤ 10) : ∃ τ, f_M_punished (hI s) σ = some (hv_bits (fun c => s * max 1 (hv_tot h) ≤ hv_w h c * 10) h.C, τ) ∧ hv_Sm σ τ ∧ (∀ k, k < 7 → τ.2.1 92 k = hL (hv_w h k)) ∧ τ.2.1 66 43 = hL (hv_tot h) := by
  have kC := H.ok.C
  have kt := hv_tot_lt H.ok
  obtain ⟨τ, e, sm, w, tt⟩ := hv_M_weigh H
  have T := sm.at H
  refine ⟨τ, ?_, sm, w, tt⟩
  rw [eq_M_punished]; unfold g_M_punished
  rw [e]
  simp only [Option.bind_some]
  unfold f_M_punished_8
  have L := hv_up (body := fun s : Int32 × Int32 × Int32 × am_St => b_M_punished_8 s.1 s.2.1 s.2.2.1 s.2.2.2) (P := fun x => x = (hv_bits (fun c => s * max 1 (hv_tot h) ≤ hv_w h c * 10) h.C, τ)) h.C (fun i t => t = (hI s, hv_bits (fun c => s * max 1 (hv_tot h) ≤ hv_w h c * 10) i, hI i, τ)) 0 (Nat.zero_le _) (hI s, 0, 0, τ) (by rw [hv_bits_0]; rfl) ?_ ?_
  · obtain ⟨x, e, rfl⟩ := L; exact e
  · rintro i t hi rfl
    have kw := hv_w_le H.ok (show i < 7 by omega)
    have kwt := hv_w_tot (h := h) (show i < 7 by omega)
    have km : s * hv_tot h ≤ 10 * 2 ^ 59 := Nat.mul_le_mul hs (by omega)
    refine .inl ⟨_, ?_, rfl⟩
    show b_M_punished_8 _ _ (hI i) τ = _
    unfold b_M_punished_8
    rw [T.m.C, if_neg (hI_nle (by omega) (by omega) hi), if_pos (hI_ix (show i < 7 by omega) (by decide)), hI_clamp (by omega), w i (by omega), hI_long (by omega), tt, show (10 : Int64) = hL 10 from rfl, hL_mul, hL_mul]
    have z0 : (hL (hv_tot h) ≤ 0) = (hv_tot h = 0) := propext ((hL_le (m := 0) (by omega) (by decide)).trans (by omega))
    simp only [hv_cmp_neg, hv_cmp_le, z0, hL_lt (show 10 * hv_w h i < 2 ^ 63 by omega) (show s * hv_tot h < 2 ^ 63 by omega), eq_M_punished_51, g_M_punished_51, eq_M_punished_57, g_M_punished_57, eq_M_punished_58, g_M_punished_58, hI_add1]
    by_cases t0 : hv_tot h = 0
    · have w0 : hv_w h i = 0 := by omega
      have m1 : max 1 (hv_tot h) = 1 := by omega
      rw [if_neg (by rw [t0, Nat.mul_zero]; omega)]
      by_cases s0 : s = 0
      · rw [if_pos (show hI s = 0 by rw [s0]; rfl), hv_bits_y (p := fun c => s * max 1 (hv_tot h) ≤ hv_w h c * 10) (by rw [s0, Nat.zero_mul]; exact Nat.zero_le _)]
      · rw [if_neg (hI_ne0 (by omega) s0), if_pos t0, hv_bits_n2 (p := fun c => s * max 1 (hv_tot h) ≤ hv_w h c * 10) (by rw [m1, w0]; omega)]
    · have m1 : max 1 (hv_tot h) = hv_tot h := by omega
      by_cases q : s * hv_tot h ≤ hv_w h i * 10
      · rw [if_neg (by omega), if_neg t0, hv_bits_y (p := fun c => s * max 1 (hv_tot h) ≤ hv_w h c * 10) (by rw [m1]; exact q)]
        split <;> rfl
      · rw [if_pos (by omega), hv_bits_n2 (p := fun c => s * max 1 (hv_tot h) ≤ hv_w h c * 10) (by rw [m1]; exact q)]
  · rintro t rfl
    refine ⟨_, ?_, rfl⟩
    show b_M_punished_8 _ _ (hI h.C) τ = _
    unfold b_M_punished_8
    rw [T.m.C, if_pos (Int32.le_refl _)]
theorem hv_st_punish : st_punish hv_inv := by
  intro σ hi n
  obtain ⟨h, H⟩ := hi.at
  rcases hv_num n 10 (by decide) 10 rfl with ⟨n1, n2⟩ | ⟨n1, n2, n3, n4⟩ | ⟨x, hx, rfl, n1, n2, n3, n4⟩
  · refine hv_qry hi H 4 (-4) (hv_refX (by decide) ?_) (fun τ T _ => ?_)
    · simp only [eq_X_punish, g_X_punish, n1, Option.bind_some, ↓reduceIte, hv_10, hv_01, hI_00, hI_10, hv_X_r1, hv_X_r2, hv_X_r3, hv_X_r4, hv_X_r6, hv_M_r1, hv_M_r2, hv_M_r3, hv_M_r4, hv_M_r6]
    · refine hv_thr ?_
      rw [eq_M_punish]; unfold g_M_punish
      replace T := T.thrown
      generalize am_sI τ 66 22 0 = τ at T ⊢
      dsimp only
      refine hv_refM (by decide) ?_
      simp only [n1, eq_M_wrongNumber, g_M_wrongNumber, Option.bind_some, ↓reduceIte, hv_10, hv_01, hI_00, hI_10, hv_X_r1, hv_X_r2, hv_X_r3, hv_X_r4, hv_X_r6, hv_M_r1, hv_M_r2, hv_M_r3, hv_M_r4, hv_M_r6, show ¬ ((0 : Int32) ≤ -4) by decide]
  · refine hv_qry hi H 6 (-6) (hv_refX (by decide) ?_) (fun τ T _ => ?_)
    · simp only [eq_X_punish, g_X_punish, n1, n3, Option.bind_some, ↓reduceIte, hv_10, hv_01, hI_00, hI_10, hv_X_r1, hv_X_r2, hv_X_r3, hv_X_r4, hv_X_r6, hv_M_r1, hv_M_r2, hv_M_r3, hv_M_r4, hv_M_r6]
    · refine hv_thr ?_
      rw [eq_M_punish]; unfold g_M_punish
      replace T := T.thrown
      generalize am_sI τ 66 22 0 = τ at T ⊢
      dsimp only
      refine hv_refM (by decide) ?_
      simp only [n1, n3, eq_M_wrongNumber, g_M_wrongNumber, Option.bind_some, ↓reduceIte, hv_10, hv_01, hI_00, hI_10, hv_X_r1, hv_X_r2, hv_X_r3, hv_X_r4, hv_X_r6, hv_M_r1, hv_M_r2, hv_M_r3, hv_M_r4, hv_M_r6, show ¬ ((0 : Int32) ≤ -6) by decide]
  · refine hv_qry hi H 0 (hv_bits (fun c => x * max 1 (hv_tot h) ≤ hv_w h c * 10) h.C) ?_ (fun τ T _ => ?_)
    · obtain ⟨υ, e, s, w, tt⟩ := hv_X_weigh H
      refine ⟨υ, ?_, hv_Sx.of s⟩
      simp only [eq_X_punish, g_X_punish, n1, n3, e, Option.bind_some, ↓reduceIte, hv_10, hv_01, hI_00, hI_10, hv_X_r1, hv_X_r2, hv_X_r3, hv_X_r4, hv_X_r6, hv_M_r1, hv_M_r2, hv_M_r3, hv_M_r4, hv_M_r6]
      rw [(s.at H).d.C, hv_X_punF (s.at H) w tt hx]; rfl
    · refine hv_thr ?_
      rw [eq_M_punish]; unfold g_M_punish
      replace T := T.thrown
      generalize am_sI τ 66 22 0 = τ at T ⊢
      dsimp only
      obtain ⟨υ, e, s, -⟩ := hv_M_punF T hx
      refine ⟨υ, ?_, hv_Sx.of s⟩
      simp only [n1, n3, eq_M_wrongNumber, g_M_wrongNumber, show ((0 : Int32) ≤ 0) = True from eq_true (by decide), e, Option.bind_some, ↓reduceIte, hv_10, hv_01, hI_00, hI_10, hv_X_r1, hv_X_r2, hv_X_r3, hv_X_r4, hv_X_r6, hv_M_r1, hv_M_r2, hv_M_r3, hv_M_r4, hv_M_r6]
/-- bits as a number -/
theorem hv_bits_nat (p : Nat → Prop) [DecidablePred p] : ∀ n, n ≤ 8 → ∃ k, k < 2 ^ n ∧ hv_bits p n = hI k ∧ ∀ i, k.testBit i = decide (i < n ∧ p i) := by
  intro n
  induction n with
  | zero => intro _; exact ⟨0, by decide, by rw [hv_bits_0]; rfl, fun i => by rw [Nat.zero_testBit, decide_eq_false (by omega)]⟩
  | succ n ih =>
    intro hn
    obtain ⟨k, hk, e, t⟩ := ih (by omega)
    have h2 : 2 ^ n ≤ 2 ^ 7 := Nat.pow_le_pow_right (by decide) (by omega)
    have h3 : 2 ^ (n + 1) = 2 ^ n + 2 ^ n := by rw [Nat.pow_succ]; omega
    by_cases q : p n
    · have ho : ∀ r, r < 8 → ∀ k, k < 256 → hI k ||| (1 <<< (hI r &&& 31)) = hI (k ||| 2 ^ r) := by decide +kernel
      refine ⟨k ||| 2 ^ n, ?_, by rw [hv_bits_y q, e, ho n (by omega) k (by omega)], fun i => ?_⟩
      · exact Nat.or_lt_two_pow (by omega) (by omega)
      · rw [Nat.testBit_or, t i, Nat.testBit_two_pow]
        by_cases c : n = i
        · subst c
          rw [decide_eq_true rfl, Bool.or_true, decide_eq_true ⟨by omega, q⟩]
        · rw [decide_eq_false c, Bool.or_false]
          exact decide_eq_decide.mpr ⟨fun x => ⟨by omega, x.2⟩, fun x => ⟨by omega, x.2⟩⟩
    · refine ⟨k, by omega, by rw [hv_bits_n q, e], fun i => ?_⟩
      rw [t i]
      refine decide_eq_decide.mpr ⟨fun x => ⟨by omega, x.2⟩, fun x => ⟨?_, x.2⟩⟩
      have : i ≠ n := fun c => q (c ▸ x.2)
      omega
theorem hI_bit8' : ∀ n, n < 256 → ∀ k, k < 8 → (decide (((hI n >>> (hI k &&& 31)) &&& 1) = 1)) = n.testBit k := by decide +kernel
theorem hI_bit8 {n k : Nat} (hn : n < 256) (hk : k < 8) : (((hI n >>> (hI k &&& 31)) &&& 1) = 1) = (n.testBit k = true) := by rw [← hI_bit8' n hn k hk, decide_eq_true_iff]
/-- what is left of the whole behind those of the set -/
def hv_off (h : hv) (k n : Nat) : Nat := hv_sum n fun i => if k.testBit i then hv_w h i else 0
theorem hv_off_le (h : hv) (k : Nat) {n : Nat} (hn : n ≤ 7) : hv_off h k n ≤ hv_tot h := by
  have k1 : hv_off h k n ≤ hv_sum n (hv_w h) := hv_sum_le fun i _ => by
    show (if k.testBit i = true then hv_w h i else 0) ≤ hv_w h i
    split
    · exact Nat.le_refl _
    · exact Nat.zero_le _
  have k2 : hv_sum n (hv_w h) ≤ hv_tot h := hv_sum_mono hn
  omega
theorem hv_off_C {h : hv} {k : Nat} (z : ∀ i, h.C ≤ i → k.testBit i = false) : ∀ n, h.C ≤ n → hv_off h k n = hv_off h k h.C := by
  intro n
  induction n with
  | zero => intro e; rw [show h.C = 0 by omega]
  | succ n ih =>
    intro e
    by_cases c : h.C = n + 1
    · rw [c]
    · rw [← ih (by omega)]
      unfold hv_off
      rw [hv_sum_succ, z n (by omega)]
      rfl
theorem hv_X_bes {h : hv} {σ : am_St} (H : hv_at h σ) (w : ∀ k, k < 7 → σ.2.1 61 k = hL (hv_w h k)) (tt : σ.2.1 60 3 = hL (hv_tot h)) {k p : Nat} (hk : k < 256) (hp : p < 2) : f_O_shareBeside (hI k) (hI p) σ = some (hv_part (hv_tot h - hv_off h k 7) (hv_tot h) p, σ) := by
  have kt := hv_tot_lt H.ok
  rw [eq_O_shareBeside]; unfold g_O_shareBeside
  rw [tt]
  dsimp only
  unfold f_O_shareBeside_8
  have L := hv_up (body := fun s : Int32 × Int32 × Int64 × Int32 × am_St => b_O_shareBeside_8 s.1 s.2.1 s.2.2.1 s.2.2.2.1 s.2.2.2.2) (P := fun x => x = (hv_part (hv_tot h - hv_off h k 7) (hv_tot h) p, σ)) 7 (fun i t => t = (hI k, hI p, hL (hv_tot h - hv_off h k i), hI i, σ)) 0 (Nat.zero_le _) (hI k, hI p, hL (hv_tot h), 0, σ) rfl ?_ ?_
  · obtain ⟨x, e, rfl⟩ := L; exact e
  · rintro i t hi rfl
    have ko := hv_off_le h k (n := i + 1) (by omega)
    have ks : hv_off h k (i + 1) = hv_off h k i + if k.testBit i then hv_w h i else 0 := by unfold hv_off; rw [hv_sum_succ]
    refine .inl ⟨_, ?_, rfl⟩
    show b_O_shareBeside_8 _ _ _ (hI i) σ = _
    unfold b_O_shareBeside_8
    rw [if_neg (hI_nge7 hi)]
    simp only [hI_bit8 hk (show i < 8 by omega)]
    by_cases q : k.testBit i = true
    · rw [if_pos q] at ks
      rw [if_pos q, if_pos (hI_ix hi (by decide)), hI_clamp (by omega), w i hi, hL_sub (by omega), eq_O_shareBeside_35]
      unfold g_O_shareBeside_35
      dsimp only
      rw [hI_add1, ks, Nat.sub_sub]
    · rw [if_neg q] at ks
      rw [if_neg q, eq_O_shareBeside_35]
      unfold g_O_shareBeside_35
      dsimp only
      rw [hI_add1, show hv_off h k (i + 1) = hv_off h k i from ks]
  · rintro t rfl
    refine ⟨_, ?_, rfl⟩
    show b_O_shareBeside_8 _ _ _ (hI 7) σ = _
    unfold b_O_shareBeside_8
    rw [if_pos (show (7 : Int32) ≤ hI 7 by decide), tt, hv_X_part (by omega) (by omega) hp (by omega)]
    rfl
theorem hv_M_bes {h : hv} {σ : am_St} (H : hv_at h σ) (w : ∀ k, k < 7 → σ.2.1 92 k = hL (hv_w h k)) (tt : σ.2.1 66 43 = hL (hv_tot h)) {k p : Nat} (hk : k < 16) (hp : p < 2) : f_M_missed_65 (hI p) (hI k) (hL (hv_tot h)) 0 σ = some (hv_part (hv_tot h - hv_off h k h.C) (hv_tot h) p, σ) := by
  have kC := H.ok.C
  have kt := hv_tot_lt H.ok
  unfold f_M_missed_65
  have L := hv_up (body := fun s : Int32 × Int32 × Int64 × Int32 × am_St => b_M_missed_65 s.1 s.2.1 s.2.2.1 s.2.2.2.1 s.2.2.2.2) (P := fun x => x = (hv_part (hv_tot h - hv_off h k h.C) (hv_tot h) p, σ)) h.C (fun i t => t = (hI p, hI k, hL (hv_tot h - hv_off h k i), hI i, σ)) 0 (Nat.zero_le _) (hI p, hI k, hL (hv_tot h), 0, σ) rfl ?_ ?_
  · obtain ⟨x, e, rfl⟩ := L; exact e
  · rintro i t hi rfl
    have ko := hv_off_le h k (n := i + 1) (by omega)
    have ks : hv_off h k (i + 1) = hv_off h k i + if k.testBit i then hv_w h i else 0 := by unfold hv_off; rw [hv_sum_succ]
    refine .inl ⟨_, ?_, rfl⟩
    show b_M_missed_65 _ _ _ (hI i) σ = _
    unfold b_M_missed_65
    rw [H.m.C, if_neg (hI_nle (by omega) (by omega) hi), hv_M_has hk (show i < 4 by omega)]
    simp only [Option.bind_some]
    by_cases q : k.testBit i = true
    · rw [if_pos q] at ks
      simp only [q, ↓reduceIte, hv_10]
      rw [if_pos (hI_ix (show i < 7 by omega) (by decide)), hI_clamp (by omega), w i (by omega), eq_M_missed_97]
      unfold g_M_missed_97
      dsimp only
      rw [hI_add1, hL_sub (by omega), ks, Nat.sub_sub]
    · rw [if_neg q] at ks
      simp only [q, Bool.false_eq_true, ↓reduceIte]
      rw [eq_M_missed_97]
      unfold g_M_missed_97
      dsimp only
      rw [hI_add1, show hv_off h k (i + 1) = hv_off h k i from ks, Int64.sub_zero]
  · rintro t rfl
    refine ⟨_, ?_, rfl⟩
    show b_M_missed_65 _ _ _ (hI h.C) σ = _
    unfold b_M_missed_65
    rw [H.m.C, if_pos (Int32.le_refl _), tt, hv_M_part (by omega) (by omega) hp]
    rfl
theorem hv_st_missed : st_missed hv_inv := by
  intro σ hi n w
  obtain ⟨h, H⟩ := hi.at
  have kC := H.ok.C
  rcases hv_num n 10 (by decide) 10 rfl with ⟨n1, n2⟩ | ⟨n1, n2, n3, n4⟩ | ⟨x, hx, rfl, n1, n2, n3, n4⟩
  · refine hv_qry hi H 4 (4000000000000000000 - (-4 : Int32).toInt64) (hv_refX (by decide) ?_) (fun τ T _ => ?_)
    · simp only [eq_X_missed, g_X_missed, eq_X_missed_53, g_X_missed_53, eq_X_refuseLong, g_X_refuseLong, n1, Option.bind_some, ↓reduceIte, hv_10, hv_01, hI_00, hI_10, hv_X_r1, hv_X_r2, hv_X_r3, hv_X_r4, hv_X_r6, hv_M_r1, hv_M_r2, hv_M_r3, hv_M_r4, hv_M_r6]
    · refine hv_thr ?_
      rw [eq_M_missed]; unfold g_M_missed
      replace T := T.thrown
      generalize am_sI τ 66 22 0 = τ at T ⊢
      dsimp only
      refine hv_refM (by decide) ?_
      simp only [eq_M_missed, g_M_missed, eq_M_missed_27, g_M_missed_27, eq_M_missed_32, g_M_missed_32, eq_M_missed_33, g_M_missed_33, eq_M_missed_97, g_M_missed_97, n1, eq_M_wrongNumber, g_M_wrongNumber, Option.bind_some, ↓reduceIte, hv_10, hv_01, hI_00, hI_10, hv_X_r1, hv_X_r2, hv_X_r3, hv_X_r4, hv_X_r6, hv_M_r1, hv_M_r2, hv_M_r3, hv_M_r4, hv_M_r6, show ¬ ((-4 : Int32) = 0) by decide, show ¬ ((0 : Int32) ≤ -4) by decide]
  · refine hv_qry hi H 6 (4000000000000000000 - (-6 : Int32).toInt64) (hv_refX (by decide) ?_) (fun τ T _ => ?_)
    · simp only [eq_X_missed, g_X_missed, eq_X_missed_53, g_X_missed_53, eq_X_refuseLong, g_X_refuseLong, n1, n3, Option.bind_some, ↓reduceIte, hv_10, hv_01, hI_00, hI_10, hv_X_r1, hv_X_r2, hv_X_r3, hv_X_r4, hv_X_r6, hv_M_r1, hv_M_r2, hv_M_r3, hv_M_r4, hv_M_r6]
    · refine hv_thr ?_
      rw [eq_M_missed]; unfold g_M_missed
      replace T := T.thrown
      generalize am_sI τ 66 22 0 = τ at T ⊢
      dsimp only
      refine hv_refM (by decide) ?_
      simp only [eq_M_missed, g_M_missed, eq_M_missed_27, g_M_missed_27, eq_M_missed_32, g_M_missed_32, eq_M_missed_33, g_M_missed_33, eq_M_missed_97, g_M_missed_97, n1, n3, eq_M_wrongNumber, g_M_wrongNumber, Option.bind_some, ↓reduceIte, hv_10, hv_01, hI_00, hI_10, hv_X_r1, hv_X_r2, hv_X_r3, hv_X_r4, hv_X_r6, hv_M_r1, hv_M_r2, hv_M_r3, hv_M_r4, hv_M_r6, show ¬ ((-6 : Int32) = 0) by decide, show ¬ ((0 : Int32) ≤ -6) by decide]
  · rcases hv_rng_cases w (n := 2) (by decide) with c3 | ⟨p, hp, rfl, c3⟩
    · refine hv_qry hi H 2 (4000000000000000000 - (-2 : Int32).toInt64) (hv_refX (by decide) ?_) (fun τ T _ => ?_)
      · simp only [eq_X_missed, g_X_missed, eq_X_missed_53, g_X_missed_53, eq_X_refuseLong, g_X_refuseLong, n1, n3, hv_X_01, c3, Option.bind_some, ↓reduceIte, hv_10, hv_01, hI_00, hI_10, hv_X_r1, hv_X_r2, hv_X_r3, hv_X_r4, hv_X_r6, hv_M_r1, hv_M_r2, hv_M_r3, hv_M_r4, hv_M_r6]
      · refine hv_thr ?_
        rw [eq_M_missed]; unfold g_M_missed
        replace T := T.thrown
        generalize am_sI τ 66 22 0 = τ at T ⊢
        dsimp only
        refine hv_refM (by decide) ?_
        simp only [eq_M_missed, g_M_missed, eq_M_missed_27, g_M_missed_27, eq_M_missed_32, g_M_missed_32, eq_M_missed_33, g_M_missed_33, eq_M_missed_97, g_M_missed_97, n1, n3, hv_M_01, c3, eq_M_wrongNumber, g_M_wrongNumber, Option.bind_some, ↓reduceIte, hv_10, hv_01, hI_00, hI_10, hv_X_r1, hv_X_r2, hv_X_r3, hv_X_r4, hv_X_r6, hv_M_r1, hv_M_r2, hv_M_r3, hv_M_r4, hv_M_r6, show ¬ ((0 : Int32) ≤ -2) by decide]
    · obtain ⟨k, hk, ek, tk⟩ := hv_bits_nat (fun c => x * max 1 (hv_tot h) ≤ hv_w h c * 10) h.C (by omega)
      have k16 : 2 ^ h.C ≤ 2 ^ 4 := Nat.pow_le_pow_right (by decide) kC
      refine hv_qry hi H 0 (hv_part (hv_tot h - hv_off h k h.C) (hv_tot h) p) ?_ (fun τ T _ => ?_)
      · obtain ⟨υ, e, s, w, tt⟩ := hv_X_weigh H
        refine ⟨υ, ?_, hv_Sx.of s⟩
        simp only [eq_X_missed, g_X_missed, eq_X_missed_53, g_X_missed_53, n1, n3, hv_X_01, c3, e, Option.bind_some, ↓reduceIte, hv_10, hv_01, hI_00, hI_10, hv_X_r1, hv_X_r2, hv_X_r3, hv_X_r4, hv_X_r6, hv_M_r1, hv_M_r2, hv_M_r3, hv_M_r4, hv_M_r6]
        rw [(s.at H).d.C, hv_X_punF (s.at H) w tt hx, ek]
        simp only [Option.bind_some]
        rw [hv_X_bes (s.at H) w tt (by omega) hp, hv_off_C (fun i hi => by rw [tk i, decide_eq_false (by omega)]) 7 (by omega)]
        rfl
      · refine hv_thr ?_
        rw [eq_M_missed]; unfold g_M_missed
        replace T := T.thrown
        generalize am_sI τ 66 22 0 = τ at T ⊢
        dsimp only
        obtain ⟨υ, e, s, w, tt⟩ := hv_M_punF T hx
        refine ⟨υ, ?_, hv_Sx.of s⟩
        simp only [n1, n3, hv_M_01, c3, eq_M_wrongNumber, g_M_wrongNumber, eq_M_missed_32, g_M_missed_32, eq_M_missed_33, g_M_missed_33, show ((0 : Int32) ≤ 0) = True from eq_true (by decide), e, Option.bind_some, ↓reduceIte, hv_10, hv_01, hI_00, hI_10, hv_X_r1, hv_X_r2, hv_X_r3, hv_X_r4, hv_X_r6, hv_M_r1, hv_M_r2, hv_M_r3, hv_M_r4, hv_M_r6]
        rw [tt, ek, hv_M_bes (s.at T) w tt (by omega) hp]
