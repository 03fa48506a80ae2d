/-! PURE: byLaws, old, ask -/
theorem hv_st_byLaws : st_byLaws hv_inv := by
  intro σ hi a v
  obtain ⟨h, H⟩ := hi.at
  have D1 : σ.1 1 2 = hI h.C := H.d.C
  rcases hv_rng_cases a H.C31 with c1 | ⟨d, hd, rfl, c1⟩
  · refine hv_qry hi H 1 (-1) (hv_refX (by decide) ?_) (fun τ T _ => ?_)
    · simp only [eq_X_byLaws, g_X_byLaws, eq_X_byLaws_50, g_X_byLaws_50, eq_X_byLaws_88, g_X_byLaws_88, H.hasChild, c1, Option.bind_some, ↓reduceIte, hv_10, hv_01, hI_00, hI_10, hv_X_r1, hv_X_r2, hv_X_r3, hv_X_r4, hv_X_r6, hv_M_r1, hv_M_r2, hv_M_r3, hv_M_r4, hv_M_r6]
    · refine hv_thr ?_
      rw [eq_M_byLaws]; unfold g_M_byLaws
      replace T := T.thrown
      generalize am_sI τ 66 22 0 = τ at T ⊢
      dsimp only
      refine hv_refM (by decide) ?_
      simp only [eq_M_byLaws, g_M_byLaws, eq_M_byLaws_24, g_M_byLaws_24, eq_M_byLaws_68, g_M_byLaws_68, T.isChild, c1, Option.bind_some, ↓reduceIte, hv_10, hv_01, hI_00, hI_10, hv_X_r1, hv_X_r2, hv_X_r3, hv_X_r4, hv_X_r6, hv_M_r1, hv_M_r2, hv_M_r3, hv_M_r4, hv_M_r6, show ¬ ((0 : Int32) ≤ -1) by decide]
  · rcases hv_num v 99 (by decide) 99 rfl with ⟨n1, n2⟩ | ⟨n1, n2, n3, n4⟩ | ⟨x, hx, rfl, n1, n2, n3, n4⟩
    · refine hv_qry hi H 4 (-4) (hv_refX (by decide) ?_) (fun τ T _ => ?_)
      · simp only [eq_X_byLaws, g_X_byLaws, eq_X_byLaws_50, g_X_byLaws_50, eq_X_byLaws_88, g_X_byLaws_88, H.hasChild, c1, n1, Option.bind_some, ↓reduceIte, hv_10, hv_01, hI_00, hI_10, hv_X_r1, hv_X_r2, hv_X_r3, hv_X_r4, hv_X_r6, hv_M_r1, hv_M_r2, hv_M_r3, hv_M_r4, hv_M_r6]
      · refine hv_thr ?_
        rw [eq_M_byLaws]; unfold g_M_byLaws
        replace T := T.thrown
        generalize am_sI τ 66 22 0 = τ at T ⊢
        dsimp only
        refine hv_refM (by decide) ?_
        simp only [eq_M_byLaws, g_M_byLaws, eq_M_byLaws_24, g_M_byLaws_24, eq_M_byLaws_68, g_M_byLaws_68, T.isChild, c1, n1, eq_M_wrongNumber, g_M_wrongNumber, Option.bind_some, ↓reduceIte, hv_10, hv_01, hI_00, hI_10, hv_X_r1, hv_X_r2, hv_X_r3, hv_X_r4, hv_X_r6, hv_M_r1, hv_M_r2, hv_M_r3, hv_M_r4, hv_M_r6, show ¬ ((0 : Int32) ≤ -4) by decide]
    · refine hv_qry hi H 6 (-6) (hv_refX (by decide) ?_) (fun τ T _ => ?_)
      · simp only [eq_X_byLaws, g_X_byLaws, eq_X_byLaws_50, g_X_byLaws_50, eq_X_byLaws_88, g_X_byLaws_88, H.hasChild, c1, n1, n3, Option.bind_some, ↓reduceIte, hv_10, hv_01, hI_00, hI_10, hv_X_r1, hv_X_r2, hv_X_r3, hv_X_r4, hv_X_r6, hv_M_r1, hv_M_r2, hv_M_r3, hv_M_r4, hv_M_r6]
      · refine hv_thr ?_
        rw [eq_M_byLaws]; unfold g_M_byLaws
        replace T := T.thrown
        generalize am_sI τ 66 22 0 = τ at T ⊢
        dsimp only
        refine hv_refM (by decide) ?_
        simp only [eq_M_byLaws, g_M_byLaws, eq_M_byLaws_24, g_M_byLaws_24, eq_M_byLaws_68, g_M_byLaws_68, T.isChild, c1, n1, n3, eq_M_wrongNumber, g_M_wrongNumber, Option.bind_some, ↓reduceIte, hv_10, hv_01, hI_00, hI_10, hv_X_r1, hv_X_r2, hv_X_r3, hv_X_r4, hv_X_r6, hv_M_r1, hv_M_r2, hv_M_r3, hv_M_r4, hv_M_r6, show ¬ ((0 : Int32) ≤ -6) by decide]
    · refine hv_qry hi H 0 (hv_bits (fun l => hv_owc l x ≤ hv_dny h d l x) 4) ⟨σ, ?_, hv_Sx.same _ _⟩ (fun τ T _ => ?_)
      · simp only [eq_X_byLaws, g_X_byLaws, eq_X_byLaws_50, g_X_byLaws_50, eq_X_byLaws_88, g_X_byLaws_88, H.hasChild, c1, n1, n3, H.namersOf hd, Option.bind_some, ↓reduceIte, hv_10, hv_01, hI_00, hI_10, hv_X_r1, hv_X_r2, hv_X_r3, hv_X_r4, hv_X_r6, hv_M_r1, hv_M_r2, hv_M_r3, hv_M_r4, hv_M_r6]
        unfold f_X_byLaws_56
        have L := hv_up (body := fun s : Int32 × Int32 × Int32 × Int32 × am_St => b_X_byLaws_56 s.1 s.2.1 s.2.2.1 s.2.2.2.1 s.2.2.2.2) (P := fun y => y = (hv_bits (fun l => hv_owc l x ≤ hv_dny h d l x) 4, σ)) 4 (fun i s => s = (hI x, hI (hv_namers h d h.C), hv_bits (fun l => hv_owc l x ≤ hv_dny h d l x) i, hI i, σ)) 0 (Nat.zero_le _) (hI x, hI (hv_namers h d h.C), 0, 0, σ) (by rw [hv_bits_0]; rfl) ?_ ?_
        · obtain ⟨y, e, rfl⟩ := L; exact e
        · rintro i s hi rfl
          refine .inl ⟨_, ?_, rfl⟩
          show b_X_byLaws_56 _ _ _ (hI i) σ = _
          unfold b_X_byLaws_56
          dsimp only
          rw [if_neg (hI_nge4 hi), D1, hv_X_owns H.ok hd hi (show x < 100 by omega), Option.bind_some]
          dsimp only
          by_cases q : hv_owc i x ≤ hv_dny h d i x
          · rw [if_pos q, if_neg (by decide), hv_bits_y (p := fun l => hv_owc l x ≤ hv_dny h d l x) q, eq_X_byLaws_88]
            unfold g_X_byLaws_88
            dsimp only
            rw [hI_add1]
          · rw [if_neg q, if_pos rfl, hv_bits_n (p := fun l => hv_owc l x ≤ hv_dny h d l x) q, eq_X_byLaws_88]
            unfold g_X_byLaws_88
            dsimp only
            rw [hI_add1]
        · rintro s rfl
          exact ⟨_, rfl, rfl⟩
      · refine hv_thr ?_
        rw [eq_M_byLaws]; unfold g_M_byLaws
        replace T := T.thrown
        generalize am_sI τ 66 22 0 = τ at T ⊢
        dsimp only
        refine ⟨τ, ?_, hv_Sx.same _ _⟩
        simp only [eq_M_byLaws, g_M_byLaws, eq_M_byLaws_24, g_M_byLaws_24, eq_M_byLaws_68, g_M_byLaws_68, T.isChild, c1, n1, n3, eq_M_wrongNumber, g_M_wrongNumber, show (0 : Int32) ≤ 0 by decide, Option.bind_some, ↓reduceIte, hv_10, hv_01, hI_00, hI_10, hv_X_r1, hv_X_r2, hv_X_r3, hv_X_r4, hv_X_r6, hv_M_r1, hv_M_r2, hv_M_r3, hv_M_r4, hv_M_r6]
        unfold f_M_byLaws_41
        have L := hv_up (body := fun s : Int32 × Int32 × Int32 × Int32 × am_St => b_M_byLaws_41 s.1 s.2.1 s.2.2.1 s.2.2.2.1 s.2.2.2.2) (P := fun y => y = (hv_bits (fun l => hv_owc l x ≤ hv_dny h d l x) 4, τ)) 4 (fun i s => s = (hI d, hI x, hv_bits (fun l => hv_owc l x ≤ hv_dny h d l x) i, hI i, τ)) 0 (Nat.zero_le _) (hI d, hI x, 0, 0, τ) (by rw [hv_bits_0]; rfl) ?_ ?_
        · obtain ⟨y, e, rfl⟩ := L; exact e
        · rintro i s hi rfl
          refine .inl ⟨_, ?_, rfl⟩
          show b_M_byLaws_41 _ _ _ (hI i) τ = _
          unfold b_M_byLaws_41
          dsimp only
          rw [if_neg (hI_nge4 hi), hv_M_owns T hd hi (show x < 100 by omega), Option.bind_some]
          dsimp only
          by_cases q : hv_owc i x ≤ hv_dny h d i x
          · rw [if_pos q, if_neg (by decide), hv_bits_y (p := fun l => hv_owc l x ≤ hv_dny h d l x) q, eq_M_byLaws_68]
            unfold g_M_byLaws_68
            dsimp only
            rw [hI_add1]
          · rw [if_neg q, if_pos rfl, hv_bits_n2 (p := fun l => hv_owc l x ≤ hv_dny h d l x) q, eq_M_byLaws_68]
            unfold g_M_byLaws_68
            dsimp only
            rw [hI_add1]
        · rintro s rfl
          exact ⟨_, rfl, rfl⟩
theorem hv_old0 : ∀ d, d < 10 → ∀ a, a < d → am_mmax 0 (hI a - hI d) = 0 := by
  have : ∀ d, d < 10 → ∀ a, a < 10 → a < d → am_mmax 0 (hI a - hI d) = 0 := by decide +kernel
  exact fun d hd a ha => this d hd a (by omega) ha
theorem hv_mmax0 {n : Nat} (h : n < 2 ^ 31) : am_mmax 0 (hI n) = hI n := by
  unfold am_mmax
  by_cases c : 0 < n
  · rw [if_pos (show (0 : Int32) < hI n from (hI_lt (n := 0) (by decide) h).mpr c)]
  · rw [show n = 0 by omega]; rfl
theorem hv_st_old : st_old hv_inv := by
  intro σ hi a m d w
  obtain ⟨h, H⟩ := hi.at
  have R4 : ∀ (hX : f_X_old a m d w σ = f_X_old_13 σ) (hY : ∀ τ, g_M_old a m d w τ = f_M_old_18 (am_sI τ 66 22 0)), ∃ r τ1 τ2, f_X_old a m d w σ = some (r, τ1) ∧ f_M_old a m d w τ1 = some (r, τ2) ∧ hv_inv τ2 := fun hX hY => by
    refine hv_qry hi H 4 (-4) (hv_refX (by decide) ?_) (fun τ T _ => hv_thr (hv_refM (by decide) ?_))
    · rw [hX]; simp only [eq_X_old_13, g_X_old_13, Option.bind_some, ↓reduceIte, hv_10, hv_01, hI_00, hI_10, hv_X_r1, hv_X_r2, hv_X_r3, hv_X_r4, hv_X_r6, hv_M_r1, hv_M_r2, hv_M_r3, hv_M_r4, hv_M_r6]
    · rw [eq_M_old, hY]; simp only [eq_M_old_18, g_M_old_18, Option.bind_some, ↓reduceIte, hv_10, hv_01, hI_00, hI_10, hv_X_r1, hv_X_r2, hv_X_r3, hv_X_r4, hv_X_r6, hv_M_r1, hv_M_r2, hv_M_r3, hv_M_r4, hv_M_r6]
  have R6 : ∀ (hX : f_X_old a m d w σ = f_X_old_39 σ) (hY : ∀ τ, g_M_old a m d w τ = f_M_old_44 (am_sI τ 66 22 0)), ∃ r τ1 τ2, f_X_old a m d w σ = some (r, τ1) ∧ f_M_old a m d w τ1 = some (r, τ2) ∧ hv_inv τ2 := fun hX hY => by
    refine hv_qry hi H 6 (-6) (hv_refX (by decide) ?_) (fun τ T _ => hv_thr (hv_refM (by decide) ?_))
    · rw [hX]; simp only [eq_X_old_39, g_X_old_39, Option.bind_some, ↓reduceIte, hv_10, hv_01, hI_00, hI_10, hv_X_r1, hv_X_r2, hv_X_r3, hv_X_r4, hv_X_r6, hv_M_r1, hv_M_r2, hv_M_r3, hv_M_r4, hv_M_r6]
    · rw [eq_M_old, hY]; simp only [eq_M_old_44, g_M_old_44, Option.bind_some, ↓reduceIte, hv_10, hv_01, hI_00, hI_10, hv_X_r1, hv_X_r2, hv_X_r3, hv_X_r4, hv_X_r6, hv_M_r1, hv_M_r2, hv_M_r3, hv_M_r4, hv_M_r6]
  by_cases c1 : a < 0
  · exact R4 (by rw [eq_X_old]; unfold g_X_old; rw [if_pos c1]) (fun τ => by unfold g_M_old; dsimp only; rw [if_pos c1])
  by_cases c2 : m < 1
  · exact R4 (by rw [eq_X_old]; unfold g_X_old; rw [if_neg c1, if_pos c2]) (fun τ => by unfold g_M_old; dsimp only; rw [if_neg c1, if_pos c2])
  by_cases c3 : 0 ≤ d
  rotate_left
  · exact R4 (by rw [eq_X_old]; unfold g_X_old; rw [if_neg c1, if_neg c2, if_neg c3]) (fun τ => by unfold g_M_old; dsimp only; rw [if_neg c1, if_neg c2, if_neg c3])
  by_cases c4 : 999 < a
  · exact R6 (by rw [eq_X_old]; unfold g_X_old; rw [if_neg c1, if_neg c2, if_pos c3, if_pos c4]) (fun τ => by unfold g_M_old; dsimp only; rw [if_neg c1, if_neg c2, if_pos c3, if_pos c4])
  by_cases c5 : 99 < m
  · exact R6 (by rw [eq_X_old]; unfold g_X_old; rw [if_neg c1, if_neg c2, if_pos c3, if_neg c4, if_pos c5]) (fun τ => by unfold g_M_old; dsimp only; rw [if_neg c1, if_neg c2, if_pos c3, if_neg c4, if_pos c5])
  by_cases c6 : d ≤ 9
  rotate_left
  · exact R6 (by rw [eq_X_old]; unfold g_X_old; rw [if_neg c1, if_neg c2, if_pos c3, if_neg c4, if_neg c5, if_neg c6]) (fun τ => by unfold g_M_old; dsimp only; rw [if_neg c1, if_neg c2, if_pos c3, if_neg c4, if_neg c5, if_neg c6])
  rcases hv_rng_cases w (n := 2) (by decide) with c7 | ⟨k, hk, rfl, c7⟩
  · refine hv_qry hi H 2 (-2) (hv_refX (by decide) ?_) (fun τ T _ => ?_)
    · rw [eq_X_old]; unfold g_X_old; rw [if_neg c1, if_neg c2, if_pos c3, if_neg c4, if_neg c5, if_pos c6]
      simp only [hv_X_01, c7, Option.bind_some, ↓reduceIte, hv_10, hv_01, hI_00, hI_10, hv_X_r1, hv_X_r2, hv_X_r3, hv_X_r4, hv_X_r6, hv_M_r1, hv_M_r2, hv_M_r3, hv_M_r4, hv_M_r6]
    · refine hv_thr ?_
      rw [eq_M_old]; unfold g_M_old
      replace T := T.thrown
      generalize am_sI τ 66 22 0 = τ at T ⊢
      dsimp only
      refine hv_refM (by decide) ?_
      rw [if_neg c1, if_neg c2, if_pos c3, if_neg c4, if_neg c5, if_pos c6]
      simp only [hv_M_01, c7, eq_M_old_62, g_M_old_62, Option.bind_some, ↓reduceIte, hv_10, hv_01, hI_00, hI_10, hv_X_r1, hv_X_r2, hv_X_r3, hv_X_r4, hv_X_r6, hv_M_r1, hv_M_r2, hv_M_r3, hv_M_r4, hv_M_r6]
  · obtain ⟨a, ha, rfl⟩ := hI_of (Int32.not_lt.mp c1)
    obtain ⟨d, hd, rfl⟩ := hI_of c3
    have m0 : ¬ m = 0 := fun e => c2 (by rw [e]; decide)
    have ha2 : a ≤ 999 := by
      have : ¬ 999 < a := fun e => c4 ((hI_lt (n := 999) (by decide) ha).mpr e)
      omega
    have hd2 : d ≤ 9 := (hI_le (m := 9) hd (by decide)).mp c6
    have L : am_mmax 0 (hI a - hI d) = if hI d ≤ hI a then hI a - hI d else 0 := by
      by_cases q : d ≤ a
      · rw [if_pos ((hI_le hd ha).mpr q), hI_sub q, hv_mmax0 (by omega)]
      · rw [if_neg (hI_nle hd ha (by omega)), hv_old0 d (by omega) a (by omega)]
    refine hv_qry hi H 0 (if hI k = 0 then (if hI d ≤ hI a then hI a - hI d else 0) / m else (hI a + hI d) / m) ⟨σ, ?_, hv_Sx.same _ _⟩ (fun τ T _ => ?_)
    · rw [eq_X_old]; unfold g_X_old; rw [if_neg c1, if_neg c2, if_pos c3, if_neg c4, if_neg c5, if_pos c6]
      simp only [hv_X_01, c7, eq_X_old_66, g_X_old_66, eq_X_old_78, g_X_old_78, m0, L, Option.bind_some, ↓reduceIte, hv_10, hv_01, hI_00, hI_10, hv_X_r1, hv_X_r2, hv_X_r3, hv_X_r4, hv_X_r6, hv_M_r1, hv_M_r2, hv_M_r3, hv_M_r4, hv_M_r6]
      split <;> rfl
    · refine hv_thr ?_
      rw [eq_M_old]; unfold g_M_old
      replace T := T.thrown
      generalize am_sI τ 66 22 0 = τ at T ⊢
      dsimp only
      refine ⟨τ, ?_, hv_Sx.same _ _⟩
      rw [if_neg c1, if_neg c2, if_pos c3, if_neg c4, if_neg c5, if_pos c6]
      simp only [hv_M_01, c7, eq_M_old_69, g_M_old_69, eq_M_old_81, g_M_old_81, m0, Option.bind_some, ↓reduceIte, hv_10, hv_01, hI_00, hI_10, hv_X_r1, hv_X_r2, hv_X_r3, hv_X_r4, hv_X_r6, hv_M_r1, hv_M_r2, hv_M_r3, hv_M_r4, hv_M_r6]
      split <;> split <;> rfl
theorem hv_st_ask : st_ask hv_inv := by
  intro σ hi p c m w
  obtain ⟨h, H⟩ := hi.at
  have kR := H.ok.R
  rcases hv_rng_cases p H.C31 with c1 | ⟨p, hp, rfl, c1⟩
  · refine hv_qry hi H 1 (-1) (hv_refX (by decide) ?_) (fun τ T _ => ?_)
    · simp only [eq_X_ask, g_X_ask, eq_X_ask_126, g_X_ask_126, eq_X_ask_130, g_X_ask_130, eq_X_ask_131, g_X_ask_131, eq_X_ask_20, g_X_ask_20, eq_X_ask_38, g_X_ask_38, eq_X_ask_90, g_X_ask_90, H.hasChild, c1, Option.bind_some, ↓reduceIte, hv_10, hv_01, hI_00, hI_10, hv_X_r1, hv_X_r2, hv_X_r3, hv_X_r4, hv_X_r6, hv_M_r1, hv_M_r2, hv_M_r3, hv_M_r4, hv_M_r6]
    · refine hv_thr ?_
      rw [eq_M_ask]; unfold g_M_ask
      replace T := T.thrown
      generalize am_sI τ 66 22 0 = τ at T ⊢
      dsimp only
      refine hv_refM (by decide) ?_
      simp only [eq_M_ask, g_M_ask, eq_M_ask_117, g_M_ask_117, eq_M_ask_118, g_M_ask_118, eq_M_ask_21, g_M_ask_21, eq_M_ask_29, g_M_ask_29, eq_M_ask_64, g_M_ask_64, T.isChild, c1, Option.bind_some, ↓reduceIte, hv_10, hv_01, hI_00, hI_10, hv_X_r1, hv_X_r2, hv_X_r3, hv_X_r4, hv_X_r6, hv_M_r1, hv_M_r2, hv_M_r3, hv_M_r4, hv_M_r6]
  rcases hv_rng_cases c H.C31 with c2 | ⟨c, hc, rfl, c2⟩
  · refine hv_qry hi H 1 (-1) (hv_refX (by decide) ?_) (fun τ T _ => ?_)
    · simp only [eq_X_ask, g_X_ask, eq_X_ask_126, g_X_ask_126, eq_X_ask_130, g_X_ask_130, eq_X_ask_131, g_X_ask_131, eq_X_ask_20, g_X_ask_20, eq_X_ask_38, g_X_ask_38, eq_X_ask_90, g_X_ask_90, H.hasChild, hv_X_point H, c1, c2, Option.bind_some, ↓reduceIte, hv_10, hv_01, hI_00, hI_10, hv_X_r1, hv_X_r2, hv_X_r3, hv_X_r4, hv_X_r6, hv_M_r1, hv_M_r2, hv_M_r3, hv_M_r4, hv_M_r6]
    · refine hv_thr ?_
      rw [eq_M_ask]; unfold g_M_ask
      replace T := T.thrown
      generalize am_sI τ 66 22 0 = τ at T ⊢
      dsimp only
      refine hv_refM (by decide) ?_
      simp only [eq_M_ask, g_M_ask, eq_M_ask_117, g_M_ask_117, eq_M_ask_118, g_M_ask_118, eq_M_ask_21, g_M_ask_21, eq_M_ask_29, g_M_ask_29, eq_M_ask_64, g_M_ask_64, T.isChild, c1, c2, Option.bind_some, ↓reduceIte, hv_10, hv_01, hI_00, hI_10, hv_X_r1, hv_X_r2, hv_X_r3, hv_X_r4, hv_X_r6, hv_M_r1, hv_M_r2, hv_M_r3, hv_M_r4, hv_M_r6]
  rcases hv_rng_cases m H.M31 with c3 | ⟨m, hm, rfl, c3⟩
  · refine hv_qry hi H 1 (-1) (hv_refX (by decide) ?_) (fun τ T _ => ?_)
    · simp only [eq_X_ask, g_X_ask, eq_X_ask_126, g_X_ask_126, eq_X_ask_130, g_X_ask_130, eq_X_ask_131, g_X_ask_131, eq_X_ask_20, g_X_ask_20, eq_X_ask_38, g_X_ask_38, eq_X_ask_90, g_X_ask_90, H.hasChild, hv_X_point H, c1, c2, c3, Option.bind_some, ↓reduceIte, hv_10, hv_01, hI_00, hI_10, hv_X_r1, hv_X_r2, hv_X_r3, hv_X_r4, hv_X_r6, hv_M_r1, hv_M_r2, hv_M_r3, hv_M_r4, hv_M_r6]
    · refine hv_thr ?_
      rw [eq_M_ask]; unfold g_M_ask
      replace T := T.thrown
      generalize am_sI τ 66 22 0 = τ at T ⊢
      dsimp only
      refine hv_refM (by decide) ?_
      simp only [eq_M_ask, g_M_ask, eq_M_ask_117, g_M_ask_117, eq_M_ask_118, g_M_ask_118, eq_M_ask_21, g_M_ask_21, eq_M_ask_29, g_M_ask_29, eq_M_ask_64, g_M_ask_64, T.isChild, T.isMinute, c1, c2, c3, Option.bind_some, ↓reduceIte, hv_10, hv_01, hI_00, hI_10, hv_X_r1, hv_X_r2, hv_X_r3, hv_X_r4, hv_X_r6, hv_M_r1, hv_M_r2, hv_M_r3, hv_M_r4, hv_M_r6]
  have X1 := H.d.told H.ok hp hc hm
  rcases hv_rng_cases w (n := 3) (by decide) with c4 | ⟨k, hk, rfl, c4⟩
  · have nw : ∀ k, k < 3 → ¬ w = hI k := fun k hk e => by
      rw [e, hv_rng_lt (by decide) hk] at c4; exact absurd c4 (by decide)
    have w0 : ¬ w = 0 := nw 0 (by decide)
    have w1 : ¬ w = 1 := nw 1 (by decide)
    have w2 : ¬ w = 2 := nw 2 (by decide)
    refine hv_qry hi H 2 (-2) (hv_refX (by decide) ?_) (fun τ T _ => ?_)
    · simp only [eq_X_ask, g_X_ask, eq_X_ask_126, g_X_ask_126, eq_X_ask_130, g_X_ask_130, eq_X_ask_131, g_X_ask_131, eq_X_ask_20, g_X_ask_20, eq_X_ask_38, g_X_ask_38, eq_X_ask_90, g_X_ask_90, H.hasChild, hv_X_point H, c1, c2, c3, X1, w0, w1, w2, Option.bind_some, ↓reduceIte, hv_10, hv_01, hI_00, hI_10, hv_X_r1, hv_X_r2, hv_X_r3, hv_X_r4, hv_X_r6, hv_M_r1, hv_M_r2, hv_M_r3, hv_M_r4, hv_M_r6]
    · refine hv_thr ?_
      rw [eq_M_ask]; unfold g_M_ask
      replace T := T.thrown
      generalize am_sI τ 66 22 0 = τ at T ⊢
      dsimp only
      refine hv_refM (by decide) ?_
      simp only [eq_M_ask, g_M_ask, eq_M_ask_117, g_M_ask_117, eq_M_ask_118, g_M_ask_118, eq_M_ask_21, g_M_ask_21, eq_M_ask_29, g_M_ask_29, eq_M_ask_64, g_M_ask_64, T.isChild, T.isMinute, hv_M_02, c1, c2, c3, c4, Option.bind_some, ↓reduceIte, hv_10, hv_01, hI_00, hI_10, hv_X_r1, hv_X_r2, hv_X_r3, hv_X_r4, hv_X_r6, hv_M_r1, hv_M_r2, hv_M_r3, hv_M_r4, hv_M_r6]
  obtain rfl | rfl | rfl : k = 0 ∨ k = 1 ∨ k = 2 := by omega
  · refine hv_qry hi H 0 (hv_tI (hv_told h p c m)) ⟨σ, ?_, hv_Sx.same _ _⟩ (fun τ T _ => ?_)
    · simp only [eq_X_ask, g_X_ask, eq_X_ask_126, g_X_ask_126, eq_X_ask_130, g_X_ask_130, eq_X_ask_131, g_X_ask_131, eq_X_ask_20, g_X_ask_20, eq_X_ask_38, g_X_ask_38, eq_X_ask_90, g_X_ask_90, H.hasChild, hv_X_point H, c1, c2, c3, X1, Option.bind_some, ↓reduceIte, hv_10, hv_01, hI_00, hI_10, hv_X_r1, hv_X_r2, hv_X_r3, hv_X_r4, hv_X_r6, hv_M_r1, hv_M_r2, hv_M_r3, hv_M_r4, hv_M_r6]
    · refine hv_thr ?_
      rw [eq_M_ask]; unfold g_M_ask
      replace T := T.thrown
      generalize am_sI τ 66 22 0 = τ at T ⊢
      dsimp only
      refine ⟨τ, ?_, hv_Sx.same _ _⟩
      simp only [eq_M_ask, g_M_ask, eq_M_ask_117, g_M_ask_117, eq_M_ask_118, g_M_ask_118, eq_M_ask_21, g_M_ask_21, eq_M_ask_29, g_M_ask_29, eq_M_ask_64, g_M_ask_64, T.isChild, T.isMinute, hv_M_02, c1, c2, c3, c4, T.m.saysOf T.ok hp hc hm, Option.bind_some, ↓reduceIte, hv_10, hv_01, hI_00, hI_10, hv_X_r1, hv_X_r2, hv_X_r3, hv_X_r4, hv_X_r6, hv_M_r1, hv_M_r2, hv_M_r3, hv_M_r4, hv_M_r6]
  · refine hv_qry hi H 0 (if hv_tI (hv_told h p c m) = hI (h.place c m) then 1 else 0) ⟨σ, ?_, hv_Sx.same _ _⟩ (fun τ T _ => ?_)
    · simp only [eq_X_ask, g_X_ask, eq_X_ask_126, g_X_ask_126, eq_X_ask_130, g_X_ask_130, eq_X_ask_131, g_X_ask_131, eq_X_ask_20, g_X_ask_20, eq_X_ask_38, g_X_ask_38, eq_X_ask_90, g_X_ask_90, H.hasChild, hv_X_point H, c1, c2, c3, X1, show (hI 1 = 1) = True from eq_true rfl, H.d.placeOf H.ok hc hm, eq_X_bit, g_X_bit, Option.bind_some, ↓reduceIte, hv_10, hv_01, hI_00, hI_10, hv_X_r1, hv_X_r2, hv_X_r3, hv_X_r4, hv_X_r6, hv_M_r1, hv_M_r2, hv_M_r3, hv_M_r4, hv_M_r6]
      split <;> rfl
    · refine hv_thr ?_
      rw [eq_M_ask]; unfold g_M_ask
      replace T := T.thrown
      generalize am_sI τ 66 22 0 = τ at T ⊢
      dsimp only
      refine ⟨τ, ?_, hv_Sx.same _ _⟩
      simp only [eq_M_ask, g_M_ask, eq_M_ask_117, g_M_ask_117, eq_M_ask_118, g_M_ask_118, eq_M_ask_21, g_M_ask_21, eq_M_ask_29, g_M_ask_29, eq_M_ask_64, g_M_ask_64, T.isChild, T.isMinute, hv_M_02, c1, c2, c3, c4, T.m.saysOf T.ok hp hc hm, show (hI 1 = 1) = True from eq_true rfl, T.m.trulyAt T.ok hc hm, Option.bind_some, ↓reduceIte, hv_10, hv_01, hI_00, hI_10, hv_X_r1, hv_X_r2, hv_X_r3, hv_X_r4, hv_X_r6, hv_M_r1, hv_M_r2, hv_M_r3, hv_M_r4, hv_M_r6]
      split <;> rfl
  · have K20 : (hI 2 = (0 : Int32)) = False := eq_false (by decide)
    have K21 : (hI 2 = (1 : Int32)) = False := eq_false (by decide)
    have K22 : (hI 2 = (2 : Int32)) = True := eq_true rfl
    rcases hv_told_lt H.ok (p := p) hc hm with tl | t9
    · have n9 : (hI (hv_told h p c m) = -9) = False := eq_false (fun e => by
        have : ∀ r, r < 4 → ¬ hI r = -9 := by decide
        exact this _ (by omega) e)
      have n0 : (hI (hv_told h p c m) < 0) = False := eq_false (hI_lt0 (by omega))
      have kb := hv_all_big H.ok (hv_pin (hv_may h c) m (hv_told h p c m))
      rw [hv_tI_lt (by omega)] at X1
      refine hv_qry hi H 0 (if hI (hv_all h (hv_pin (hv_may h c) m (hv_told h p c m))) = 0 then 1 else 0) ?_ (fun τ T _ => ?_)
      · obtain ⟨υ, e, f, wl⟩ := H.look hc
        refine ⟨υ, ?_, hv_Sx.of f.pwSm⟩
        simp only [eq_X_ask, g_X_ask, eq_X_ask_126, g_X_ask_126, eq_X_ask_130, g_X_ask_130, eq_X_ask_131, g_X_ask_131, eq_X_ask_20, g_X_ask_20, eq_X_ask_38, g_X_ask_38, eq_X_ask_90, g_X_ask_90, H.hasChild, hv_X_point H, c1, c2, c3, X1, K20, K21, K22, e, n9, wl.through H.ok hm tl, eq_X_bit, g_X_bit, Option.bind_some, ↓reduceIte, hv_10, hv_01, hI_00, hI_10, hv_X_r1, hv_X_r2, hv_X_r3, hv_X_r4, hv_X_r6, hv_M_r1, hv_M_r2, hv_M_r3, hv_M_r4, hv_M_r6]
        split <;> rfl
      · refine hv_thr ?_
        rw [eq_M_ask]; unfold g_M_ask
        replace T := T.thrown
        generalize am_sI τ 66 22 0 = τ at T ⊢
        dsimp only
        obtain ⟨υ, e, f⟩ := T.waysAt hc hm tl
        refine ⟨υ, ?_, hv_Sx.of f.pmSm⟩
        simp only [eq_M_ask, g_M_ask, eq_M_ask_117, g_M_ask_117, eq_M_ask_118, g_M_ask_118, eq_M_ask_21, g_M_ask_21, eq_M_ask_29, g_M_ask_29, eq_M_ask_64, g_M_ask_64, T.isChild, T.isMinute, hv_M_02, c1, c2, c3, c4, T.m.saysOf T.ok hp hc hm, hv_tI_lt (show hv_told h p c m < 9 by omega), K20, K21, n0, e, Option.bind_some, ↓reduceIte, hv_10, hv_01, hI_00, hI_10, hv_X_r1, hv_X_r2, hv_X_r3, hv_X_r4, hv_X_r6, hv_M_r1, hv_M_r2, hv_M_r3, hv_M_r4, hv_M_r6]
        split <;> rfl
    · rw [t9, hv_tI_9] at X1
      refine hv_qry hi H 0 0 ?_ (fun τ T _ => ?_)
      · obtain ⟨υ, e, f, wl⟩ := H.look hc
        refine ⟨υ, ?_, hv_Sx.of f.pwSm⟩
        simp only [eq_X_ask, g_X_ask, eq_X_ask_126, g_X_ask_126, eq_X_ask_130, g_X_ask_130, eq_X_ask_131, g_X_ask_131, eq_X_ask_20, g_X_ask_20, eq_X_ask_38, g_X_ask_38, eq_X_ask_90, g_X_ask_90, H.hasChild, hv_X_point H, c1, c2, c3, X1, K20, K21, K22, e, eq_X_bit, g_X_bit, Option.bind_some, ↓reduceIte, hv_10, hv_01, hI_00, hI_10, hv_X_r1, hv_X_r2, hv_X_r3, hv_X_r4, hv_X_r6, hv_M_r1, hv_M_r2, hv_M_r3, hv_M_r4, hv_M_r6]
      · refine hv_thr ?_
        rw [eq_M_ask]; unfold g_M_ask
        replace T := T.thrown
        generalize am_sI τ 66 22 0 = τ at T ⊢
        dsimp only
        refine ⟨τ, ?_, hv_Sx.same _ _⟩
        simp only [eq_M_ask, g_M_ask, eq_M_ask_117, g_M_ask_117, eq_M_ask_118, g_M_ask_118, eq_M_ask_21, g_M_ask_21, eq_M_ask_29, g_M_ask_29, eq_M_ask_64, g_M_ask_64, T.isChild, T.isMinute, hv_M_02, c1, c2, c3, c4, T.m.saysOf T.ok hp hc hm, t9, hv_tI_9, K20, K21, show ((-9 : Int32) < 0) = True from eq_true (by decide), Option.bind_some, ↓reduceIte, hv_10, hv_01, hI_00, hI_10, hv_X_r1, hv_X_r2, hv_X_r3, hv_X_r4, hv_X_r6, hv_M_r1, hv_M_r2, hv_M_r3, hv_M_r4, hv_M_r6]
