/-! PURE: learn -/
theorem hv_ln1 : ∀ x, x < 10 → am_mmin 9 (hI x + 1) = hI (min 9 (x + 1)) := by decide +kernel
theorem hv_ln2 : ∀ x, x < 10 → am_mmax 0 (hI x - 1) = hI (x - 1) := by decide +kernel
theorem hv_ln3 : ∀ x, x < 10 → (if 0 ≤ hI x + 1 then if hI x + 1 ≤ 9 then hI x + 1 else 9 else 0) = hI (min 9 (x + 1)) := by decide +kernel
theorem hv_ln4 : ∀ x, x < 10 → (if 0 ≤ hI x + -1 then if hI x + -1 ≤ 9 then hI x + -1 else 9 else 0) = hI (x - 1) := by decide +kernel
/-- the skill s, n years on -/
def hv_year (o : Bool) (s : Nat) : Nat → Nat
  | 0 => s
  | n + 1 => if o then hv_year o s n - 1 else min 9 (hv_year o s n + 1)
theorem hv_year_0 (o : Bool) (s : Nat) : hv_year o s 0 = s := by rw [hv_year]
theorem hv_year_s (o : Bool) (s n : Nat) : hv_year o s (n + 1) = if o then hv_year o s n - 1 else min 9 (hv_year o s n + 1) := by rw [hv_year]
theorem hv_year_lt {o : Bool} {s : Nat} (hs : s < 10) : ∀ n, hv_year o s n < 10 := by
  intro n
  induction n with
  | zero => rw [hv_year_0]; exact hs
  | succ n ih => rw [hv_year_s]; split <;> omega
def hv_ob (h : hv) (d l v : Nat) : Bool := decide (hv_owc l v ≤ hv_dny h d l v)
theorem hv_ob_eq (h : hv) (d l v : Nat) : (if hv_owc l v ≤ hv_dny h d l v then (1 : Int32) else 0) = if hv_ob h d l v then 1 else 0 := by
  unfold hv_ob
  by_cases q : hv_owc l v ≤ hv_dny h d l v
  · rw [if_pos q, if_pos (decide_eq_true q)]
  · rw [if_neg q, if_neg (by rw [decide_eq_false q]; decide)]
theorem hv_X_year {n s : Nat} (hn : n < 100) (hs : s < 10) (o : Bool) (σ : am_St) : f_P_skillBehind (hI n) (hI s) (if o then 1 else 0) σ = some (hI (hv_year o s n), σ) := by
  rw [eq_P_skillBehind]; unfold g_P_skillBehind f_P_skillBehind_5
  have L := hv_up (body := fun s : Int32 × Int32 × Int32 × Int32 × am_St => b_P_skillBehind_5 s.1 s.2.1 s.2.2.1 s.2.2.2.1 s.2.2.2.2) (P := fun x => x = (hI (hv_year o s n), σ)) n (fun i t => t = (hI n, (if o then 1 else 0), hI (hv_year o s i), hI i, σ)) 0 (Nat.zero_le _) (hI n, (if o then 1 else 0), hI s, 0, σ) (by rw [hv_year_0]; rfl) ?_ ?_
  · obtain ⟨x, e, rfl⟩ := L; exact e
  · rintro i t hi rfl
    refine .inl ⟨_, ?_, rfl⟩
    show b_P_skillBehind_5 (hI n) _ _ (hI i) σ = _
    unfold b_P_skillBehind_5
    dsimp only
    have k := hv_year_lt (o := o) hs i
    rw [if_neg (hI_nle (by omega) (by omega) hi), hv_year_s]
    cases o
    · rw [if_neg (show ¬ false = true by decide), if_pos rfl, if_neg (show ¬ false = true by decide), eq_P_skillBehind_33]
      unfold g_P_skillBehind_33
      dsimp only
      rw [hv_ln1 _ k, hI_add1]
    · rw [if_pos (show true = true from rfl), if_neg (by decide), if_pos (show true = true from rfl), eq_P_skillBehind_33]
      unfold g_P_skillBehind_33
      dsimp only
      rw [hv_ln2 _ k, hI_add1]
  · rintro t rfl
    refine ⟨_, ?_, rfl⟩
    show b_P_skillBehind_5 (hI n) _ _ (hI n) σ = _
    unfold b_P_skillBehind_5
    rw [if_pos (Int32.le_refl _)]
theorem hv_M_year {n s c : Nat} (hn : n < 100) (hs : s < 10) (hc : c < 4) (o : Bool) (a : Nat) (x2 x3 : Int32) {σ : am_St} (e : σ.1 93 c = hI s) : ∃ x, f_M_learn_110 (hI n) x2 x3 (hI a) (hI c) (if o then 1 else 0) 0 σ = some x ∧ ∃ τ, x = .inl (hI n, x2, x3, hI (a + hv_year o s n), hI (c + 1), τ) ∧ hv_Sm σ τ := by
  unfold f_M_learn_110
  refine hv_up n (fun i t => ∃ τ, t = (hI n, x2, x3, hI a, hI c, (if o then 1 else 0), hI i, τ) ∧ τ.1 93 c = hI (hv_year o s i) ∧ hv_Sm σ τ) 0 (Nat.zero_le _) _ ⟨σ, rfl, by rw [e, hv_year_0], hv_Sm.rfl' _⟩ ?_ ?_
  · rintro i t hi ⟨τ, rfl, e2, f⟩
    have ix : am_ix (hI c) 4 = true := hI_ix (by omega) (by decide)
    have k := hv_year_lt (o := o) hs i
    have B : ∀ y : Int32, y = hI (hv_year o s (i + 1)) → ∃ s2, f_M_learn_165 (hI n) x2 x3 (hI a) (hI c) (if o then 1 else 0) (hI i) (hI c) y τ = some (.inl s2) ∧ ∃ τ2, s2 = (hI n, x2, x3, hI a, hI c, (if o then 1 else 0), hI (i + 1), τ2) ∧ τ2.1 93 c = hI (hv_year o s (i + 1)) ∧ hv_Sm σ τ2 := fun y hy => by
      rw [eq_M_learn_165]; unfold g_M_learn_165
      rw [if_pos ix, hI_clamp (by omega)]
      dsimp only
      rw [hI_add1]
      exact ⟨_, rfl, _, rfl, by rw [hv_g1, hy], f.set _ rfl⟩
    have B3 : ∀ y0 y1 : Int32, (if 0 ≤ y0 + y1 then if y0 + y1 ≤ 9 then y0 + y1 else 9 else 0) = hI (hv_year o s (i + 1)) → ∃ s2, f_M_learn_133 (hI n) x2 x3 (hI a) (hI c) (if o then 1 else 0) (hI i) y0 y1 τ = some (.inl s2) ∧ ∃ τ2, s2 = (hI n, x2, x3, hI a, hI c, (if o then 1 else 0), hI (i + 1), τ2) ∧ τ2.1 93 c = hI (hv_year o s (i + 1)) ∧ hv_Sm σ τ2 := fun y0 y1 hy => by
      rw [eq_M_learn_133]; unfold g_M_learn_133
      dsimp only
      by_cases q1 : 0 ≤ y0 + y1
      · rw [if_pos q1] at hy ⊢
        by_cases q2 : y0 + y1 ≤ 9
        · rw [if_pos q2] at hy ⊢; exact B _ hy
        · rw [if_neg q2] at hy ⊢; exact B _ hy
      · rw [if_neg q1] at hy ⊢; exact B _ hy
    refine .inl ?_
    show ∃ s2, b_M_learn_110 (hI n) x2 x3 (hI a) (hI c) _ (hI i) τ = _ ∧ _
    unfold b_M_learn_110
    dsimp only
    rw [if_neg (hI_nle (by omega) (by omega) hi), if_pos ix, hI_clamp (by omega), e2]
    cases o
    · rw [if_pos (show (if false = true then (1 : Int32) else 0) = 0 from rfl)]
      exact B3 _ _ (by rw [hv_ln3 _ k, hv_year_s]; rfl)
    · rw [if_neg (show ¬ (if true = true then (1 : Int32) else 0) = 0 by decide)]
      exact B3 _ _ (by rw [hv_ln4 _ k, hv_year_s]; rfl)
  · rintro t ⟨τ, rfl, e2, f⟩
    have ix : am_ix (hI c) 4 = true := hI_ix (by omega) (by decide)
    show ∃ s2, b_M_learn_110 (hI n) x2 x3 (hI a) (hI c) _ (hI n) τ = _ ∧ _
    unfold b_M_learn_110
    dsimp only
    rw [if_pos (Int32.le_refl _), if_pos ix, hI_clamp (by omega), e2, hI_add, hI_add1]
    exact ⟨_, rfl, τ, rfl, f⟩
theorem hv_st_learn : st_learn hv_inv := by
  intro σ hi n l v
  obtain ⟨h, H⟩ := hi.at
  have kC := H.ok.C
  have R4 : ∀ (hX : g_X_learn n l v σ = f_X_learn_9 σ) (hY : ∀ τ, g_M_learn n l v τ = f_M_learn_14 n l v (am_sI τ 66 22 0)), ∃ r τ1 τ2, f_X_learn n l v σ = some (r, τ1) ∧ f_M_learn n l v τ1 = some (r, τ2) ∧ hv_inv τ2 := fun hX hY => by
    refine hv_qry hi H 4 (-4) (hv_refX (by decide) ?_) (fun τ T _ => hv_thr (hv_refM (by decide) ?_))
    · rw [eq_X_learn, hX]; simp only [eq_X_learn_9, g_X_learn_9, Option.bind_some, ↓reduceIte, hv_10, hv_01, hI_00, hI_10, hv_X_r1, hv_X_r2, hv_X_r3, hv_X_r4, hv_X_r6, hv_M_r1, hv_M_r2, hv_M_r3, hv_M_r4, hv_M_r6]
    · rw [eq_M_learn, hY]; simp only [eq_M_learn_14, g_M_learn_14, eq_M_learn_54, g_M_learn_54, show ¬ ((0 : Int32) ≤ -4) by decide, Option.bind_some, ↓reduceIte, hv_10, hv_01, hI_00, hI_10, hv_X_r1, hv_X_r2, hv_X_r3, hv_X_r4, hv_X_r6, hv_M_r1, hv_M_r2, hv_M_r3, hv_M_r4, hv_M_r6]
  have R6 : ∀ (hX : g_X_learn n l v σ = f_X_learn_28 σ) (hY : ∀ τ, g_M_learn n l v τ = f_M_learn_31 n l v (am_sI τ 66 22 0)), ∃ r τ1 τ2, f_X_learn n l v σ = some (r, τ1) ∧ f_M_learn n l v τ1 = some (r, τ2) ∧ hv_inv τ2 := fun hX hY => by
    refine hv_qry hi H 6 (-6) (hv_refX (by decide) ?_) (fun τ T _ => hv_thr (hv_refM (by decide) ?_))
    · rw [eq_X_learn, hX]; simp only [eq_X_learn_28, g_X_learn_28, Option.bind_some, ↓reduceIte, hv_10, hv_01, hI_00, hI_10, hv_X_r1, hv_X_r2, hv_X_r3, hv_X_r4, hv_X_r6, hv_M_r1, hv_M_r2, hv_M_r3, hv_M_r4, hv_M_r6]
    · rw [eq_M_learn, hY]; simp only [eq_M_learn_31, g_M_learn_31, eq_M_learn_54, g_M_learn_54, show ¬ ((0 : Int32) ≤ -6) by decide, Option.bind_some, ↓reduceIte, hv_10, hv_01, hI_00, hI_10, hv_X_r1, hv_X_r2, hv_X_r3, hv_X_r4, hv_X_r6, hv_M_r1, hv_M_r2, hv_M_r3, hv_M_r4, hv_M_r6]
  by_cases c1 : n < 1
  · exact R4 (by unfold g_X_learn; rw [if_pos c1]) (fun τ => by unfold g_M_learn; dsimp only; rw [if_pos c1])
  by_cases c3 : 0 ≤ v
  rotate_left
  · exact R4 (by unfold g_X_learn; rw [if_neg c1, if_neg c3]) (fun τ => by unfold g_M_learn; dsimp only; rw [if_neg c1, if_neg c3])
  by_cases c4 : 20 < n
  · exact R6 (by unfold g_X_learn; rw [if_neg c1, if_pos c3, if_pos c4]) (fun τ => by unfold g_M_learn; dsimp only; rw [if_neg c1, if_pos c3, if_pos c4])
  by_cases c6 : v ≤ 99
  rotate_left
  · exact R6 (by unfold g_X_learn; rw [if_neg c1, if_pos c3, if_neg c4, if_neg c6]) (fun τ => by unfold g_M_learn; dsimp only; rw [if_neg c1, if_pos c3, if_neg c4, if_neg c6])
  rcases hv_rng_cases l (n := 4) (by decide) with c7 | ⟨l, hl, rfl, c7⟩
  · refine hv_qry hi H 2 (-2) (hv_refX (by decide) ?_) (fun τ T _ => ?_)
    · rw [eq_X_learn]; unfold g_X_learn; rw [if_neg c1, if_pos c3, if_neg c4, if_pos c6]
      simp only [hv_X_isLaw, c7, Option.bind_some, ↓reduceIte, hv_10, hv_01, hI_00, hI_10, hv_X_r1, hv_X_r2, hv_X_r3, hv_X_r4, hv_X_r6, hv_M_r1, hv_M_r2, hv_M_r3, hv_M_r4, hv_M_r6]
    · refine hv_thr ?_
      rw [eq_M_learn]; unfold g_M_learn
      replace T := T.thrown
      generalize am_sI τ 66 22 0 = τ at T ⊢
      dsimp only
      refine hv_refM (by decide) ?_
      rw [if_neg c1, if_pos c3, if_neg c4, if_pos c6]
      simp only [hv_M_03, c7, eq_M_learn_48, g_M_learn_48, eq_M_learn_54, g_M_learn_54, show ¬ ((0 : Int32) ≤ -2) by decide, Option.bind_some, ↓reduceIte, hv_10, hv_01, hI_00, hI_10, hv_X_r1, hv_X_r2, hv_X_r3, hv_X_r4, hv_X_r6, hv_M_r1, hv_M_r2, hv_M_r3, hv_M_r4, hv_M_r6]
  · have c1' : 0 ≤ n := by
      have : (1 : Int32) ≤ n := Int32.not_lt.mp c1
      exact Int32.le_trans (by decide) this
    obtain ⟨n, hn, rfl⟩ := hI_of c1'
    obtain ⟨v, hv', rfl⟩ := hI_of c3
    have hn2 : n ≤ 20 := by
      have : ¬ 20 < n := fun e => c4 ((hI_lt (n := 20) (by decide) hn).mpr e)
      omega
    have hv2 : v ≤ 99 := (hI_le (m := 99) hv' (by decide)).mp c6
    refine hv_qry hi H 0 (hI (hv_sum h.C fun c => hv_year (hv_ob h c l v) (h.skill c) n)) ⟨σ, ?_, hv_Sx.same _ _⟩ (fun τ T _ => ?_)
    · rw [eq_X_learn]; unfold g_X_learn; rw [if_neg c1, if_pos c3, if_neg c4, if_pos c6]
      simp only [hv_X_isLaw, c7, Option.bind_some, ↓reduceIte, hv_10, hv_01, hI_00, hI_10, hv_X_r1, hv_X_r2, hv_X_r3, hv_X_r4, hv_X_r6, hv_M_r1, hv_M_r2, hv_M_r3, hv_M_r4, hv_M_r6]
      unfold f_X_learn_55
      have L := hv_up (body := fun s : Int32 × Int32 × Int32 × Int32 × Int32 × am_St => b_X_learn_55 s.1 s.2.1 s.2.2.1 s.2.2.2.1 s.2.2.2.2.1 s.2.2.2.2.2) (P := fun x => x = (hI (hv_sum h.C fun c => hv_year (hv_ob h c l v) (h.skill c) n), σ)) h.C (fun i t => t = (hI n, hI l, hI v, hI (hv_sum i fun c => hv_year (hv_ob h c l v) (h.skill c) n), hI i, σ)) 0 (Nat.zero_le _) (hI n, hI l, hI v, 0, 0, σ) rfl ?_ ?_
      · obtain ⟨x, e, rfl⟩ := L; exact e
      · rintro i t hi rfl
        refine .inl ⟨_, ?_, rfl⟩
        show b_X_learn_55 _ _ _ _ (hI i) σ = _
        unfold b_X_learn_55
        dsimp only
        have D1 : σ.1 1 2 = hI h.C := H.d.C
        have D2 : σ.1 6 i = hI (h.skill i) := H.d.skill i hi
        rw [D1, if_neg (hI_nle (by omega) (by omega) hi), H.namersOf hi, Option.bind_some]
        dsimp only
        rw [D1, hv_X_owns H.ok hi hl (by omega), Option.bind_some]
        dsimp only
        rw [hv_ob_eq, eq_X_learn_90]
        unfold g_X_learn_90
        rw [H.d.skillOf H.ok hi, Option.bind_some]
        dsimp only
        rw [D2, hv_X_year (by omega) (H.ok.kind i hi).2.2.2, Option.bind_some]
        dsimp only
        rw [hI_add, hI_add1, hv_sum_succ]
      · rintro t rfl
        refine ⟨_, ?_, rfl⟩
        show b_X_learn_55 _ _ _ _ (hI h.C) σ = _
        unfold b_X_learn_55
        have D1 : σ.1 1 2 = hI h.C := H.d.C
        rw [D1, if_pos (Int32.le_refl _)]
    · refine hv_thr ?_
      rw [eq_M_learn]; unfold g_M_learn
      replace T := T.thrown
      generalize am_sI τ 66 22 0 = τ at T ⊢
      dsimp only
      rw [if_neg c1, if_pos c3, if_neg c4, if_pos c6]
      simp only [hv_M_03, c7, eq_M_learn_53, g_M_learn_53, eq_M_learn_54, g_M_learn_54, show ((0 : Int32) ≤ 0) = True from eq_true (by decide), Option.bind_some, ↓reduceIte, hv_10, hv_01, hI_00, hI_10, hv_X_r1, hv_X_r2, hv_X_r3, hv_X_r4, hv_X_r6, hv_M_r1, hv_M_r2, hv_M_r3, hv_M_r4, hv_M_r6]
      unfold f_M_learn_74
      have L := hv_up (body := fun s : Int32 × Int32 × Int32 × Int32 × Int32 × am_St => b_M_learn_74 s.1 s.2.1 s.2.2.1 s.2.2.2.1 s.2.2.2.2.1 s.2.2.2.2.2) (P := fun x => ∃ υ, x = (hI (hv_sum h.C fun c => hv_year (hv_ob h c l v) (h.skill c) n), υ) ∧ hv_Sm τ υ) h.C (fun i t => ∃ υ, t = (hI n, hI l, hI v, hI (hv_sum i fun c => hv_year (hv_ob h c l v) (h.skill c) n), hI i, υ) ∧ hv_Sm τ υ) 0 (Nat.zero_le _) (hI n, hI l, hI v, 0, 0, τ) ⟨τ, rfl, hv_Sm.rfl' _⟩ ?_ ?_
      · obtain ⟨x, e, υ, rfl, f⟩ := L; exact ⟨υ, e, hv_Sx.of f⟩
      · rintro i t hi ⟨υ, rfl, f⟩
        have T2 := f.at T
        have s2 : hv_Sm τ (am_sI υ 93 i (hI (h.skill i))) := f.set _ rfl
        have T3 := s2.at T
        have D2 : υ.1 71 i = hI (h.skill i) := T2.m.skill i hi
        obtain ⟨x, e, ω, rfl, f3⟩ := hv_M_year (n := n) (s := h.skill i) (c := i) (by omega) (H.ok.kind i hi).2.2.2 (by omega) (hv_ob h i l v) (hv_sum i fun c => hv_year (hv_ob h c l v) (h.skill c) n) (hI l) (hI v) (σ := am_sI υ 93 i (hI (h.skill i))) (hv_g1 _ _ _ _)
        refine .inl ⟨_, ?_, ω, by rw [hv_sum_succ], s2.trans f3⟩
        show b_M_learn_74 _ _ _ _ (hI i) υ = _
        unfold b_M_learn_74
        dsimp only
        have ix : am_ix (hI i) 4 = true := hI_ix (by omega) (by decide)
        rw [T2.m.C, if_neg (hI_nle (by omega) (by omega) hi), if_pos ix, if_pos ix, hI_clamp (by omega), D2, hv_M_owns T3 hi hl (by omega), Option.bind_some]
        dsimp only
        rw [hv_ob_eq, e]
      · rintro t ⟨υ, rfl, f⟩
        refine ⟨_, ?_, υ, rfl, f⟩
        show b_M_learn_74 _ _ _ _ (hI h.C) υ = _
        unfold b_M_learn_74
        rw [(f.at T).m.C, if_pos (Int32.le_refl _)]
