/-! PURE: child; learn -/
def hv_guilt (k : Nat) : Nat := if k = 0 then 5 else if k = 1 then 6 else if k = 2 then 3 else if k = 3 then 3 else if k = 4 then 8 else 6
def hv_plain (k f : Nat) : Nat := if k = 0 then 2 else if k = 1 then 6 else if k = 2 then 1 else if k = 3 then 1 + f / 2 else 3
def hv_slips (h : hv) (c : Nat) : Nat := hv_plain (h.kind c) (h.fig c) - h.skill c / 3
theorem hv_guilt_le (k : Nat) : hv_guilt k ≤ 8 := by
  unfold hv_guilt
  repeat' split
  all_goals decide
theorem hv_plain_le {k f : Nat} (hf : f < 10) : hv_plain k f ≤ 6 := by
  unfold hv_plain
  repeat' split
  all_goals omega
theorem hv_slips_le {h : hv} (ok : hv_ok h) {c : Nat} (hc : c < h.C) : hv_slips h c ≤ 6 := by
  have := hv_plain_le (k := h.kind c) (ok.kind c hc).2.1
  unfold hv_slips
  omega
theorem hv_sl1 : ∀ p, p < 7 → ∀ s, s < 4 → am_mmax 0 (am_mmin 9 (hI p - hI s)) = hI (p - s) := by decide +kernel
theorem hv_sl2 : ∀ p, p < 7 → ∀ s, s < 4 → (if 0 ≤ hI p - hI s then if hI p - hI s ≤ 9 then hI p - hI s else 9 else 0) = hI (p - s) := by decide +kernel
theorem hv_at.guiltX {h : hv} {σ : am_St} (H : hv_at h σ) {c : Nat} (hc : c < h.C) : f_H_guiltOf_1 (hI c) σ = some (hI (hv_guilt (h.kind c)), σ) := by
  have k1 := (H.ok.kind c hc).1
  have kk : h.kind c = 0 ∨ h.kind c = 1 ∨ h.kind c = 2 ∨ h.kind c = 3 ∨ h.kind c = 4 ∨ h.kind c = 5 := by omega
  rw [eq_H_guiltOf_1]; unfold g_H_guiltOf_1
  rw [H.d.natureOf H.ok hc, Option.bind_some]
  dsimp only
  rcases kk with kk | kk | kk | kk | kk | kk <;> simp [kk, eq_nC_guilt_12, g_nC_guilt_12, eq_nC_guilt_13, g_nC_guilt_13, eq_nS_guilt_13, g_nS_guilt_13, eq_nC_guilt_14, g_nC_guilt_14, eq_nL_guilt_14, g_nL_guilt_14, eq_nC_guilt_15, g_nC_guilt_15, eq_nL_guilt_15, g_nL_guilt_15, eq_nC_guilt_16, g_nC_guilt_16, eq_nD_guilt_16, g_nD_guilt_16, eq_nC_guilt_17, g_nC_guilt_17, eq_nS_guilt_17, g_nS_guilt_17, hv_guilt] <;> rfl
theorem hv_at.guiltM {h : hv} {σ : am_St} (H : hv_at h σ) {c : Nat} (hc : c < h.C) : f_M_guiltOf (hI c) σ = some (hI (hv_guilt (h.kind c)), σ) := by
  have kC := H.ok.C
  have k1 := (H.ok.kind c hc).1
  have k2 : σ.1 68 c = hI (h.kind c) := H.m.kind c hc
  have kk : h.kind c = 0 ∨ h.kind c = 1 ∨ h.kind c = 2 ∨ h.kind c = 3 ∨ h.kind c = 4 ∨ h.kind c = 5 := by omega
  rw [eq_M_guiltOf]; unfold g_M_guiltOf
  rw [if_pos (hI_ix (show c < 4 by omega) (by decide)), hI_clamp (by omega), k2]
  rcases kk with kk | kk | kk | kk | kk | kk <;> rw [kk] <;> rfl
theorem hv_at.slipsX {h : hv} {σ : am_St} (H : hv_at h σ) {c : Nat} (hc : c < h.C) : f_H_slipsOf_1 (hI c) σ = some (hI (hv_slips h c), σ) := by
  obtain ⟨k1, k2, k3, k4⟩ := H.ok.kind c hc
  have kk : h.kind c = 0 ∨ h.kind c = 1 ∨ h.kind c = 2 ∨ h.kind c = 3 ∨ h.kind c = 4 ∨ h.kind c = 5 := by omega
  have D1 : σ.1 4 c = hI (h.fig c) := H.d.fig c hc
  have D2 : σ.1 6 c = hI (h.skill c) := H.d.skill c hc
  have E1 : hI (h.skill c) / 3 = hI (h.skill c / 3) := hI_div (m := 3) (by omega) (by decide)
  have E2 : hI (h.fig c) / 2 = hI (h.fig c / 2) := hI_div (m := 2) (by omega) (by decide)
  have A : ∀ p, p < 7 → f_H_slipsOf_1_18 (hI p) (hI (h.skill c)) σ = some (hI (p - h.skill c / 3), σ) := fun p hp => by
    rw [eq_H_slipsOf_1_18]; unfold g_H_slipsOf_1_18
    dsimp only
    rw [E1, hv_sl1 p hp _ (by omega)]
  rw [eq_H_slipsOf_1]; unfold g_H_slipsOf_1
  rw [H.d.natureOf H.ok hc, Option.bind_some]
  dsimp only
  rw [H.d.figureOf H.ok hc, Option.bind_some]
  dsimp only
  have SK := H.d.skillOf H.ok hc
  unfold hv_slips
  rcases kk with kk | kk | kk | kk | kk | kk
  · simp only [kk, eq_nC_slipsBy_12, g_nC_slipsBy_12, SK, D2, Option.bind_some, ↓reduceIte, Nat.add_zero]
    exact A 2 (by decide)
  · simp only [kk, eq_nC_slipsBy_13, g_nC_slipsBy_13, eq_nS_slipsBy_13, g_nS_slipsBy_13, SK, D2, Option.bind_some, ↓reduceIte, Nat.reduceAdd, Nat.reduceEqDiff]
    exact A 6 (by decide)
  · simp only [kk, eq_nC_slipsBy_14, g_nC_slipsBy_14, eq_nL_slipsBy_14, g_nL_slipsBy_14, SK, D2, Option.bind_some, ↓reduceIte, Nat.reduceAdd, Nat.reduceEqDiff]
    exact A 1 (by decide)
  · simp only [kk, eq_nC_slipsBy_15, g_nC_slipsBy_15, eq_nL_slipsBy_15, g_nL_slipsBy_15, eq_nB_slipsBy_15, g_nB_slipsBy_15, SK, D1, D2, E2, Option.bind_some, ↓reduceIte, Nat.reduceAdd, Nat.reduceEqDiff]
    rw [show (2 : Int32) - 1 + hI (h.fig c / 2) = hI (1 + h.fig c / 2) from hI_add 1 _]
    exact A (1 + h.fig c / 2) (by omega)
  · simp only [kk, eq_nC_slipsBy_16, g_nC_slipsBy_16, eq_nD_slipsBy_16, g_nD_slipsBy_16, SK, D2, Option.bind_some, ↓reduceIte, Nat.reduceAdd, Nat.reduceEqDiff]
    exact A 3 (by decide)
  · simp only [kk, eq_nC_slipsBy_17, g_nC_slipsBy_17, eq_nS_slipsBy_17, g_nS_slipsBy_17, eq_nI_slipsBy_17, g_nI_slipsBy_17, SK, D2, Option.bind_some, ↓reduceIte, Nat.reduceAdd, Nat.reduceEqDiff]
    exact A 3 (by decide)
theorem hv_at.slipsM {h : hv} {σ : am_St} (H : hv_at h σ) {c : Nat} (hc : c < h.C) : f_M_slipsOf (hI c) σ = some (hI (hv_slips h c), σ) := by
  have kC := H.ok.C
  obtain ⟨k1, k2, k3, k4⟩ := H.ok.kind c hc
  have kk : h.kind c = 0 ∨ h.kind c = 1 ∨ h.kind c = 2 ∨ h.kind c = 3 ∨ h.kind c = 4 ∨ h.kind c = 5 := by omega
  have D0 : σ.1 68 c = hI (h.kind c) := H.m.kind c hc
  have D1 : σ.1 69 c = hI (h.fig c) := H.m.fig c hc
  have D2 : σ.1 71 c = hI (h.skill c) := H.m.skill c hc
  have E1 : hI (h.skill c) / 3 = hI (h.skill c / 3) := hI_div (m := 3) (by omega) (by decide)
  have E2 : hI (h.fig c) / 2 = hI (h.fig c / 2) := hI_div (m := 2) (by omega) (by decide)
  have ix : am_ix (hI c) 4 = true := hI_ix (by omega) (by decide)
  have P : f_M_plainSlips (hI c) σ = some (hI (hv_plain (h.kind c) (h.fig c)), σ) := by
    rw [eq_M_plainSlips]; unfold g_M_plainSlips
    rw [if_pos ix, hI_clamp (by omega), D0, D1, E2]
    rcases kk with kk | kk | kk | kk | kk | kk
    · rw [kk]; rfl
    · rw [kk]; rfl
    · rw [kk]; rfl
    · rw [kk, if_neg (by decide), if_neg (by decide), if_neg (by decide), if_pos (show hI 3 = 3 from rfl), if_pos ix, show (1 : Int32) + hI (h.fig c / 2) = hI (1 + h.fig c / 2) from hI_add 1 _]; rfl
    · rw [kk]; rfl
    · rw [kk]; rfl
  have q := hv_sl2 _ (show hv_plain (h.kind c) (h.fig c) < 7 by have := hv_plain_le (k := h.kind c) k2; omega) (h.skill c / 3) (by omega)
  rw [eq_M_slipsOf]; unfold g_M_slipsOf
  rw [P, Option.bind_some]
  dsimp only
  rw [if_pos ix, hI_clamp (by omega), D2, E1]
  unfold hv_slips
  rw [← q]
  split
  · split <;> rfl
  · rfl
theorem hv_st_child : st_child hv_inv := by
  intro σ hi a w
  obtain ⟨h, H⟩ := hi.at
  have kC := H.ok.C
  rcases hv_rng_cases a H.C31 with c1 | ⟨c, hc, rfl, c1⟩
  · refine hv_qry hi H 1 (-1) (hv_refX (by decide) ?_) (fun τ T _ => ?_)
    · simp only [eq_X_child, g_X_child, H.hasChild, c1, Option.bind_some, ↓reduceIte, hv_10, hv_01, hI_00, hI_10, hv_X_r1, hv_X_r2, hv_X_r3, hv_X_r4, hv_X_r6, hv_M_r1, hv_M_r2, hv_M_r3, hv_M_r4, hv_M_r6]
    · refine hv_thr ?_
      rw [eq_M_child]; unfold g_M_child
      replace T := T.thrown
      generalize am_sI τ 66 22 0 = τ at T ⊢
      dsimp only
      refine hv_refM (by decide) ?_
      simp only [eq_M_child, g_M_child, eq_M_child_25, g_M_child_25, eq_M_child_40, g_M_child_40, eq_M_child_44, g_M_child_44, T.isChild, c1, Option.bind_some, ↓reduceIte, hv_10, hv_01, hI_00, hI_10, hv_X_r1, hv_X_r2, hv_X_r3, hv_X_r4, hv_X_r6, hv_M_r1, hv_M_r2, hv_M_r3, hv_M_r4, hv_M_r6]
  · rcases hv_rng_cases w (n := 6) (by decide) with c2 | ⟨k, hk, rfl, c2⟩
    · have nw : ∀ k, k < 6 → ¬ w = hI k := fun k hk e => by
        rw [e, hv_rng_lt (by decide) hk] at c2; exact absurd c2 (by decide)
      have w0 : ¬ w = 0 := nw 0 (by decide)
      have w1 : ¬ w = 1 := nw 1 (by decide)
      have w2 : ¬ w = 2 := nw 2 (by decide)
      have w3 : ¬ w = 3 := nw 3 (by decide)
      have w4 : ¬ w = 4 := nw 4 (by decide)
      have w5 : ¬ w = 5 := nw 5 (by decide)
      refine hv_qry hi H 2 (-2) (hv_refX (by decide) ?_) (fun τ T _ => ?_)
      · simp only [eq_X_child, g_X_child, H.hasChild, c1, w0, w1, w2, w3, w4, w5, Option.bind_some, ↓reduceIte, hv_10, hv_01, hI_00, hI_10, hv_X_r1, hv_X_r2, hv_X_r3, hv_X_r4, hv_X_r6, hv_M_r1, hv_M_r2, hv_M_r3, hv_M_r4, hv_M_r6]
      · refine hv_thr ?_
        rw [eq_M_child]; unfold g_M_child
        replace T := T.thrown
        generalize am_sI τ 66 22 0 = τ at T ⊢
        dsimp only
        refine hv_refM (by decide) ?_
        simp only [eq_M_child, g_M_child, eq_M_child_25, g_M_child_25, eq_M_child_40, g_M_child_40, eq_M_child_44, g_M_child_44, T.isChild, hv_M_05, c1, c2, Option.bind_some, ↓reduceIte, hv_10, hv_01, hI_00, hI_10, hv_X_r1, hv_X_r2, hv_X_r3, hv_X_r4, hv_X_r6, hv_M_r1, hv_M_r2, hv_M_r3, hv_M_r4, hv_M_r6]
    · have ix : am_ix (hI c) 4 = true := hI_ix (by omega) (by decide)
      have cl : (hI c).toNatClampNeg = c := hI_clamp (by omega)
      have F : ∀ (v : Int32) (eX : g_X_child (hI c) (hI k) σ = some (v, σ)) (eM : ∀ τ, hv_at h τ → f_M_child_44 (hI c) (hI k) τ = some (v, τ)), ∃ r τ1 τ2, f_X_child (hI c) (hI k) σ = some (r, τ1) ∧ f_M_child (hI c) (hI k) τ1 = some (r, τ2) ∧ hv_inv τ2 := fun v eX eM => by
        refine hv_qry hi H 0 v ⟨σ, by rw [eq_X_child]; exact eX, hv_Sx.same _ _⟩ (fun τ T _ => ?_)
        refine hv_thr ?_
        rw [eq_M_child]; unfold g_M_child
        replace T := T.thrown
        generalize am_sI τ 66 22 0 = τ at T ⊢
        dsimp only
        refine ⟨τ, ?_, hv_Sx.same _ _⟩
        simp only [T.isChild, hv_M_05, c1, c2, Option.bind_some, ↓reduceIte, hv_10, hv_01, hI_00, hI_10, hv_X_r1, hv_X_r2, hv_X_r3, hv_X_r4, hv_X_r6, hv_M_r1, hv_M_r2, hv_M_r3, hv_M_r4, hv_M_r6]
        exact eM τ T
      obtain rfl | rfl | rfl | rfl | rfl | rfl : k = 0 ∨ k = 1 ∨ k = 2 ∨ k = 3 ∨ k = 4 ∨ k = 5 := by omega
      · refine F (hI (h.kind c)) ?_ (fun τ T => ?_)
        · simp only [g_X_child, H.hasChild, c1, Option.bind_some, ↓reduceIte, hv_10, hv_01, hI_00, hI_10, hv_X_r1, hv_X_r2, hv_X_r3, hv_X_r4, hv_X_r6, hv_M_r1, hv_M_r2, hv_M_r3, hv_M_r4, hv_M_r6, H.d.kindOf H.ok hc]; exact congrArg some (congrArg (Prod.mk · σ) (H.d.kind c hc))
        · simp only [eq_M_child_44, g_M_child_44, Option.bind_some, ↓reduceIte, hv_10, hv_01, hI_00, hI_10, hv_X_r1, hv_X_r2, hv_X_r3, hv_X_r4, hv_X_r6, hv_M_r1, hv_M_r2, hv_M_r3, hv_M_r4, hv_M_r6, ix, cl]; rw [T.m.kind c hc]
      · refine F (hI (h.fig c)) ?_ (fun τ T => ?_)
        · simp only [g_X_child, H.hasChild, c1, Option.bind_some, ↓reduceIte, hv_10, hv_01, hI_00, hI_10, hv_X_r1, hv_X_r2, hv_X_r3, hv_X_r4, hv_X_r6, hv_M_r1, hv_M_r2, hv_M_r3, hv_M_r4, hv_M_r6, show (hI 1 = 1) = True from eq_true rfl, H.d.figureOf H.ok hc]; exact congrArg some (congrArg (Prod.mk · σ) (H.d.fig c hc))
        · simp only [eq_M_child_44, g_M_child_44, Option.bind_some, ↓reduceIte, hv_10, hv_01, hI_00, hI_10, hv_X_r1, hv_X_r2, hv_X_r3, hv_X_r4, hv_X_r6, hv_M_r1, hv_M_r2, hv_M_r3, hv_M_r4, hv_M_r6, show (hI 1 = 1) = True from eq_true rfl, ix, cl]; rw [T.m.fig c hc]
      · refine F (hI (h.tie c)) ?_ (fun τ T => ?_)
        · simp only [g_X_child, H.hasChild, c1, Option.bind_some, ↓reduceIte, hv_10, hv_01, hI_00, hI_10, hv_X_r1, hv_X_r2, hv_X_r3, hv_X_r4, hv_X_r6, hv_M_r1, hv_M_r2, hv_M_r3, hv_M_r4, hv_M_r6, show (hI 2 = 0) = False from eq_false (by decide), show (hI 2 = 1) = False from eq_false (by decide), show (hI 2 = 2) = True from eq_true rfl, H.d.tieOf H.ok hc]; exact congrArg some (congrArg (Prod.mk · σ) (H.d.tie c hc))
        · simp only [eq_M_child_44, g_M_child_44, Option.bind_some, ↓reduceIte, hv_10, hv_01, hI_00, hI_10, hv_X_r1, hv_X_r2, hv_X_r3, hv_X_r4, hv_X_r6, hv_M_r1, hv_M_r2, hv_M_r3, hv_M_r4, hv_M_r6, show (hI 2 = 0) = False from eq_false (by decide), show (hI 2 = 1) = False from eq_false (by decide), show (hI 2 = 2) = True from eq_true rfl, ix, cl]; rw [T.m.tie c hc]
      · refine F (hI (h.skill c)) ?_ (fun τ T => ?_)
        · simp only [g_X_child, H.hasChild, c1, Option.bind_some, ↓reduceIte, hv_10, hv_01, hI_00, hI_10, hv_X_r1, hv_X_r2, hv_X_r3, hv_X_r4, hv_X_r6, hv_M_r1, hv_M_r2, hv_M_r3, hv_M_r4, hv_M_r6, show (hI 3 = 0) = False from eq_false (by decide), show (hI 3 = 1) = False from eq_false (by decide), show (hI 3 = 2) = False from eq_false (by decide), show (hI 3 = 3) = True from eq_true rfl, H.d.skillOf H.ok hc]; exact congrArg some (congrArg (Prod.mk · σ) (H.d.skill c hc))
        · simp only [eq_M_child_44, g_M_child_44, Option.bind_some, ↓reduceIte, hv_10, hv_01, hI_00, hI_10, hv_X_r1, hv_X_r2, hv_X_r3, hv_X_r4, hv_X_r6, hv_M_r1, hv_M_r2, hv_M_r3, hv_M_r4, hv_M_r6, show (hI 3 = 0) = False from eq_false (by decide), show (hI 3 = 1) = False from eq_false (by decide), show (hI 3 = 2) = False from eq_false (by decide), show (hI 3 = 3) = True from eq_true rfl, ix, cl]; rw [T.m.skill c hc]
      · refine F (hI (hv_guilt (h.kind c))) ?_ (fun τ T => ?_)
        · simp only [g_X_child, H.hasChild, c1, Option.bind_some, ↓reduceIte, hv_10, hv_01, hI_00, hI_10, hv_X_r1, hv_X_r2, hv_X_r3, hv_X_r4, hv_X_r6, hv_M_r1, hv_M_r2, hv_M_r3, hv_M_r4, hv_M_r6, show (hI 4 = 0) = False from eq_false (by decide), show (hI 4 = 1) = False from eq_false (by decide), show (hI 4 = 2) = False from eq_false (by decide), show (hI 4 = 3) = False from eq_false (by decide), show (hI 4 = 4) = True from eq_true rfl, H.guiltX hc]
        · simp only [eq_M_child_44, g_M_child_44, Option.bind_some, ↓reduceIte, hv_10, hv_01, hI_00, hI_10, hv_X_r1, hv_X_r2, hv_X_r3, hv_X_r4, hv_X_r6, hv_M_r1, hv_M_r2, hv_M_r3, hv_M_r4, hv_M_r6, show (hI 4 = 0) = False from eq_false (by decide), show (hI 4 = 1) = False from eq_false (by decide), show (hI 4 = 2) = False from eq_false (by decide), show (hI 4 = 3) = False from eq_false (by decide), show (hI 4 = 4) = True from eq_true rfl, T.guiltM hc]
      · refine F (hI (hv_slips h c)) ?_ (fun τ T => ?_)
        · simp only [g_X_child, H.hasChild, c1, Option.bind_some, ↓reduceIte, hv_10, hv_01, hI_00, hI_10, hv_X_r1, hv_X_r2, hv_X_r3, hv_X_r4, hv_X_r6, hv_M_r1, hv_M_r2, hv_M_r3, hv_M_r4, hv_M_r6, show (hI 5 = 0) = False from eq_false (by decide), show (hI 5 = 1) = False from eq_false (by decide), show (hI 5 = 2) = False from eq_false (by decide), show (hI 5 = 3) = False from eq_false (by decide), show (hI 5 = 4) = False from eq_false (by decide), show (hI 5 = 5) = True from eq_true rfl, H.slipsX hc]
        · simp only [eq_M_child_44, g_M_child_44, Option.bind_some, ↓reduceIte, hv_10, hv_01, hI_00, hI_10, hv_X_r1, hv_X_r2, hv_X_r3, hv_X_r4, hv_X_r6, hv_M_r1, hv_M_r2, hv_M_r3, hv_M_r4, hv_M_r6, show (hI 5 = 0) = False from eq_false (by decide), show (hI 5 = 1) = False from eq_false (by decide), show (hI 5 = 2) = False from eq_false (by decide), show (hI 5 = 3) = False from eq_false (by decide), show (hI 5 = 4) = False from eq_false (by decide), T.slipsM hc]
