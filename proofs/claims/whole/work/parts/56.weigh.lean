/-! PURE: weights -/
theorem hv_l1 (σ : am_St) (i k : Nat) (x : Int64) : (am_sL σ i k x).2.1 i k = x := by simp [am_sL, am_rL, vp_updL]
theorem hv_l2 (σ : am_St) {i j : Nat} (h : j ≠ i) (k : Nat) (x : Int64) : (am_sL σ i k x).2.1 j = σ.2.1 j := by simp [am_sL, am_rL, h]
theorem hv_l3 (σ : am_St) (i : Nat) {k q : Nat} (h : q ≠ k) (x : Int64) : (am_sL σ i k x).2.1 i q = σ.2.1 i q := by simp [am_sL, am_rL, vp_updL, h]
theorem hv_l0 (σ : am_St) (i k : Nat) (x : Int64) : (am_sL σ i k x).1 = σ.1 := rfl
theorem hv_Sm.setL {σ τ : am_St} (h : hv_Sm σ τ) (i k : Nat) (x : Int64) : hv_Sm σ (am_sL τ i k x) := fun a b e => by rw [hv_l0]; exact h a b e
theorem hv_there_le (h : hv) (c : Nat) : hv_there h c ≤ hv_ways h c := hv_all_mono fun m r e => by
  unfold hv_pin at e
  rw [Bool.and_eq_true] at e
  exact e.1
def hv_com (h : hv) : Nat := hv_prod (hv_ways h) h.C
def hv_w (h : hv) (k : Nat) : Nat := if k < 4 then (if k < h.C then hv_com h / hv_ways h k * hv_there h k * hv_guilt (h.kind k) else 0) else h.chance (k - 4) * hv_com h
def hv_tot (h : hv) : Nat := hv_sum 7 (hv_w h)
theorem hv_com_le {h : hv} (ok : hv_ok h) : hv_com h ≤ 2 ^ 48 := by
  have k1 : hv_com h ≤ 4096 ^ h.C := hv_prod_le _ fun i _ => hv_ways_big ok i
  have k2 : 4096 ^ h.C ≤ 4096 ^ 4 := Nat.pow_le_pow_right (by decide) ok.C
  have k3 : 4096 ^ 4 = 2 ^ 48 := by decide
  omega
theorem hv_w_le {h : hv} (ok : hv_ok h) {k : Nat} (hk : k < 7) : hv_w h k ≤ 2 ^ 55 := by
  have k0 := hv_com_le ok
  unfold hv_w
  split
  · split
    · have k1 : hv_com h / hv_ways h k * hv_there h k ≤ hv_com h / hv_ways h k * hv_ways h k := Nat.mul_le_mul_left _ (hv_there_le h k)
      have k2 := Nat.div_mul_le_self (hv_com h) (hv_ways h k)
      have k3 : hv_com h / hv_ways h k * hv_there h k * hv_guilt (h.kind k) ≤ 2 ^ 48 * 8 := Nat.mul_le_mul (by omega) (hv_guilt_le _)
      omega
    · exact Nat.zero_le _
  · have k1 := ok.chance (k - 4) (by omega)
    have k3 : h.chance (k - 4) * hv_com h ≤ 128 * 2 ^ 48 := Nat.mul_le_mul (by omega) k0
    omega
theorem hv_tot_le {h : hv} (ok : hv_ok h) : ∀ n, n ≤ 7 → hv_sum n (hv_w h) ≤ n * 2 ^ 55 := by
  intro n hn
  rw [← hv_sum_const]
  exact hv_sum_le fun i hi => hv_w_le ok (by omega)
theorem hv_sum_mono {f : Nat → Nat} : ∀ {n m : Nat}, n ≤ m → hv_sum n f ≤ hv_sum m f := by
  intro n m h
  induction m with
  | zero => rw [show n = 0 by omega]; exact Nat.le_refl _
  | succ m ih =>
    by_cases c : n = m + 1
    · rw [c]; exact Nat.le_refl _
    · rw [hv_sum_succ]; have := ih (by omega); omega
theorem hv_w_tot {h : hv} {k : Nat} (hk : k < 7) : hv_w h k ≤ hv_tot h := by
  have k1 : hv_sum 7 (fun i => if i = k then hv_w h i else 0) ≤ hv_sum 7 (hv_w h) := hv_sum_le fun i _ => by
    show (if i = k then hv_w h i else 0) ≤ hv_w h i
    split
    · exact Nat.le_refl _
    · exact Nat.zero_le _
  rw [hv_sum_pick hk] at k1
  exact k1
/-- the common line, n children in -/
def hv_comN (h : hv) (n : Nat) : Nat := hv_prod (fun c => if c < h.C then hv_ways h c else 1) n
theorem hv_comN_C {h : hv} : ∀ n, h.C ≤ n → hv_comN h n = hv_com h := by
  intro n
  induction n with
  | zero =>
    intro e
    unfold hv_comN hv_com
    rw [show h.C = 0 by omega, hv_prod_0, hv_prod_0]
  | succ n ih =>
    intro e
    by_cases c : h.C = n + 1
    · unfold hv_comN hv_com
      rw [c]
      exact hv_prod_congr _ fun i hi => by rw [if_pos hi]
    · have := ih (by omega)
      unfold hv_comN at this ⊢
      rw [hv_prod_s, this, if_neg (by omega), Nat.mul_one]
theorem hv_mmax1 {n : Nat} (h : n < 2 ^ 31) (p : 0 < n) : am_mmax 1 (hI n) = hI n := by
  unfold am_mmax
  by_cases c : 1 < n
  · rw [if_pos (show (1 : Int32) < hI n from (hI_lt (n := 1) (by decide) h).mpr c)]
  · rw [show n = 1 by omega]; rfl
theorem hv_X_102 {h : hv} {σ : am_St} (H : hv_at h σ) (c1 : ∀ c, c < h.C → σ.1 62 c = hI (hv_ways h c) ∧ σ.1 63 c = hI (hv_there h c)) (c2 : ∀ c, h.C ≤ c → c < 4 → σ.1 62 c = 0) (t0 : σ.2.1 60 3 = 0) : ∃ τ, f_O_weigh_1_102 (hL (hv_com h)) 0 σ = some τ ∧ hv_Sm σ τ ∧ (∀ k, k < 7 → τ.2.1 61 k = hL (hv_w h k)) ∧ τ.2.1 60 3 = hL (hv_tot h) := by
  have kC := H.ok.C
  have kc := hv_com_le H.ok
  unfold f_O_weigh_1_102
  refine hv_up 7 (fun i t => ∃ τ, t = (hL (hv_com h), hI i, τ) ∧ hv_Sm σ τ ∧ τ.1 62 = σ.1 62 ∧ τ.1 63 = σ.1 63 ∧ (∀ k, k < i → τ.2.1 61 k = hL (hv_w h k)) ∧ τ.2.1 60 3 = hL (hv_sum i (hv_w h))) 0 (Nat.zero_le _) _ ⟨σ, rfl, hv_Sm.rfl' _, rfl, rfl, fun k hk => absurd hk (Nat.not_lt_zero k), t0⟩ ?_ ?_
  · rintro i t hi ⟨τ, rfl, s, e62, e63, w, tt⟩
    have T := s.at H
    have A : ∀ y, y = hL (hv_w h i) → ∃ t2, f_O_weigh_1_141 (hL (hv_com h)) (hI i) (hI i) y τ = some (.inl t2) ∧ ∃ υ, t2 = (hL (hv_com h), hI (i + 1), υ) ∧ hv_Sm σ υ ∧ υ.1 62 = σ.1 62 ∧ υ.1 63 = σ.1 63 ∧ (∀ k, k < i + 1 → υ.2.1 61 k = hL (hv_w h k)) ∧ υ.2.1 60 3 = hL (hv_sum (i + 1) (hv_w h)) := fun y hy => by
      have ix : am_ix (hI i) 7 = true := hI_ix hi (by decide)
      rw [eq_O_weigh_1_141]; unfold g_O_weigh_1_141
      rw [if_pos ix, hI_clamp (by omega)]
      dsimp only
      rw [if_pos ix, hI_add1]
      refine ⟨_, rfl, _, rfl, (s.setL _ _ _).setL _ _ _, e62, e63, fun k hk => ?_, ?_⟩
      · rw [hv_l2 _ (show (61 : Nat) ≠ 60 by decide)]
        by_cases c : k = i
        · subst c; rw [hv_l1, hy]
        · rw [hv_l3 _ _ c]; exact w k (by omega)
      · rw [hv_l1, hv_l2 _ (show (60 : Nat) ≠ 61 by decide), tt, hv_l1, hy, hL_add, hv_sum_succ]
    refine .inl ?_
    show ∃ t2, b_O_weigh_1_102 (hL (hv_com h)) (hI i) τ = _ ∧ _
    unfold b_O_weigh_1_102
    rw [if_neg (hI_nge7 hi)]
    by_cases c4 : i < 4
    · have ix : am_ix (hI i) 4 = true := hI_ix c4 (by decide)
      rw [if_neg (hI_nge4 c4), eq_O_weightOf_1]
      unfold g_O_weightOf_1
      rw [if_neg (hI_lt0 (by omega)), if_neg (hI_nge4 c4), if_pos ix, hI_clamp (by omega), e62, e63]
      by_cases cC : i < h.C
      · have kw := hv_ways_big H.ok i
        have kt := hv_there_big H.ok i
        have kp : 0 < hv_ways h i := H.so i cC
        have kg := hv_guilt_le (h.kind i)
        rw [(c1 i cC).1, (c1 i cC).2, if_neg (hI_ne0 (by omega) (by omega)), if_pos ix, hI_long (by omega), hI_long (by omega), if_neg (fun e => by rw [hv_L0 (by omega)] at e; omega), if_pos ix, T.guiltX cC]
        simp only [Option.bind_some]
        rw [hI_long (by omega), hL_div (by omega) (by omega), hL_mul, hL_mul]
        exact A _ (by unfold hv_w; rw [if_pos c4, if_pos cC])
      · rw [c2 i (by omega) c4, if_pos rfl]
        simp only [Option.bind_some]
        exact A _ (by unfold hv_w; rw [if_pos c4, if_neg cC]; rfl)
    · have kx := H.ok.chance (i - 4) (by omega)
      have ds : hI i - 4 = hI (i - 4) := hI_sub (m := 4) (by omega)
      have D : τ.1 8 (i - 4) = hI (h.chance (i - 4)) := T.d.chance (i - 4) (by omega)
      rw [if_pos (hI_ge4 (by omega) (by omega)), eq_H_chanceOf_1]
      unfold g_H_chanceOf_1
      rw [if_neg (show ¬ hI i < 4 from hI_nlt (m := 4) (by omega) (by decide) (by omega)), if_neg (hI_nge7 hi), ds, if_pos (hI_ix (by omega) (by decide)), hI_clamp (by omega), D]
      simp only [Option.bind_some]
      rw [hI_long (by omega), hL_mul]
      exact A _ (by unfold hv_w; rw [if_neg c4])
  · rintro t ⟨τ, rfl, s, e62, e63, w, tt⟩
    refine ⟨τ, ?_, s, w, tt⟩
    show b_O_weigh_1_102 (hL (hv_com h)) (hI 7) τ = _
    unfold b_O_weigh_1_102
    rw [if_pos (show (7 : Int32) ≤ hI 7 by decide)]
theorem hv_X_weigh {h : hv} {σ : am_St} (H : hv_at h σ) : ∃ τ, f_O_weigh_1 σ = some τ ∧ hv_Sm σ τ ∧ (∀ k, k < 7 → τ.2.1 61 k = hL (hv_w h k)) ∧ τ.2.1 60 3 = hL (hv_tot h) := by
  have kC := H.ok.C
  have kr := H.ok.dr
  have km := H.ok.dm
  rw [eq_O_weigh_1]; unfold g_O_weigh_1 f_O_weigh_1_5
  refine hv_up 4 (fun i t => ∃ τ, t = (hL (hv_comN h i), hI i, τ) ∧ hv_Sm σ τ ∧ (∀ c, c < i → c < h.C → τ.1 62 c = hI (hv_ways h c) ∧ τ.1 63 c = hI (hv_there h c)) ∧ (∀ c, c < i → h.C ≤ c → τ.1 62 c = 0)) 0 (Nat.zero_le _) _ ⟨σ, rfl, hv_Sm.rfl' _, fun c hc => absurd hc (Nat.not_lt_zero c), fun c hc => absurd hc (Nat.not_lt_zero c)⟩ ?_ ?_
  · rintro i t hi ⟨τ, rfl, s, w1, w2⟩
    have ix : am_ix (hI i) 4 = true := hI_ix hi (by decide)
    have s3 : hv_Sm σ (am_sI (am_sI τ 62 i 0) 63 i 0) := (s.set (i := 62) (k := i) 0 rfl).set (i := 63) (k := i) 0 rfl
    have T := s3.at H
    refine .inl ?_
    show ∃ t2, b_O_weigh_1_5 (hL (hv_comN h i)) (hI i) τ = _ ∧ _
    unfold b_O_weigh_1_5
    rw [if_neg (hI_nge4 hi), if_pos ix, hI_clamp (by omega)]
    dsimp only
    rw [if_pos ix, T.hasChild]
    by_cases cC : i < h.C
    · have kw := hv_ways_big H.ok i
      have kp : 0 < hv_ways h i := H.so i cC
      obtain ⟨υ, e, f, wl⟩ := T.look cC
      have T2 := f.atw T
      rw [hv_rng_lt T.C31 cC]
      simp only [Option.bind_some, hv_10, ↓reduceIte]
      rw [eq_O_weigh_1_36]; unfold g_O_weigh_1_36
      rw [e]
      simp only [Option.bind_some, wl.wu.all H.ok]
      rw [if_pos ix, hI_clamp (by omega)]
      have s4 : hv_Sm σ (am_sI υ 62 i (hI (hv_ways h i))) := (s3.trans f.pwSm).set (i := 62) (k := i) _ rfl
      have T3 := s4.at H
      have wl2 : hv_wl h (hv_may h i) (am_sI υ 62 i (hI (hv_ways h i))) := hv_wl.mk (hv_wu.mk (wl.wu.wo.keep fun j hj => hv_g2 _ (by omega) _ _) (fun m hm r hr => by rw [hv_g2 _ (by decide)]; exact wl.wu.up m hm r hr)) (fun m hm r hr => by rw [hv_g2 _ (by decide)]; exact wl.on m hm r hr)
      rw [eq_O_weigh_1_54]; unfold g_O_weigh_1_54
      show ∃ t2, ((f_W_through ((am_sI υ 62 i (hI (hv_ways h i))).1 1 4) ((am_sI υ 62 i (hI (hv_ways h i))).1 1 3) (am_sI υ 62 i (hI (hv_ways h i)))).bind _) = _ ∧ _
      rw [wl2.there T3]
      simp only [Option.bind_some]
      rw [if_pos ix, hI_clamp (by omega), eq_O_weigh_1_73]
      unfold g_O_weigh_1_73
      rw [if_pos ix, hI_clamp (by omega), hv_g2 _ (show (62 : Nat) ≠ 63 by decide), hv_g1, hv_mmax1 (by omega) kp, hI_long (by omega), hL_mul]
      dsimp only
      rw [hI_add1]
      refine ⟨_, rfl, _, by unfold hv_comN; rw [hv_prod_s, if_pos cC], s4.set (i := 63) (k := i) _ rfl, fun c hc hC => ?_, fun c hc hC => ?_⟩
      · by_cases q : c = i
        · subst q
          rw [hv_g2 _ (show (62 : Nat) ≠ 63 by decide), hv_g1, hv_g1]; exact ⟨rfl, rfl⟩
        · rw [hv_g2 _ (show (62 : Nat) ≠ 63 by decide), hv_g3 _ _ q, hv_g3 _ _ q, hv_g2 _ (show (63 : Nat) ≠ 62 by decide), f.2 62 rfl, f.2 63 rfl, hv_g2 _ (show (62 : Nat) ≠ 63 by decide), hv_g3 _ _ q, hv_g3 _ _ q, hv_g2 _ (show (63 : Nat) ≠ 62 by decide)]
          exact w1 c (by omega) hC
      · have q : c ≠ i := by omega
        rw [hv_g2 _ (show (62 : Nat) ≠ 63 by decide), hv_g3 _ _ q, f.2 62 rfl, hv_g2 _ (show (62 : Nat) ≠ 63 by decide), hv_g3 _ _ q]
        exact w2 c (by omega) hC
    · have r0 : hv_rng (hI i) h.C = 0 := by
        rcases hv_rng_cases (hI i) T.C31 with e | ⟨k, hk, e, _⟩
        · exact e
        · have := (hI_inj (by omega) (by omega)).mp e; omega
      rw [r0]
      simp only [Option.bind_some, ↓reduceIte]
      rw [eq_O_weigh_1_73]; unfold g_O_weigh_1_73
      rw [if_pos ix, hI_clamp (by omega), hv_g2 _ (show (62 : Nat) ≠ 63 by decide), hv_g1]
      dsimp only
      rw [hI_add1, show am_mmax 1 0 = hI 1 by decide, hI_long (by decide), hL_mul]
      refine ⟨_, rfl, _, by unfold hv_comN; rw [hv_prod_s, if_neg cC], s3, fun c hc hC => ?_, fun c hc hC => ?_⟩
      · have q : c ≠ i := by omega
        rw [hv_g2 _ (show (62 : Nat) ≠ 63 by decide), hv_g3 _ _ q, hv_g3 _ _ q, hv_g2 _ (show (63 : Nat) ≠ 62 by decide)]
        exact w1 c (by omega) hC
      · by_cases q : c = i
        · subst q
          rw [hv_g2 _ (show (62 : Nat) ≠ 63 by decide), hv_g1]
        · rw [hv_g2 _ (show (62 : Nat) ≠ 63 by decide), hv_g3 _ _ q]
          exact w2 c (by omega) hC
  · rintro t ⟨τ, rfl, s, w1, w2⟩
    obtain ⟨υ, e, s2, a, b⟩ := hv_X_102 ((s.setL 60 3 0).at H) (fun c hc => w1 c (by omega) hc) (fun c hc h4 => w2 c h4 hc) (hv_l1 _ _ _ _)
    refine ⟨υ, ?_, (s.setL 60 3 0).trans s2, a, b⟩
    show b_O_weigh_1_5 (hL (hv_comN h 4)) (hI 4) τ = _
    unfold b_O_weigh_1_5
    rw [if_pos (show (4 : Int32) ≤ hI 4 by decide), hv_comN_C 4 kC]
    dsimp only
    rw [e]; rfl
theorem hv_M_34 {h : hv} {σ : am_St} (H : hv_at h σ) (t0 : σ.2.1 66 43 = 0) : ∃ τ, f_M_layWeights_34 (hL (hv_com h)) 0 σ = some τ ∧ hv_Sm σ τ ∧ (∀ k, k < 7 → τ.2.1 92 k = hL (hv_w h k)) ∧ τ.2.1 66 43 = hL (hv_tot h) := by
  have kC := H.ok.C
  have kc := hv_com_le H.ok
  unfold f_M_layWeights_34
  refine hv_up 7 (fun i t => ∃ τ, t = (hL (hv_com h), hI i, τ) ∧ hv_Sm σ τ ∧ (∀ k, k < i → τ.2.1 92 k = hL (hv_w h k)) ∧ τ.2.1 66 43 = hL (hv_sum i (hv_w h))) 0 (Nat.zero_le _) _ ⟨σ, rfl, hv_Sm.rfl' _, fun k hk => absurd hk (Nat.not_lt_zero k), t0⟩ ?_ ?_
  · rintro i t hi ⟨τ, rfl, s, w, tt⟩
    have T := s.at H
    have A : ∀ y υ, y = hL (hv_w h i) → hv_Sm σ υ → υ.2 = τ.2 → ∃ t2, f_M_layWeights_98 (hL (hv_com h)) (hI i) (hI i) y υ = some (.inl t2) ∧ ∃ ω, t2 = (hL (hv_com h), hI (i + 1), ω) ∧ hv_Sm σ ω ∧ (∀ k, k < i + 1 → ω.2.1 92 k = hL (hv_w h k)) ∧ ω.2.1 66 43 = hL (hv_sum (i + 1) (hv_w h)) := fun y υ hy s2 e2 => by
      have ix : am_ix (hI i) 7 = true := hI_ix hi (by decide)
      rw [eq_M_layWeights_98]; unfold g_M_layWeights_98
      rw [if_pos ix, hI_clamp (by omega)]
      dsimp only
      rw [if_pos ix, hI_add1]
      refine ⟨_, rfl, _, rfl, (s2.setL _ _ _).setL _ _ _, fun k hk => ?_, ?_⟩
      · rw [hv_l2 _ (show (92 : Nat) ≠ 66 by decide)]
        by_cases c : k = i
        · subst c; rw [hv_l1, hy]
        · rw [hv_l3 _ _ c, e2]; exact w k (by omega)
      · rw [hv_l1, hv_l2 _ (show (66 : Nat) ≠ 92 by decide), e2, tt, hv_l1, hy, hL_add, hv_sum_succ]
    refine .inl ?_
    show ∃ t2, b_M_layWeights_34 (hL (hv_com h)) (hI i) τ = _ ∧ _
    unfold b_M_layWeights_34
    rw [if_neg (hI_nge7 hi)]
    by_cases c4 : i < 4
    · rw [if_pos (show hI i ≤ 3 from (hI_le (m := 3) (by omega) (by decide)).mpr (by omega)), T.m.C]
      by_cases cC : i < h.C
      · have kw := hv_ways_big H.ok i
        have kt := hv_there_big H.ok i
        have kp : 0 < hv_ways h i := H.so i cC
        have kg := hv_guilt_le (h.kind i)
        obtain ⟨υ, e, f⟩ := T.waysOf cC
        obtain ⟨ω, e2, f2⟩ := (f.atm T).thereOf cC
        rw [if_neg (hI_nle (by omega) (by omega) cC), e]
        simp only [Option.bind_some]
        rw [hI_long (by omega), if_neg (fun q => by rw [hv_L0 (by omega)] at q; omega), e2]
        simp only [Option.bind_some]
        rw [((f.trans f2).atm T).guiltM cC]
        simp only [Option.bind_some]
        rw [eq_M_layWeights_92]; unfold g_M_layWeights_92
        rw [hI_long (by omega), hI_long (by omega), hL_div (by omega) (by omega), hL_mul, hL_mul]
        exact A _ _ (by unfold hv_w; rw [if_pos c4, if_pos cC]) (s.trans (f.trans f2).pmSm) (f.trans f2).1
      · rw [if_pos ((hI_le (by omega) (by omega)).mpr (by omega))]
        exact A _ _ (by unfold hv_w; rw [if_pos c4, if_neg cC]; rfl) s rfl
    · have kx := H.ok.chance (i - 4) (by omega)
      have ds : hI i - 4 = hI (i - 4) := hI_sub (m := 4) (by omega)
      rw [if_neg (show ¬ hI i ≤ 3 from hI_nle (m := 3) (by omega) (by decide) (by omega)), ds, if_pos (hI_ix (by omega) (by decide)), hI_clamp (by omega), T.m.chance (i - 4) (by omega), hI_long (by omega), hL_mul]
      exact A _ _ (by unfold hv_w; rw [if_neg c4, Nat.mul_comm]) s rfl
  · rintro t ⟨τ, rfl, s, w, tt⟩
    refine ⟨τ, ?_, s, w, tt⟩
    show b_M_layWeights_34 (hL (hv_com h)) (hI 7) τ = _
    unfold b_M_layWeights_34
    rw [if_pos (show (7 : Int32) ≤ hI 7 by decide)]
theorem hv_M_weigh {h : hv} {σ : am_St} (H : hv_at h σ) : ∃ τ, f_M_layWeights σ = some τ ∧ hv_Sm σ τ ∧ (∀ k, k < 7 → τ.2.1 92 k = hL (hv_w h k)) ∧ τ.2.1 66 43 = hL (hv_tot h) := by
  have kC := H.ok.C
  rw [eq_M_layWeights]; unfold g_M_layWeights f_M_layWeights_4
  refine hv_up h.C (fun i t => ∃ τ, t = (hL (hv_prod (hv_ways h) i), hI i, τ) ∧ hv_Sm σ τ) 0 (Nat.zero_le _) _ ⟨σ, by rw [hv_prod_0]; rfl, hv_Sm.rfl' _⟩ ?_ ?_
  · rintro i t hi ⟨τ, rfl, s⟩
    have T := s.at H
    have kw := hv_ways_big H.ok i
    obtain ⟨υ, e, f⟩ := T.waysOf hi
    refine .inl ⟨_, ?_, υ, rfl, s.trans f.pmSm⟩
    show b_M_layWeights_4 _ (hI i) τ = _
    unfold b_M_layWeights_4
    rw [T.m.C, if_neg (hI_nle (by omega) (by omega) hi), e]
    simp only [Option.bind_some]
    rw [hI_long (by omega), hL_mul, hI_add1, hv_prod_s]
  · rintro t ⟨τ, rfl, s⟩
    have T := s.at H
    obtain ⟨υ, e, s2, a, b⟩ := hv_M_34 ((s.setL 66 43 0).at H) (hv_l1 _ _ _ _)
    refine ⟨υ, ?_, (s.setL 66 43 0).trans s2, a, b⟩
    show b_M_layWeights_4 (hL (hv_com h)) (hI h.C) τ = _
    unfold b_M_layWeights_4
    rw [T.m.C, if_pos (Int32.le_refl _)]
    dsimp only
    rw [e]; rfl
