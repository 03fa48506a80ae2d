/-! PURE: the model does a statement -/
/-- only the model's house but its sayings, and its rows for ways -/
def hv_Fq (σ τ : am_St) : Prop := ∀ i j, ¬ (i = 66 ∧ j < 7 ∧ j ≠ 4) → ¬ (67 ≤ i ∧ i ≤ 77) → ¬ (83 ≤ i ∧ i ≤ 85) → τ.1 i j = σ.1 i j
theorem hv_Fq.rfl' (σ : am_St) : hv_Fq σ σ := fun _ _ _ _ _ => rfl
theorem hv_Fq.trans {σ τ υ : am_St} (a : hv_Fq σ τ) (b : hv_Fq τ υ) : hv_Fq σ υ := fun i j h1 h2 h3 => (b i j h1 h2 h3).trans (a i j h1 h2 h3)
theorem hv_Fq.set {σ τ : am_St} (f : hv_Fq σ τ) (a b : Nat) (x : Int32) (e : (a = 66 ∧ b < 7 ∧ b ≠ 4) ∨ (67 ≤ a ∧ a ≤ 77) ∨ (83 ≤ a ∧ a ≤ 85)) : hv_Fq σ (am_sI τ a b x) := fun i j h1 h2 h3 => by
  by_cases c : i = a
  · subst c
    rw [hv_g3 _ _ (show j ≠ b from fun q => by subst q; rcases e with e | e | e; exact h1 e; exact h2 e; exact h3 e)]
    exact f i j h1 h2 h3
  · rw [hv_g2 _ c]; exact f i j h1 h2 h3
theorem hv_Fq.pm {σ τ : am_St} (f : hv_fr hv_pm σ τ) : hv_Fq σ τ := fun i j h1 h2 h3 => by
  rw [f.2 i (by
    rcases Nat.lt_or_ge i 83 with q | q
    · exact hv_pm_lo q
    · exact hv_pm_hi (by omega))]
/-- a statement of the model: its answer and what it leaves -/
def hv_MS (σ : am_St) (X : Option (Int32 × am_St)) (o : Option hv) : Prop := ∃ τ, X = some (if o.isSome then 1 else 0, τ) ∧ hv_Fq σ τ ∧ ∀ g2, o = some g2 → hv_mox g2 τ
theorem hv_MS.no {σ : am_St} {X : Option (Int32 × am_St)} (τ : am_St) (e : X = some (0, τ)) (f : hv_Fq σ τ) : hv_MS σ X none := ⟨τ, e, f, fun _ q => by cases q⟩
theorem hv_MS.yes {σ : am_St} {X : Option (Int32 × am_St)} {g2 : hv} (τ : am_St) (e : X = some (1, τ)) (f : hv_Fq σ τ) (d : hv_mox g2 τ) : hv_MS σ X (some g2) := ⟨τ, e, f, fun _ q => by cases q; exact d⟩
theorem hv_M_rg (lo hi : Nat) (hlo : lo < 100) (hhi : hi < 100) {a : Nat} (ha : a < 10) (σ : am_St) : f_M_in (hI a).toInt64 (hL lo) (hL hi) σ = some (if lo ≤ a ∧ a ≤ hi then 1 else 0, σ) := by
  rw [hv_M_in, hI_long (by omega)]
  have e1 := hL_le (n := lo) (m := a) (by omega) (by omega)
  have e2 := hL_le (n := a) (m := hi) (by omega) (by omega)
  simp only [e1, e2]
theorem hv_Mb {g : hv} {σ : am_St} (d : hv_mox g σ) {a b : Nat} (ha : a < 10) (hb : b < 10) : hv_MS σ (f_M_houseComes (hI a) (hI b) σ) (@ite _ (2 ≤ a ∧ a ≤ 4 ∧ 2 ≤ b ∧ b ≤ 6) (Classical.propDecidable _) (some (hv_bld g a b)) none) := by
  have R1 : f_M_in (hI a).toInt64 2 4 σ = some (if 2 ≤ a ∧ a ≤ 4 then 1 else 0, σ) := hv_M_rg 2 4 (by decide) (by decide) ha σ
  have R2 : f_M_in (hI b).toInt64 2 6 σ = some (if 2 ≤ b ∧ b ≤ 6 then 1 else 0, σ) := hv_M_rg 2 6 (by decide) (by decide) hb σ
  rw [eq_M_houseComes]; unfold g_M_houseComes
  rw [R1]
  simp only [Option.bind_some]
  by_cases q1 : 2 ≤ a ∧ a ≤ 4
  rotate_left
  · rw [if_neg q1, if_pos rfl, if_neg (show ¬ (2 ≤ a ∧ a ≤ 4 ∧ 2 ≤ b ∧ b ≤ 6) from fun e => q1 ⟨e.1, e.2.1⟩)]
    exact hv_MS.no σ rfl (hv_Fq.rfl' _)
  rw [if_pos q1, if_neg (by decide), R2]
  simp only [Option.bind_some]
  by_cases q2 : 2 ≤ b ∧ b ≤ 6
  rotate_left
  · rw [if_neg q2, if_pos rfl, if_neg (show ¬ (2 ≤ a ∧ a ≤ 4 ∧ 2 ≤ b ∧ b ≤ 6) from fun e => q2 e.2.2)]
    exact hv_MS.no σ rfl (hv_Fq.rfl' _)
  rw [if_pos q2, if_neg (by decide), if_pos (show 2 ≤ a ∧ a ≤ 4 ∧ 2 ≤ b ∧ b ≤ 6 from ⟨q1.1, q1.2, q2⟩), eq_M_houseComes_30]
  unfold g_M_houseComes_30
  dsimp only
  rw [eq_M_houseComes_60]
  unfold g_M_houseComes_60
  have f0 : hv_Fq σ (am_sI (am_sI (am_sI (am_sI (am_sI (am_sI σ 66 0 (hI a)) 66 1 (hI b)) 66 2 0) 66 3 0) 66 5 0) 66 6 0) := ((((((hv_Fq.rfl' σ).set 66 0 _ (by omega)).set 66 1 _ (by omega)).set 66 2 _ (by omega)).set 66 3 _ (by omega)).set 66 5 _ (by omega)).set 66 6 _ (by omega)
  generalize hτ : am_sI (am_sI (am_sI (am_sI (am_sI (am_sI σ 66 0 (hI a)) 66 1 (hI b)) 66 2 0) 66 3 0) 66 5 0) 66 6 0 = τ at f0 ⊢
  have L : ∃ x, f_M_houseComes_62 0 τ = some x ∧ ∃ υ, x = (1, υ) ∧ hv_Fq σ υ ∧ (∀ i, i ≠ 67 → υ.1 i = τ.1 i) ∧ ∀ r, r < 4 → υ.1 67 r = 0 := by
    unfold f_M_houseComes_62
    refine hv_up 4 (fun i t => ∃ υ, t = (hI i, υ) ∧ hv_Fq σ υ ∧ (∀ i, i ≠ 67 → υ.1 i = τ.1 i) ∧ ∀ r, r < i → υ.1 67 r = 0) 0 (Nat.zero_le _) _ ⟨τ, rfl, f0, fun _ _ => rfl, fun r hr => absurd hr (Nat.not_lt_zero r)⟩ ?_ ?_
    · rintro i t hi ⟨υ, rfl, f, k1, k2⟩
      refine .inl ⟨(hI (i + 1), am_sI υ 67 i 0), ?_, am_sI υ 67 i 0, rfl, f.set 67 i _ (by omega), fun j hj => by rw [hv_g2 _ hj]; exact k1 j hj, fun r hr => ?_⟩
      · show b_M_houseComes_62 (hI i) υ = _
        unfold b_M_houseComes_62
        rw [if_neg (hI_nge4 hi), if_pos (hI_ix hi (by decide)), hI_clamp (by omega)]
        dsimp only
        rw [hI_add1]
      · by_cases q : r = i
        · subst q; rw [hv_g1]
        · rw [hv_g3 _ _ q]; exact k2 r (by omega)
    · rintro t ⟨υ, rfl, f, k1, k2⟩
      exact ⟨_, rfl, υ, rfl, f, k1, k2⟩
  obtain ⟨x, e, υ, rfl, f, k1, k2⟩ := L
  refine hv_MS.yes υ e f ?_
  have G : ∀ i j, i ≠ 66 → i ≠ 67 → υ.1 i j = σ.1 i j := fun i j h1 h2 => by
    rw [k1 i h2, ← hτ]
    simp only [hv_g2 _ h1]
  have z : ∀ {P : Nat → Prop}, ∀ c, c < (hv_bld g a b).C → P c := fun c hc => absurd hc (Nat.not_lt_zero c)
  have zF : ∀ {P : Nat → Prop}, ∀ c, c < (hv_bld g a b).F → P c := fun c hc => absurd hc (Nat.not_lt_zero c)
  exact hv_mox.mk
    (by show υ.1 66 0 = hI a; rw [k1 66 (by decide), ← hτ]; simp only [hv_g3 _ _ (show (0 : Nat) ≠ 6 by decide), hv_g3 _ _ (show (0 : Nat) ≠ 5 by decide), hv_g3 _ _ (show (0 : Nat) ≠ 3 by decide), hv_g3 _ _ (show (0 : Nat) ≠ 2 by decide), hv_g3 _ _ (show (0 : Nat) ≠ 1 by decide), hv_g1])
    (by show υ.1 66 1 = hI b; rw [k1 66 (by decide), ← hτ]; simp only [hv_g3 _ _ (show (1 : Nat) ≠ 6 by decide), hv_g3 _ _ (show (1 : Nat) ≠ 5 by decide), hv_g3 _ _ (show (1 : Nat) ≠ 3 by decide), hv_g3 _ _ (show (1 : Nat) ≠ 2 by decide), hv_g1])
    (by show υ.1 66 2 = hI 0; rw [k1 66 (by decide), ← hτ]; simp only [hv_g3 _ _ (show (2 : Nat) ≠ 6 by decide), hv_g3 _ _ (show (2 : Nat) ≠ 5 by decide), hv_g3 _ _ (show (2 : Nat) ≠ 3 by decide), hv_g1]; rfl)
    (by show υ.1 66 3 = hI 0; rw [k1 66 (by decide), ← hτ]; simp only [hv_g3 _ _ (show (3 : Nat) ≠ 6 by decide), hv_g3 _ _ (show (3 : Nat) ≠ 5 by decide), hv_g1]; rfl)
    (by show υ.1 66 5 = hI 0; rw [k1 66 (by decide), ← hτ]; simp only [hv_g3 _ _ (show (5 : Nat) ≠ 6 by decide), hv_g1]; rfl)
    (by show υ.1 66 6 = hI 0; rw [k1 66 (by decide), ← hτ]; simp only [hv_g1]; rfl)
    (fun r hr => (k2 r hr).trans rfl)
    z z z z (fun c hc => absurd hc (Nat.not_lt_zero c))
    (fun k hk => (G _ _ (by decide) (by decide)).trans (d.chance k hk))
    zF zF zF zF
theorem hv_Md {g : hv} {σ : am_St} (d : hv_mox g σ) (ok : hv_ok g) {a b : Nat} (ha : a < 10) (hb : b < 10) : hv_MS σ (f_M_deedComes (hI a) (hI b) σ) (@ite _ (a < g.R ∧ b < g.M) (Classical.propDecidable _) (some (hv_deedTo g a b)) none) := by
  have kR := ok.R
  have kM := ok.M
  rw [eq_M_deedComes]; unfold g_M_deedComes
  have N0 : f_M_deedComes_20 (hI a) (hI b) σ = some (0, σ) := by
    rw [eq_M_deedComes_20]; unfold g_M_deedComes_20
    rw [eq_M_deedComes_21]; unfold g_M_deedComes_21
    rw [if_pos rfl]; exact if_pos (by decide)
  rw [d.isRoom ok]
  simp only [Option.bind_some]
  by_cases qa : a < g.R
  rotate_left
  · rw [hv_rng_not (by omega) (by omega) (by omega), if_pos rfl, N0, if_neg (show ¬ (a < g.R ∧ b < g.M) from fun e => qa e.1)]
    exact hv_MS.no σ rfl (hv_Fq.rfl' _)
  rw [hv_rng_lt (by omega) qa, if_neg (by decide), d.isMinute ok]
  simp only [Option.bind_some]
  by_cases qb : b < g.M
  rotate_left
  · rw [hv_rng_not (by omega) (by omega) (by omega), if_pos rfl, N0, if_neg (show ¬ (a < g.R ∧ b < g.M) from fun e => qb e.2)]
    exact hv_MS.no σ rfl (hv_Fq.rfl' _)
  rw [hv_rng_lt (by omega) qb, if_neg (by decide), if_pos (show a < g.R ∧ b < g.M from ⟨qa, qb⟩), eq_M_deedComes_21]
  unfold g_M_deedComes_21
  rw [if_neg (by decide)]
  dsimp only
  rw [if_pos (by decide)]
  refine hv_MS.yes _ rfl (((hv_Fq.rfl' σ).set 66 5 _ (by omega)).set 66 6 _ (by omega)) ?_
  have G : ∀ i j, (i = 66 → j ≠ 5 ∧ j ≠ 6) → (am_sI (am_sI σ 66 5 (hI a)) 66 6 (hI b)).1 i j = σ.1 i j := fun i j e => by
    by_cases c : i = 66
    · subst c; rw [hv_g3 _ _ (e rfl).2, hv_g3 _ _ (e rfl).1]
    · rw [hv_g2 _ c, hv_g2 _ c]
  exact hv_mox.mk (fR := (G _ _ (by omega)).trans d.R) (fM := (G _ _ (by omega)).trans d.M) (fC := (G _ _ (by omega)).trans d.C) (fF := (G _ _ (by omega)).trans d.F) (fdr := by rw [hv_g3 _ _ (by decide), hv_g1]; rfl) (fdm := by rw [hv_g1]; rfl) (fdoor := fun r hr => (G _ _ (by omega)).trans (d.door r hr)) (fkind := fun r hr => (G _ _ (by omega)).trans (d.kind r hr)) (ffig := fun r hr => (G _ _ (by omega)).trans (d.fig r hr)) (ftie := fun r hr => (G _ _ (by omega)).trans (d.tie r hr)) (fskill := fun r hr => (G _ _ (by omega)).trans (d.skill r hr)) (fplace := fun r hr k hk => (G _ _ (by omega)).trans (d.place r hr k hk)) (fchance := fun r hr => (G _ _ (by omega)).trans (d.chance r hr)) (ffc := fun r hr => (G _ _ (by omega)).trans (d.fc r hr)) (ffm := fun r hr => (G _ _ (by omega)).trans (d.fm r hr)) (ffr := fun r hr => (G _ _ (by omega)).trans (d.fr r hr)) (ffi := fun r hr => (G _ _ (by omega)).trans (d.fi r hr))
theorem hv_Mc {g : hv} {σ : am_St} (d : hv_mox g σ) (ok : hv_ok g) {a b c : Nat} (ha : a < 10) (hb : b < 10) (hc : c < 10) : hv_MS σ (f_M_childComes (hI a) (hI b) (hI c) σ) (@ite _ (a < 6 ∧ c < 4 ∧ g.C < 4) (Classical.propDecidable _) (some (hv_addC g a b c)) none) := by
  have kC := ok.C
  have kM := ok.M
  have D : σ.1 66 2 = hI g.C := d.C
  rw [eq_M_childComes]; unfold g_M_childComes
  by_cases qa : a < 6
  rotate_left
  · rw [if_pos (show (5 : Int32) < hI a from (hI_lt (n := 5) (by decide) (by omega)).mpr (by omega)), if_neg (show ¬ (a < 6 ∧ c < 4 ∧ g.C < 4) from fun e => qa e.1)]
    exact hv_MS.no σ rfl (hv_Fq.rfl' _)
  rw [if_neg (show ¬ (5 : Int32) < hI a from hI_nlt (n := 5) (by decide) (by omega) (by omega))]
  by_cases qc : c < 4
  rotate_left
  · rw [if_pos (show (3 : Int32) < hI c from (hI_lt (n := 3) (by decide) (by omega)).mpr (by omega)), if_neg (show ¬ (a < 6 ∧ c < 4 ∧ g.C < 4) from fun e => qc e.2.1)]
    exact hv_MS.no σ rfl (hv_Fq.rfl' _)
  rw [if_neg (show ¬ (3 : Int32) < hI c from hI_nlt (n := 3) (by decide) (by omega) (by omega)), D]
  by_cases qC : g.C < 4
  rotate_left
  · rw [if_pos (show hI g.C = 4 by rw [show g.C = 4 by omega]; rfl), if_neg (show ¬ (a < 6 ∧ c < 4 ∧ g.C < 4) from fun e => qC e.2.2)]
    exact hv_MS.no σ rfl (hv_Fq.rfl' _)
  have ix : am_ix (hI g.C) 4 = true := hI_ix qC (by decide)
  have cl : (hI g.C).toNatClampNeg = g.C := hI_clamp (by omega)
  rw [if_neg (hI_ne4 (by omega) (by omega)), if_pos ix, cl, if_pos (show a < 6 ∧ c < 4 ∧ g.C < 4 from ⟨qa, qc, qC⟩)]
  dsimp only
  rw [hv_g2 _ (show (66 : Nat) ≠ 68 by decide), D, if_pos ix, cl, hv_g2 _ (show (66 : Nat) ≠ 69 by decide), hv_g2 _ (show (66 : Nat) ≠ 68 by decide), D, if_pos ix, cl, eq_M_childComes_50]
  unfold g_M_childComes_50
  rw [hv_g2 _ (show (66 : Nat) ≠ 70 by decide), hv_g2 _ (show (66 : Nat) ≠ 69 by decide), hv_g2 _ (show (66 : Nat) ≠ 68 by decide), D, if_pos ix, cl]
  dsimp only
  have f0 : hv_Fq σ (am_sI (am_sI (am_sI (am_sI σ 68 g.C (hI a)) 69 g.C (hI b)) 70 g.C (hI c)) 71 g.C 0) := ((((hv_Fq.rfl' σ).set 68 _ _ (by omega)).set 69 _ _ (by omega)).set 70 _ _ (by omega)).set 71 _ _ (by omega)
  generalize hτ : am_sI (am_sI (am_sI (am_sI σ 68 g.C (hI a)) 69 g.C (hI b)) 70 g.C (hI c)) 71 g.C 0 = τ at f0 ⊢
  have T2 : τ.1 66 2 = hI g.C := by rw [← hτ]; simp only [hv_g2 _ (show (66 : Nat) ≠ 71 by decide), hv_g2 _ (show (66 : Nat) ≠ 70 by decide), hv_g2 _ (show (66 : Nat) ≠ 69 by decide), hv_g2 _ (show (66 : Nat) ≠ 68 by decide)]; exact D
  have L : ∃ x, f_M_childComes_63 0 τ = some x ∧ ∃ υ, x = (1, am_sI υ 66 2 (hI (g.C + 1))) ∧ hv_Fq σ υ ∧ (∀ i, i ≠ 72 → υ.1 i = τ.1 i) ∧ (∀ m, m < 6 → υ.1 72 (6 * g.C + m) = 0) ∧ ∀ j, j < 6 * g.C → υ.1 72 j = τ.1 72 j := by
    unfold f_M_childComes_63
    refine hv_up 6 (fun i t => ∃ υ, t = (hI i, υ) ∧ hv_Fq σ υ ∧ (∀ i, i ≠ 72 → υ.1 i = τ.1 i) ∧ (∀ m, m < i → υ.1 72 (6 * g.C + m) = 0) ∧ ∀ j, j < 6 * g.C → υ.1 72 j = τ.1 72 j) 0 (Nat.zero_le _) _ ⟨τ, rfl, f0, fun _ _ => rfl, fun r hr => absurd hr (Nat.not_lt_zero r), fun _ _ => rfl⟩ ?_ ?_
    · rintro i t hi ⟨υ, rfl, f, k1, k2, k3⟩
      have e3 : 6 * hI g.C + hI i = hI (6 * g.C + i) := by rw [show (6 : Int32) = hI 6 from rfl, hI_mul, hI_add]
      refine .inl ⟨(hI (i + 1), am_sI υ 72 (6 * g.C + i) 0), ?_, am_sI υ 72 (6 * g.C + i) 0, rfl, f.set 72 _ _ (by omega), fun j hj => by rw [hv_g2 _ hj]; exact k1 j hj, fun r hr => ?_, fun j hj => ?_⟩
      · show b_M_childComes_63 (hI i) υ = _
        unfold b_M_childComes_63
        rw [if_neg (hI_nge6 hi), k1 66 (by decide), T2, e3, if_pos (hI_ix (by omega) (by decide)), hI_clamp (by omega)]
        dsimp only
        rw [hI_add1]
      · by_cases q : r = i
        · subst q; rw [hv_g1]
        · rw [hv_g3 _ _ (by omega)]; exact k2 r (by omega)
      · rw [hv_g3 _ _ (by omega)]; exact k3 j hj
    · rintro t ⟨υ, rfl, f, k1, k2, k3⟩
      refine ⟨(1, am_sI υ 66 2 (hI (g.C + 1))), ?_, υ, rfl, f, k1, k2, k3⟩
      show b_M_childComes_63 (hI 6) υ = _
      unfold b_M_childComes_63
      rw [if_pos (by decide), k1 66 (by decide), T2]
      dsimp only
      rw [hI_add1]
  obtain ⟨x, e, υ, rfl, f, k1, k2, k3⟩ := L
  refine hv_MS.yes _ e (f.set 66 2 _ (by omega)) ?_
  have G : ∀ i j, i ≠ 72 ∧ (i = 66 → j ≠ 2) ∧ (68 ≤ i → i ≤ 71 → j ≠ g.C) → (am_sI υ 66 2 (hI (g.C + 1))).1 i j = σ.1 i j := fun i j ⟨h1, h2, h3⟩ => by
    have S : ∀ (υ : am_St) (a b : Nat) (y : Int32), ¬ (i = a ∧ j = b) → (am_sI υ a b y).1 i j = υ.1 i j := fun υ a b y q => by
      by_cases z : i = a
      · subst z; rw [hv_g3 _ _ (fun w => q ⟨rfl, w⟩)]
      · rw [hv_g2 _ z]
    rw [S _ _ _ _ (by omega), k1 i h1, ← hτ, S _ _ _ _ (by omega), S _ _ _ _ (by omega), S _ _ _ _ (by omega), S _ _ _ _ (by omega)]
  have N : ∀ i c', 68 ≤ i → i ≤ 71 → ∀ (u w : Nat), τ.1 i g.C = hI u → (c' < g.C → σ.1 i c' = hI w) → c' < g.C + 1 → (am_sI υ 66 2 (hI (g.C + 1))).1 i c' = hI (if c' = g.C then u else w) := fun i c' h1 h2 u w e1 e2 h3 => by
    by_cases q : c' = g.C
    · rw [if_pos q, q, hv_g2 _ (by omega), k1 i (by omega)]; exact e1
    · rw [if_neg q, G i c' ⟨by omega, by omega, fun _ _ => q⟩]; exact e2 (by omega)
  exact hv_mox.mk (fR := (G _ _ (by omega)).trans d.R) (fM := (G _ _ (by omega)).trans d.M) (fC := by rw [hv_g1]; rfl) (fF := (G _ _ (by omega)).trans d.F) (fdr := (G _ _ (by omega)).trans d.dr) (fdm := (G _ _ (by omega)).trans d.dm) (fdoor := fun r hr => (G _ _ (by omega)).trans (d.door r hr)) (fkind := fun c' hc' => N 68 c' (by omega) (by omega) a _ (by rw [← hτ]; simp only [hv_g2 _ (show (68 : Nat) ≠ 71 by decide), hv_g2 _ (show (68 : Nat) ≠ 70 by decide), hv_g2 _ (show (68 : Nat) ≠ 69 by decide), hv_g1]) (fun q => d.kind c' q) hc') (ffig := fun c' hc' => N 69 c' (by omega) (by omega) b _ (by rw [← hτ]; simp only [hv_g2 _ (show (69 : Nat) ≠ 71 by decide), hv_g2 _ (show (69 : Nat) ≠ 70 by decide), hv_g1]) (fun q => d.fig c' q) hc') (ftie := fun c' hc' => N 70 c' (by omega) (by omega) c _ (by rw [← hτ]; simp only [hv_g2 _ (show (70 : Nat) ≠ 71 by decide), hv_g1]) (fun q => d.tie c' q) hc') (fskill := fun c' hc' => N 71 c' (by omega) (by omega) 0 _ (by rw [← hτ]; simp only [hv_g1]; rfl) (fun q => d.skill c' q) hc') (fplace := fun c' hc' m hm => by
      show (am_sI υ 66 2 (hI (g.C + 1))).1 72 (6 * c' + m) = hI (if c' = g.C then 0 else g.place c' m)
      have hm' : m < g.M := hm
      have hc'' : c' < g.C + 1 := hc'
      rw [hv_g2 _ (by decide)]
      by_cases q : c' = g.C
      · rw [if_pos q, q]; exact k2 m (by omega)
      · rw [if_neg q, k3 _ (by omega), ← hτ]
        simp only [hv_g2 _ (show (72 : Nat) ≠ 71 by decide), hv_g2 _ (show (72 : Nat) ≠ 70 by decide), hv_g2 _ (show (72 : Nat) ≠ 69 by decide), hv_g2 _ (show (72 : Nat) ≠ 68 by decide)]
        exact d.place c' (by omega) m hm') (fchance := fun r hr => (G _ _ (by omega)).trans (d.chance r hr)) (ffc := fun r hr => (G _ _ (by omega)).trans (d.fc r hr)) (ffm := fun r hr => (G _ _ (by omega)).trans (d.fm r hr)) (ffr := fun r hr => (G _ _ (by omega)).trans (d.fr r hr)) (ffi := fun r hr => (G _ _ (by omega)).trans (d.fi r hr))
theorem hv_Mall {g : hv} {σ : am_St} (d : hv_mox g σ) (ok : hv_ok g) : ∃ τ, f_M_haveAllWays σ = some (@ite _ (hv_some g) (Classical.propDecidable _) 1 0, τ) ∧ hv_fr hv_pm σ τ := by
  have kC := ok.C
  rw [eq_M_haveAllWays]; unfold g_M_haveAllWays f_M_haveAllWays_4
  have L := hv_up (body := fun s : Int32 × Int32 × am_St => b_M_haveAllWays_4 s.1 s.2.1 s.2.2) (P := fun x => ∃ υ, x = (@ite _ (hv_some g) (Classical.propDecidable _) 1 0, υ) ∧ hv_fr hv_pm σ υ) g.C (fun i t => ∃ (υ : am_St) (fl : Bool), t = ((if fl then 1 else 0), hI i, υ) ∧ hv_fr hv_pm σ υ ∧ (fl = true → ∀ c, c < i → 0 < hv_all g (hv_may g c)) ∧ (fl = false → ¬ hv_some g)) 0 (Nat.zero_le _) (1, 0, σ) ⟨σ, true, rfl, hv_fr.rfl' _ _, fun _ c hc => absurd hc (Nat.not_lt_zero c), fun e => (by cases e)⟩ ?_ ?_
  · obtain ⟨x, e, υ, rfl, f⟩ := L; exact ⟨υ, e, f⟩
  · rintro i t hi ⟨υ, fl, rfl, f, k1, k2⟩
    have d3 := f.mox d
    have A : ∀ y ω, f_M_haveAllWays_29 (hI i) y ω = some (.inl (y, hI (i + 1), ω)) := fun y ω => by
      rw [eq_M_haveAllWays_29]; unfold g_M_haveAllWays_29
      dsimp only
      rw [hI_add1]
    cases fl
    · refine .inl ⟨_, ?_, υ, false, rfl, f, fun e => (by cases e), k2⟩
      show b_M_haveAllWays_4 (if false = true then 1 else 0) (hI i) υ = _
      unfold b_M_haveAllWays_4
      rw [d3.C, if_neg (hI_nle (by omega) (by omega) hi), if_pos (show (if false = true then (1 : Int32) else 0) = 0 from rfl), eq_M_haveAllWays_28]
      unfold g_M_haveAllWays_28
      exact A 0 υ
    · obtain ⟨ω, e, f3⟩ := hw_M_waysOf d3 ok i (by omega)
      have kb := hv_all_big ok (hv_may g i)
      have B : b_M_haveAllWays_4 (if true = true then 1 else 0) (hI i) υ = some (.inl ((if 0 < hv_all g (hv_may g i) then 1 else 0), hI (i + 1), ω)) := by
        unfold b_M_haveAllWays_4
        rw [d3.C, if_neg (hI_nle (by omega) (by omega) hi), if_neg (by decide), e]
        simp only [Option.bind_some, eq_M_haveAllWays_28, g_M_haveAllWays_28, A]
        by_cases q : 0 < hv_all g (hv_may g i)
        · rw [if_pos q, if_neg (hI_le0 (by omega) q)]
        · rw [if_neg q, show hv_all g (hv_may g i) = 0 by omega, if_pos (by decide)]
      refine .inl ⟨_, B, ω, decide (0 < hv_all g (hv_may g i)), ?_, f.trans f3, fun z c hc => ?_, fun z so => ?_⟩
      · by_cases q : 0 < hv_all g (hv_may g i)
        · rw [if_pos q, decide_eq_true q]; rfl
        · rw [if_neg q, decide_eq_false q]; rfl
      · by_cases q : c = i
        · rw [q]; exact of_decide_eq_true z
        · exact k1 rfl c (by omega)
      · exact of_decide_eq_false z (so i hi)
  · rintro t ⟨υ, fl, rfl, f, k1, k2⟩
    have d3 := f.mox d
    refine ⟨((if fl then 1 else 0), υ), ?_, υ, ?_, f⟩
    · show b_M_haveAllWays_4 (if fl = true then 1 else 0) (hI g.C) υ = _
      unfold b_M_haveAllWays_4
      rw [d3.C, if_pos (Int32.le_refl _)]
      cases fl <;> exact if_pos (by decide)
    · cases fl
      · rw [if_neg (k2 rfl)]; rfl
      · rw [if_pos (show hv_some g from k1 rfl)]; rfl
theorem hv_Mdoor {g : hv} {σ : am_St} (d : hv_mox g σ) (ok : hv_ok g) {a b : Nat} (ha : a < 10) (hb : b < 10) : hv_MS σ (f_M_doorComes (hI a) (hI b) σ) (@ite _ (a < g.R ∧ b < g.R ∧ a ≠ b ∧ hv_some (hv_dor g a b)) (Classical.propDecidable _) (some (hv_dor g a b)) none) := by
  have kR := ok.R
  rw [eq_M_doorComes]; unfold g_M_doorComes
  rw [d.isRoom ok]
  simp only [Option.bind_some]
  by_cases qa : a < g.R
  rotate_left
  · rw [hv_rng_not (by omega) (by omega) (by omega), if_pos rfl, if_neg (show ¬ (a < g.R ∧ b < g.R ∧ a ≠ b ∧ hv_some (hv_dor g a b)) from fun e => qa e.1)]
    exact hv_MS.no σ rfl (hv_Fq.rfl' _)
  rw [hv_rng_lt (by omega) qa, if_neg (by decide), d.isRoom ok]
  simp only [Option.bind_some]
  by_cases qb : b < g.R
  rotate_left
  · rw [hv_rng_not (by omega) (by omega) (by omega), if_pos rfl, if_neg (show ¬ (a < g.R ∧ b < g.R ∧ a ≠ b ∧ hv_some (hv_dor g a b)) from fun e => qb e.2.1)]
    exact hv_MS.no σ rfl (hv_Fq.rfl' _)
  rw [hv_rng_lt (by omega) qb, if_neg (by decide)]
  by_cases c : a = b
  · rw [if_pos (by rw [c]), if_neg (show ¬ (a < g.R ∧ b < g.R ∧ a ≠ b ∧ hv_some (hv_dor g a b)) from fun e => e.2.2.1 c)]
    exact hv_MS.no σ rfl (hv_Fq.rfl' _)
  have ixa : am_ix (hI a) 4 = true := hI_ix (by omega) (by decide)
  have ixb : am_ix (hI b) 4 = true := hI_ix (by omega) (by decide)
  rw [if_neg (hI_ne (by omega) (by omega) c), if_pos ixa, if_pos ixa, hI_clamp (show a < 2 ^ 31 by omega), d.door a (by omega), hI_xor1 _ (ok.door16 (by omega)) b (by omega), eq_M_doorComes_35]
  unfold g_M_doorComes_35
  rw [if_pos ixb, if_pos ixb, hI_clamp (show b < 2 ^ 31 by omega), hv_g3 _ _ (fun e => c e.symm), d.door b (by omega), hI_xor1 _ (ok.door16 (by omega)) a (by omega)]
  dsimp only
  have ok2 := hv_dor_ok ok qa qb c
  have d2 : hv_mox (hv_dor g a b) (am_sI (am_sI σ 67 a (hI (g.door a ^^^ 2 ^ b))) 67 b (hI (g.door b ^^^ 2 ^ a))) := by
    have G : ∀ i j, i ≠ 67 → (am_sI (am_sI σ 67 a (hI (g.door a ^^^ 2 ^ b))) 67 b (hI (g.door b ^^^ 2 ^ a))).1 i j = σ.1 i j := fun i j e => by rw [hv_g2 _ e, hv_g2 _ e]
    exact hv_mox.mk (fR := (G _ _ (by omega)).trans d.R) (fM := (G _ _ (by omega)).trans d.M) (fC := (G _ _ (by omega)).trans d.C) (fF := (G _ _ (by omega)).trans d.F) (fdr := (G _ _ (by omega)).trans d.dr) (fdm := (G _ _ (by omega)).trans d.dm) (fdoor := fun r hr => by
      show _ = hI (if r = a then g.door a ^^^ 2 ^ b else if r = b then g.door b ^^^ 2 ^ a else g.door r)
      by_cases c1 : r = a
      · rw [if_pos c1, c1, hv_g3 _ _ c, hv_g1]
      · rw [if_neg c1]
        by_cases c2 : r = b
        · rw [if_pos c2, c2, hv_g1]
        · rw [if_neg c2, hv_g3 _ _ c2, hv_g3 _ _ c1]; exact d.door r hr) (fkind := fun r hr => (G _ _ (by omega)).trans (d.kind r hr)) (ffig := fun r hr => (G _ _ (by omega)).trans (d.fig r hr)) (ftie := fun r hr => (G _ _ (by omega)).trans (d.tie r hr)) (fskill := fun r hr => (G _ _ (by omega)).trans (d.skill r hr)) (fplace := fun r hr k hk => (G _ _ (by omega)).trans (d.place r hr k hk)) (fchance := fun r hr => (G _ _ (by omega)).trans (d.chance r hr)) (ffc := fun r hr => (G _ _ (by omega)).trans (d.fc r hr)) (ffm := fun r hr => (G _ _ (by omega)).trans (d.fm r hr)) (ffr := fun r hr => (G _ _ (by omega)).trans (d.fr r hr)) (ffi := fun r hr => (G _ _ (by omega)).trans (d.fi r hr))
  have f2 : hv_Fq σ (am_sI (am_sI σ 67 a (hI (g.door a ^^^ 2 ^ b))) 67 b (hI (g.door b ^^^ 2 ^ a))) := ((hv_Fq.rfl' σ).set 67 _ _ (by omega)).set 67 _ _ (by omega)
  generalize am_sI (am_sI σ 67 a (hI (g.door a ^^^ 2 ^ b))) 67 b (hI (g.door b ^^^ 2 ^ a)) = τ at d2 f2 ⊢
  obtain ⟨υ, e, f⟩ := hv_Mall d2 ok2
  have d3 := f.mox d2
  rw [e]
  simp only [Option.bind_some]
  by_cases so : hv_some (hv_dor g a b)
  · rw [if_pos so, if_pos (show a < g.R ∧ b < g.R ∧ a ≠ b ∧ hv_some (hv_dor g a b) from ⟨qa, qb, c, so⟩)]
    exact hv_MS.yes υ (if_pos (by decide)) (f2.trans (hv_Fq.pm f)) d3
  · rw [if_neg so, if_neg (show ¬ (a < g.R ∧ b < g.R ∧ a ≠ b ∧ hv_some (hv_dor g a b)) from fun e => so e.2.2.2)]
    exact hv_MS.no υ (if_pos (by decide)) (f2.trans (hv_Fq.pm f))
