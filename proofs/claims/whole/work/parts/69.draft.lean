/-! PURE: the class does a statement on its draft -/
/-- the cells of the draft and of the Ways -/
def hv_pd (i : Nat) : Bool := (Nat.ble 37 i && Nat.ble i 46) || hv_pw i
theorem hv_pd_37 {i : Nat} (h1 : 37 ≤ i) (h2 : i ≤ 46) : hv_pd i = true := by
  have e : i = 37 ∨ i = 38 ∨ i = 39 ∨ i = 40 ∨ i = 41 ∨ i = 42 ∨ i = 43 ∨ i = 44 ∨ i = 45 ∨ i = 46 := by omega
  rcases e with rfl | rfl | rfl | rfl | rfl | rfl | rfl | rfl | rfl | rfl <;> rfl
theorem hv_pd_no {i : Nat} (h : i < 37) : hv_pd i = false := by
  unfold hv_pd
  rw [hv_pw_lo (by omega), show Nat.ble 37 i = false from Bool.eq_false_iff.mpr (fun e => by have := Nat.le_of_ble_eq_true e; omega)]; rfl
theorem hv_pd_scr (i : Nat) (h : hv_pd i = true) (k : Nat) : hv_scr i k = true := by
  unfold hv_pd at h
  rw [Bool.or_eq_true, Bool.and_eq_true] at h
  rcases h with h | h
  · have h1 := Nat.le_of_ble_eq_true h.1
    have h2 := Nat.le_of_ble_eq_true h.2
    have e : i = 37 ∨ i = 38 ∨ i = 39 ∨ i = 40 ∨ i = 41 ∨ i = 42 ∨ i = 43 ∨ i = 44 ∨ i = 45 ∨ i = 46 := by omega
    rcases e with rfl | rfl | rfl | rfl | rfl | rfl | rfl | rfl | rfl | rfl <;> rfl
  · exact hv_pw_scr i h k
theorem hv_fr.pd {σ τ : am_St} (f : hv_fr hv_pw σ τ) : hv_fr hv_pd σ τ := ⟨f.1, fun i e => f.2 i (by
  unfold hv_pd at e
  rw [Bool.or_eq_false_iff] at e
  exact e.2)⟩
theorem hv_fr.pdSm {σ τ : am_St} (h : hv_fr hv_pd σ τ) : hv_Sm σ τ := h.Sm hv_pd_scr
theorem hv_D37.hasRoom {h : hv} {σ : am_St} (d : hv_dev 37 h σ) (x : Int32) : f_H_hasRoom_37 x σ = some (hv_rng x h.R, σ) := by
  rw [eq_H_hasRoom_37]; unfold g_H_hasRoom_37; rw [d.R]; exact hv_rng_eq _ _ _
theorem hv_D37.hasMinute {h : hv} {σ : am_St} (d : hv_dev 37 h σ) (x : Int32) : f_H_hasMinute_37 x σ = some (hv_rng x h.M, σ) := by
  rw [eq_H_hasMinute_37]; unfold g_H_hasMinute_37; rw [d.M]; exact hv_rng_eq _ _ _
theorem hv_D37.hasChild {h : hv} {σ : am_St} (d : hv_dev 37 h σ) (x : Int32) : f_H_hasChild_37 x σ = some (hv_rng x h.C, σ) := by
  rw [eq_H_hasChild_37]; unfold g_H_hasChild_37; rw [d.C]; exact hv_rng_eq _ _ _
theorem hv_D37.isStep {h : hv} {σ : am_St} (d : hv_dev 37 h σ) (ok : hv_ok h) {a b : Nat} (ha : a < 10) (hb : b < 10) : f_H_isStep_37 (hI a) (hI b) σ = some (if a < h.R ∧ b < h.R ∧ (a = b ∨ (h.door a).testBit b = true) then 1 else 0, σ) := by
  have h1 := ok.R
  rw [eq_H_isStep_37]; unfold g_H_isStep_37
  rw [hv_D37.hasRoom d]
  simp only [Option.bind_some]
  by_cases qa : a < h.R
  · rw [hv_rng_lt (by omega) qa, if_neg (by decide), hv_D37.hasRoom d]
    simp only [Option.bind_some]
    by_cases qb : b < h.R
    · rw [hv_rng_lt (by omega) qb, if_neg (by decide)]
      by_cases c : a = b
      · rw [if_pos (by rw [c]), if_pos ⟨qa, qb, .inl c⟩]
      · rw [if_neg (hI_ne (by omega) (by omega) c), if_pos (hI_ix (by omega) (by decide)), hI_clamp (by omega), show σ.1 38 a = hI (h.door a) from d.door a (by omega)]
        by_cases t : (h.door a).testBit b = true
        · rw [if_pos ((hI_bit (ok.door16 (by omega)) (by omega)).mpr t), if_pos ⟨qa, qb, .inr t⟩]
        · rw [if_neg (fun e => t ((hI_bit (ok.door16 (by omega)) (by omega)).mp e)), if_neg (fun e => e.2.2.elim c t)]
    · rw [hv_rng_not (by omega) (by omega) (by omega), if_pos rfl, if_neg (fun e => qb e.2.1)]
  · rw [hv_rng_not (by omega) (by omega) (by omega), if_pos rfl, if_neg (fun e => qa e.1)]
theorem hv_canB {a b : Nat} (ha : a < 10) (hb : b < 10) (σ : am_St) : f_H_canBuild (hI a) (hI b) σ = some (if 2 ≤ a ∧ a ≤ 4 ∧ 2 ≤ b ∧ b ≤ 6 then 1 else 0, σ) := by
  rw [eq_H_canBuild]; unfold g_H_canBuild
  have : ∀ a, a < 10 → ∀ b, b < 10 → (if hI a < 2 then (0 : Int32) else if 4 < hI a then 0 else if hI b < 2 then 0 else if 6 < hI b then 0 else 1) = if 2 ≤ a ∧ a ≤ 4 ∧ 2 ≤ b ∧ b ≤ 6 then 1 else 0 := by decide +kernel
  rw [← this a ha b hb]
  split
  · rfl
  · split
    · rfl
    · split
      · rfl
      · split <;> rfl
/-- a statement of the class: its answer and what it leaves -/
def hv_XS (σ : am_St) (X : Option (Int32 × am_St)) (o : Option hv) : Prop := ∃ τ, X = some (if o.isSome then 1 else 0, τ) ∧ hv_fr hv_pd σ τ ∧ ∀ g2, o = some g2 → hv_dev 37 g2 τ
theorem hv_XS.no {σ : am_St} {X : Option (Int32 × am_St)} (τ : am_St) (e : X = some (0, τ)) (f : hv_fr hv_pd σ τ) : hv_XS σ X none := ⟨τ, e, f, fun _ q => by cases q⟩
theorem hv_XS.yes {σ : am_St} {X : Option (Int32 × am_St)} {g2 : hv} (τ : am_St) (e : X = some (1, τ)) (f : hv_fr hv_pd σ τ) (d : hv_dev 37 g2 τ) : hv_XS σ X (some g2) := ⟨τ, e, f, fun _ q => by cases q; exact d⟩
theorem hv_X_builds {g : hv} {σ : am_St} (d : hv_dev 37 g σ) {a b : Nat} (ha : a < 10) (hb : b < 10) : hv_XS σ (f_T_builds (hI a) (hI b) σ) (@ite _ (2 ≤ a ∧ a ≤ 4 ∧ 2 ≤ b ∧ b ≤ 6) (Classical.propDecidable _) (some (hv_bld g a b)) none) := by
  rw [eq_T_builds]; unfold g_T_builds
  rw [hv_canB ha hb]
  simp only [Option.bind_some]
  by_cases c : 2 ≤ a ∧ a ≤ 4 ∧ 2 ≤ b ∧ b ≤ 6
  · rw [if_pos c, if_neg (by decide), if_pos c, eq_H_build_37]
    unfold g_H_build_37
    simp only [eq_H_putDeed_37, g_H_putDeed_37, Option.bind_some, eq_H_build_37_26, g_H_build_37_26]
    have f0 : hv_fr hv_pd σ (am_sI (am_sI (am_sI (am_sI (am_sI (am_sI σ 37 0 (hI a)) 37 1 (hI b)) 37 2 0) 37 5 0) 37 3 0) 37 4 0) := ((((((hv_fr.rfl' hv_pd σ).set 37 _ _ rfl).set 37 _ _ rfl).set 37 _ _ rfl).set 37 _ _ rfl).set 37 _ _ rfl).set 37 _ _ rfl
    generalize hτ : am_sI (am_sI (am_sI (am_sI (am_sI (am_sI σ 37 0 (hI a)) 37 1 (hI b)) 37 2 0) 37 5 0) 37 3 0) 37 4 0 = τ at f0 ⊢
    have L : ∃ υ, f_H_build_37_28 0 τ = some υ ∧ hv_fr hv_pd σ υ ∧ (∀ i, i ≠ 38 → υ.1 i = τ.1 i) ∧ ∀ r, r < 4 → υ.1 38 r = 0 := by
      unfold f_H_build_37_28
      refine hv_up 4 (fun i t => ∃ υ, t = (hI i, υ) ∧ hv_fr hv_pd σ υ ∧ (∀ i, i ≠ 38 → υ.1 i = τ.1 i) ∧ ∀ r, r < i → υ.1 38 r = 0) 0 (Nat.zero_le _) _ ⟨τ, rfl, f0, fun _ _ => rfl, fun r hr => absurd hr (Nat.not_lt_zero r)⟩ ?_ ?_
      · rintro i t hi ⟨υ, rfl, f, k1, k2⟩
        refine .inl ⟨(hI (i + 1), am_sI υ 38 i 0), ?_, am_sI υ 38 i 0, rfl, f.set 38 _ _ rfl, fun j hj => by rw [hv_g2 _ hj]; exact k1 j hj, fun r hr => ?_⟩
        · show b_H_build_37_28 (hI i) υ = _
          unfold b_H_build_37_28
          rw [if_neg (hI_nge4 hi), if_pos (hI_ix hi (by decide)), hI_clamp (by omega)]
          dsimp only
          rw [hI_add1]
        · by_cases q : r = i
          · subst q; rw [hv_g1]
          · rw [hv_g3 _ _ q]; exact k2 r (by omega)
      · rintro t ⟨υ, rfl, f, k1, k2⟩
        exact ⟨υ, rfl, f, k1, k2⟩
    obtain ⟨υ, e, f, k1, k2⟩ := L
    refine hv_XS.yes υ ?_ f ?_
    · rw [e]; rfl
    · have G : ∀ i j, i ≠ 38 ∧ (i = 37 → j = 6) → υ.1 i j = σ.1 i j := fun i j ⟨h1, h2⟩ => by
        rw [k1 i h1, ← hτ]
        by_cases q : i = 37
        · subst q
          rw [h2 rfl]
          simp only [hv_g3 _ _ (show (6 : Nat) ≠ 4 by decide), hv_g3 _ _ (show (6 : Nat) ≠ 3 by decide), hv_g3 _ _ (show (6 : Nat) ≠ 5 by decide), hv_g3 _ _ (show (6 : Nat) ≠ 2 by decide), hv_g3 _ _ (show (6 : Nat) ≠ 1 by decide), hv_g3 _ _ (show (6 : Nat) ≠ 0 by decide)]
        · simp only [hv_g2 _ q]
      have z : ∀ {P : Nat → Prop}, ∀ c, c < (hv_bld g a b).C → P c := fun c hc => absurd hc (Nat.not_lt_zero c)
      have zF : ∀ {P : Nat → Prop}, ∀ c, c < (hv_bld g a b).F → P c := fun c hc => absurd hc (Nat.not_lt_zero c)
      exact hv_dev.mk
        (by show υ.1 37 0 = hI a; rw [k1 37 (by decide), ← hτ]; simp only [hv_g3 _ _ (show (0 : Nat) ≠ 4 by decide), hv_g3 _ _ (show (0 : Nat) ≠ 3 by decide), hv_g3 _ _ (show (0 : Nat) ≠ 5 by decide), hv_g3 _ _ (show (0 : Nat) ≠ 2 by decide), hv_g3 _ _ (show (0 : Nat) ≠ 1 by decide), hv_g1])
        (by show υ.1 37 1 = hI b; rw [k1 37 (by decide), ← hτ]; simp only [hv_g3 _ _ (show (1 : Nat) ≠ 4 by decide), hv_g3 _ _ (show (1 : Nat) ≠ 3 by decide), hv_g3 _ _ (show (1 : Nat) ≠ 5 by decide), hv_g3 _ _ (show (1 : Nat) ≠ 2 by decide), hv_g1])
        (by show υ.1 37 2 = hI 0; rw [k1 37 (by decide), ← hτ]; simp only [hv_g3 _ _ (show (2 : Nat) ≠ 4 by decide), hv_g3 _ _ (show (2 : Nat) ≠ 3 by decide), hv_g3 _ _ (show (2 : Nat) ≠ 5 by decide), hv_g1]; rfl)
        (by show υ.1 37 3 = hI 0; rw [k1 37 (by decide), ← hτ]; simp only [hv_g3 _ _ (show (3 : Nat) ≠ 4 by decide), hv_g1]; rfl)
        (by show υ.1 37 4 = hI 0; rw [k1 37 (by decide), ← hτ]; simp only [hv_g1]; rfl)
        (by show υ.1 37 5 = hI 0; rw [k1 37 (by decide), ← hτ]; simp only [hv_g3 _ _ (show (5 : Nat) ≠ 4 by decide), hv_g3 _ _ (show (5 : Nat) ≠ 3 by decide), hv_g1]; rfl)
        ((G 37 6 (by omega)).trans d.S)
        (fun r hr => (k2 r hr).trans rfl)
        z z z z (fun c hc => absurd hc (Nat.not_lt_zero c))
        (fun k hk => (G _ _ (by omega)).trans (d.chance k hk))
        zF
        (fun i hi => (G _ _ (by omega)).trans (d.say i hi))
  · rw [if_neg c, if_pos rfl, if_neg c]
    exact hv_XS.no σ rfl (hv_fr.rfl' _ _)
theorem hv_X_breaks {g : hv} {σ : am_St} (d : hv_dev 37 g σ) (ok : hv_ok g) {a b : Nat} (ha : a < 10) (hb : b < 10) : hv_XS σ (f_T_breaks (hI a) (hI b) σ) (@ite _ (a < g.R ∧ b < g.M) (Classical.propDecidable _) (some (hv_deedTo g a b)) none) := by
  have kR := ok.R
  have kM := ok.M
  rw [eq_T_breaks]; unfold g_T_breaks
  rw [hv_D37.hasRoom d]
  simp only [Option.bind_some]
  by_cases qa : a < g.R
  · rw [hv_rng_lt (by omega) qa, if_neg (by decide), hv_D37.hasMinute d]
    simp only [Option.bind_some]
    by_cases qb : b < g.M
    · rw [hv_rng_lt (by omega) qb, if_neg (by decide), if_pos ⟨qa, qb⟩, eq_H_putDeed_37]
      exact hv_XS.yes _ rfl (((hv_fr.rfl' hv_pd σ).set 37 _ _ rfl).set 37 _ _ rfl) (hv_deedTo_dev d a b)
    · rw [hv_rng_not (by omega) (by omega) (by omega), if_pos rfl, if_neg (fun e => qb e.2)]
      exact hv_XS.no σ rfl (hv_fr.rfl' _ _)
  · rw [hv_rng_not (by omega) (by omega) (by omega), if_pos rfl, if_neg (fun e => qa e.1)]
    exact hv_XS.no σ rfl (hv_fr.rfl' _ _)
theorem hv_X_addC {g : hv} {σ : am_St} (d : hv_dev 37 g σ) (ok : hv_ok g) {a b c : Nat} (ha : a < 10) (hb : b < 10) (hc : c < 10) : hv_XS σ (f_H_addChild_37 (hI a) (hI b) (hI c) σ) (@ite _ (a < 6 ∧ c < 4 ∧ g.C < 4) (Classical.propDecidable _) (some (hv_addC g a b c)) none) := by
  have kC := ok.C
  have kM := ok.M
  have D : σ.1 37 2 = hI g.C := d.C
  rw [eq_H_addChild_37]; unfold g_H_addChild_37
  rw [D]
  by_cases qC : g.C < 4
  · rw [if_neg (hI_nge4 qC), if_neg (hI_lt0 (by omega))]
    by_cases qa : a < 6
    · rw [if_neg (hI_nge6 qa)]
      by_cases qc : c < 4
      · have ix : am_ix (hI g.C) 4 = true := hI_ix qC (by decide)
        have cl : (hI g.C).toNatClampNeg = g.C := hI_clamp (by omega)
        rw [if_pos (show hI c < 4 from (hI_lt (m := 4) (by omega) (by decide)).mpr qc), if_pos (show a < 6 ∧ c < 4 ∧ g.C < 4 from ⟨qa, qc, qC⟩)]
        dsimp only
        rw [if_pos ix, cl, hI_add1, eq_H_addChild_37_52]
        unfold g_H_addChild_37_52
        rw [if_pos ix, if_pos ix, if_pos ix, cl]
        dsimp only
        have f0 : hv_fr hv_pd σ (am_sI (am_sI (am_sI (am_sI (am_sI σ 37 2 (hI (g.C + 1))) 39 g.C (hI a)) 40 g.C (hI b)) 41 g.C (hI c)) 42 g.C 0) := (((((hv_fr.rfl' hv_pd σ).set 37 _ _ rfl).set 39 _ _ rfl).set 40 _ _ rfl).set 41 _ _ rfl).set 42 _ _ rfl
        generalize hτ : am_sI (am_sI (am_sI (am_sI (am_sI σ 37 2 (hI (g.C + 1))) 39 g.C (hI a)) 40 g.C (hI b)) 41 g.C (hI c)) 42 g.C 0 = τ at f0 ⊢
        have L : ∃ x, f_H_addChild_37_79 (hI g.C) 0 τ = some x ∧ ∃ υ, x = (1, υ) ∧ hv_fr hv_pd σ υ ∧ (∀ i, i ≠ 43 → υ.1 i = τ.1 i) ∧ (∀ m, m < 6 → υ.1 43 (g.C * 6 + m) = 0) ∧ ∀ j, j < g.C * 6 → υ.1 43 j = τ.1 43 j := by
          unfold f_H_addChild_37_79
          refine hv_up 6 (fun i t => ∃ υ, t = (hI g.C, hI i, υ) ∧ hv_fr hv_pd σ υ ∧ (∀ i, i ≠ 43 → υ.1 i = τ.1 i) ∧ (∀ m, m < i → υ.1 43 (g.C * 6 + m) = 0) ∧ ∀ j, j < g.C * 6 → υ.1 43 j = τ.1 43 j) 0 (Nat.zero_le _) _ ⟨τ, rfl, f0, fun _ _ => rfl, fun r hr => absurd hr (Nat.not_lt_zero r), fun _ _ => rfl⟩ ?_ ?_
          · rintro i t hi ⟨υ, rfl, f, k1, k2, k3⟩
            have e3 : hI g.C * 6 + hI i = hI (g.C * 6 + i) := by rw [show (6 : Int32) = hI 6 from rfl, hI_mul, hI_add]
            refine .inl ⟨(hI g.C, hI (i + 1), am_sI υ 43 (g.C * 6 + i) 0), ?_, am_sI υ 43 (g.C * 6 + i) 0, rfl, f.set 43 _ _ rfl, fun j hj => by rw [hv_g2 _ hj]; exact k1 j hj, fun r hr => ?_, fun j hj => ?_⟩
            · show b_H_addChild_37_79 (hI g.C) (hI i) υ = _
              unfold b_H_addChild_37_79
              rw [if_neg (hI_nge6 hi), e3, if_pos (hI_ix (by omega) (by decide)), hI_clamp (by omega)]
              dsimp only
              rw [hI_add1]
            · by_cases q : r = i
              · subst q; rw [hv_g1]
              · rw [hv_g3 _ _ (by omega)]; exact k2 r (by omega)
            · rw [hv_g3 _ _ (by omega)]; exact k3 j hj
          · rintro t ⟨υ, rfl, f, k1, k2, k3⟩
            exact ⟨_, rfl, υ, rfl, f, k1, k2, k3⟩
        obtain ⟨x, e, υ, rfl, f, k1, k2, k3⟩ := L
        refine hv_XS.yes υ e f ?_
        have G : ∀ i j, i ≠ 43 ∧ (i = 37 → j ≠ 2) ∧ (39 ≤ i → i ≤ 42 → j ≠ g.C) → υ.1 i j = σ.1 i j := fun i j ⟨h1, h2, h3⟩ => by
          have S : ∀ (υ : am_St) (a b : Nat) (y : Int32), ¬ (i = a ∧ j = b) → (am_sI υ a b y).1 i j = υ.1 i j := fun υ a b y q => by
            by_cases z : i = a
            · subst z; rw [hv_g3 _ _ (fun w => q ⟨rfl, w⟩)]
            · rw [hv_g2 _ z]
          rw [k1 i h1, ← hτ, S _ _ _ _ (by omega), S _ _ _ _ (by omega), S _ _ _ _ (by omega), S _ _ _ _ (by omega), S _ _ _ _ (by omega)]
        have N : ∀ i c', 39 ≤ i → i ≤ 42 → ∀ (u w : Nat), υ.1 i g.C = hI u → (c' < g.C → σ.1 i c' = hI w) → c' < g.C + 1 → υ.1 i c' = hI (if c' = g.C then u else w) := fun i c' h1 h2 u w e1 e2 h3 => by
          by_cases q : c' = g.C
          · rw [if_pos q, q]; exact e1
          · rw [if_neg q, G i c' ⟨by omega, by omega, fun _ _ => q⟩]; exact e2 (by omega)
        exact hv_dev.mk (fR := (G _ _ (by omega)).trans d.R) (fM := (G _ _ (by omega)).trans d.M) (fC := by show υ.1 37 2 = hI (g.C + 1); rw [k1 37 (by decide), ← hτ]; simp only [hv_g2 _ (show (37 : Nat) ≠ 42 by decide), hv_g2 _ (show (37 : Nat) ≠ 41 by decide), hv_g2 _ (show (37 : Nat) ≠ 40 by decide), hv_g2 _ (show (37 : Nat) ≠ 39 by decide), hv_g1]) (fdr := (G _ _ (by omega)).trans d.dr) (fdm := (G _ _ (by omega)).trans d.dm) (fF := (G _ _ (by omega)).trans d.F) (fS := (G _ _ (by omega)).trans d.S) (fdoor := fun r hr => (G _ _ (by omega)).trans (d.door r hr)) (fkind := fun c' hc' => N 39 c' (by omega) (by omega) a _ (by rw [k1 39 (by decide), ← hτ]; simp only [hv_g2 _ (show (39 : Nat) ≠ 42 by decide), hv_g2 _ (show (39 : Nat) ≠ 41 by decide), hv_g2 _ (show (39 : Nat) ≠ 40 by decide), hv_g1]) (fun q => d.kind c' q) hc') (ffig := fun c' hc' => N 40 c' (by omega) (by omega) b _ (by rw [k1 40 (by decide), ← hτ]; simp only [hv_g2 _ (show (40 : Nat) ≠ 42 by decide), hv_g2 _ (show (40 : Nat) ≠ 41 by decide), hv_g1]) (fun q => d.fig c' q) hc') (ftie := fun c' hc' => N 41 c' (by omega) (by omega) c _ (by rw [k1 41 (by decide), ← hτ]; simp only [hv_g2 _ (show (41 : Nat) ≠ 42 by decide), hv_g1]) (fun q => d.tie c' q) hc') (fskill := fun c' hc' => N 42 c' (by omega) (by omega) 0 _ (by rw [k1 42 (by decide), ← hτ]; simp only [hv_g1]; rfl) (fun q => d.skill c' q) hc') (fplace := fun c' hc' m hm => by
            show υ.1 43 (c' * 6 + m) = hI (if c' = g.C then 0 else g.place c' m)
            have hm' : m < g.M := hm
            have hc'' : c' < g.C + 1 := hc'
            by_cases q : c' = g.C
            · rw [if_pos q, q]; exact k2 m (by omega)
            · rw [if_neg q, k3 _ (by omega), ← hτ]
              simp only [hv_g2 _ (show (43 : Nat) ≠ 42 by decide), hv_g2 _ (show (43 : Nat) ≠ 41 by decide), hv_g2 _ (show (43 : Nat) ≠ 40 by decide), hv_g2 _ (show (43 : Nat) ≠ 39 by decide), hv_g2 _ (show (43 : Nat) ≠ 37 by decide)]
              exact d.place c' (by omega) m hm') (fchance := fun r hr => (G _ _ (by omega)).trans (d.chance r hr)) (ffact := fun r hr => (G _ _ (by omega)).trans (d.fact r hr)) (fsay := fun r hr => (G _ _ (by omega)).trans (d.say r hr))
      · rw [if_neg (show ¬ hI c < 4 from hI_nlt (m := 4) (by omega) (by decide) (by omega)), if_neg (fun e => qc e.2.1)]
        exact hv_XS.no σ rfl (hv_fr.rfl' _ _)
    · rw [if_pos (hI_ge6 (by omega) (by omega)), if_neg (fun e => qa e.1)]
      exact hv_XS.no σ rfl (hv_fr.rfl' _ _)
  · rw [if_pos (hI_ge4 (by omega) (by omega)), if_neg (fun e => qC e.2.2)]
    exact hv_XS.no σ rfl (hv_fr.rfl' _ _)
theorem hv_dor_dev {b0 : Nat} {g : hv} {σ : am_St} (d : hv_dev b0 g σ) (a b : Nat) (ab : a ≠ b) : hv_dev b0 (hv_dor g a b) (am_sI (am_sI σ (b0 + 1) a (hI (g.door a ^^^ 2 ^ b))) (b0 + 1) b (hI (g.door b ^^^ 2 ^ a))) := by
  have G : ∀ i j, i ≠ b0 + 1 → (am_sI (am_sI σ (b0 + 1) a (hI (g.door a ^^^ 2 ^ b))) (b0 + 1) b (hI (g.door b ^^^ 2 ^ a))).1 i j = σ.1 i j := fun i j e => by rw [hv_g2 _ e, hv_g2 _ e]
  exact hv_dev.mk (fR := (G _ _ (by omega)).trans d.R) (fM := (G _ _ (by omega)).trans d.M) (fC := (G _ _ (by omega)).trans d.C) (fdr := (G _ _ (by omega)).trans d.dr) (fdm := (G _ _ (by omega)).trans d.dm) (fF := (G _ _ (by omega)).trans d.F) (fS := (G _ _ (by omega)).trans d.S) (fdoor := fun r hr => by
    show _ = hI (if r = a then g.door a ^^^ 2 ^ b else if r = b then g.door b ^^^ 2 ^ a else g.door r)
    by_cases c1 : r = a
    · rw [if_pos c1, c1, hv_g3 _ _ ab, hv_g1]
    · rw [if_neg c1]
      by_cases c2 : r = b
      · rw [if_pos c2, c2, hv_g1]
      · rw [if_neg c2, hv_g3 _ _ c2, hv_g3 _ _ c1]; exact d.door r hr) (fkind := fun r hr => (G _ _ (by omega)).trans (d.kind r hr)) (ffig := fun r hr => (G _ _ (by omega)).trans (d.fig r hr)) (ftie := fun r hr => (G _ _ (by omega)).trans (d.tie r hr)) (fskill := fun r hr => (G _ _ (by omega)).trans (d.skill r hr)) (fplace := fun r hr k hk => (G _ _ (by omega)).trans (d.place r hr k hk)) (fchance := fun r hr => (G _ _ (by omega)).trans (d.chance r hr)) (ffact := fun r hr => (G _ _ (by omega)).trans (d.fact r hr)) (fsay := fun r hr => (G _ _ (by omega)).trans (d.say r hr))
theorem hv_X_door {g : hv} {σ : am_St} (d : hv_dev 37 g σ) (ok : hv_ok g) {a b : Nat} (ha : a < 10) (hb : b < 10) : hv_XS σ (f_T_turnsDoor (hI a) (hI b) σ) (@ite _ (a < g.R ∧ b < g.R ∧ a ≠ b ∧ hv_some (hv_dor g a b)) (Classical.propDecidable _) (some (hv_dor g a b)) none) := by
  have kR := ok.R
  have kC := ok.C
  rw [eq_T_turnsDoor]; unfold g_T_turnsDoor
  rw [hv_D37.hasRoom d]
  simp only [Option.bind_some]
  by_cases qa : a < g.R
  · rw [hv_rng_lt (by omega) qa, if_neg (by decide), hv_D37.hasRoom d]
    simp only [Option.bind_some]
    by_cases qb : b < g.R
    · rw [hv_rng_lt (by omega) qb, if_neg (by decide)]
      by_cases c : a = b
      · rw [if_pos (by rw [c]), if_neg (fun e => e.2.2.1 c)]
        exact hv_XS.no σ rfl (hv_fr.rfl' _ _)
      · rw [if_neg (hI_ne (by omega) (by omega) c), eq_T_turnsDoor_29]
        unfold g_T_turnsDoor_29
        have ok2 := hv_dor_ok ok qa qb c
        have d2 := hv_dor_dev d a b c
        have f2 : hv_fr hv_pd σ (am_sI (am_sI σ 38 a (hI (g.door a ^^^ 2 ^ b))) 38 b (hI (g.door b ^^^ 2 ^ a))) := ((hv_fr.rfl' hv_pd σ).set 38 _ _ rfl).set 38 _ _ rfl
        have TD : f_H_turnDoor_37 (hI a) (hI b) σ = some (am_sI (am_sI σ 38 a (hI (g.door a ^^^ 2 ^ b))) 38 b (hI (g.door b ^^^ 2 ^ a))) := by
          have ixa : am_ix (hI a) 4 = true := hI_ix (by omega) (by decide)
          have ixb : am_ix (hI b) 4 = true := hI_ix (by omega) (by decide)
          rw [eq_H_turnDoor_37]; unfold g_H_turnDoor_37
          rw [hv_D37.hasRoom d, hv_rng_lt (by omega) qa]
          simp only [Option.bind_some, hv_10, ↓reduceIte]
          rw [hv_D37.hasRoom d, hv_rng_lt (by omega) qb]
          simp only [Option.bind_some, hv_10, ↓reduceIte]
          rw [if_neg (hI_ne (by omega) (by omega) c), if_pos ixa, if_pos ixa, hI_clamp (by omega), show σ.1 38 a = hI (g.door a) from d.door a (by omega), hI_xor1 _ (ok.door16 (by omega)) b (by omega), eq_H_turnDoor_37_33]
          unfold g_H_turnDoor_37_33
          rw [if_pos ixb, if_pos ixb, hI_clamp (by omega), hv_g3 _ _ (fun e => c e.symm), show σ.1 38 b = hI (g.door b) from d.door b (by omega), hI_xor1 _ (ok.door16 (by omega)) a (by omega)]
        rw [TD]
        simp only [Option.bind_some]
        generalize am_sI (am_sI σ 38 a (hI (g.door a ^^^ 2 ^ b))) 38 b (hI (g.door b ^^^ 2 ^ a)) = τ at d2 f2 ⊢
        have L : ∃ x, f_T_turnsDoor_44 1 0 τ = some x ∧ ∃ υ, x = (@ite _ (hv_some (hv_dor g a b)) (Classical.propDecidable _) 1 0, υ) ∧ hv_fr hv_pw τ υ := by
          unfold f_T_turnsDoor_44
          refine hv_up g.C (fun i t => ∃ (υ : am_St) (fl : Bool), t = ((if fl then 1 else 0), hI i, υ) ∧ hv_fr hv_pw τ υ ∧ (fl = true → ∀ c, c < i → 0 < hv_all (hv_dor g a b) (hv_may (hv_dor g a b) c)) ∧ (fl = false → ¬ hv_some (hv_dor g a b))) 0 (Nat.zero_le _) _ ⟨τ, true, rfl, hv_fr.rfl' _ _, fun _ c hc => absurd hc (Nat.not_lt_zero c), fun e => by cases e⟩ ?_ ?_
          · rintro i t hi ⟨υ, fl, rfl, f, k1, k2⟩
            have d3 := f.dev (by decide) d2
            cases fl
            · refine .inr ⟨(0, υ), ?_, υ, by rw [if_neg (k2 rfl)], f⟩
              show b_T_turnsDoor_44 (if false = true then 1 else 0) (hI i) υ = _
              unfold b_T_turnsDoor_44
              rw [show υ.1 37 2 = hI g.C from d3.C, if_neg (hI_nle (by omega) (by omega) hi)]
              rfl
            · obtain ⟨ω, e, f3⟩ := hv_W_some_37 d3 ok2 i (by omega)
              have B : b_T_turnsDoor_44 (if true = true then 1 else 0) (hI i) υ = some (.inl ((if 0 < hv_all (hv_dor g a b) (hv_may (hv_dor g a b) i) then 1 else 0), hI (i + 1), ω)) := by
                unfold b_T_turnsDoor_44
                rw [show υ.1 37 2 = hI g.C from d3.C, if_neg (hI_nle (by omega) (by omega) hi), if_neg (by decide), e]
                simp only [Option.bind_some, hI_add1]
              refine .inl ⟨_, B, ω, decide (0 < hv_all (hv_dor g a b) (hv_may (hv_dor g a b) i)), ?_, f.trans f3, fun z c hc => ?_, fun z so => ?_⟩
              · by_cases q : 0 < hv_all (hv_dor g a b) (hv_may (hv_dor g a b) i)
                · rw [if_pos q, decide_eq_true q]; rfl
                · rw [if_neg q, decide_eq_false q]; rfl
              · by_cases q : c = i
                · rw [q]; exact of_decide_eq_true z
                · exact k1 rfl c (by omega)
              · exact of_decide_eq_false z (so i hi)
          · rintro t ⟨υ, fl, rfl, f, k1, k2⟩
            have d3 := f.dev (by decide) d2
            refine ⟨((if fl then 1 else 0), υ), ?_, υ, ?_, f⟩
            · show b_T_turnsDoor_44 (if fl = true then 1 else 0) (hI g.C) υ = _
              unfold b_T_turnsDoor_44
              rw [show υ.1 37 2 = hI g.C from d3.C, if_pos (Int32.le_refl _)]
              cases fl <;> exact if_pos (by decide)
            · cases fl
              · rw [if_neg (k2 rfl)]; rfl
              · rw [if_pos (show hv_some (hv_dor g a b) from k1 rfl)]; rfl
        obtain ⟨x, e, υ, rfl, f⟩ := L
        have d3 := f.dev (by decide) d2
        rw [e]
        by_cases so : hv_some (hv_dor g a b)
        · rw [if_pos so, if_pos ⟨qa, qb, c, so⟩]
          exact hv_XS.yes υ rfl (f2.trans f.pd) d3
        · rw [if_neg so, if_neg (fun e => so e.2.2.2)]
          exact hv_XS.no υ rfl (f2.trans f.pd)
    · rw [hv_rng_not (by omega) (by omega) (by omega), if_pos rfl, if_neg (fun e => qb e.2.1)]
      exact hv_XS.no σ rfl (hv_fr.rfl' _ _)
  · rw [hv_rng_not (by omega) (by omega) (by omega), if_pos rfl, if_neg (fun e => qa e.1)]
    exact hv_XS.no σ rfl (hv_fr.rfl' _ _)
