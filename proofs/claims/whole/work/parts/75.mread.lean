/-! PURE: the model reads a statement -/
/-- the letters of the model -/
def hv_ltm (n : Nat) (L : Nat → Nat) (σ : am_St) : Prop := n ≤ 96 ∧ σ.1 66 28 = hI n ∧ ∀ i, i < n → σ.1 86 i = hI (L i) ∧ L i < 256
/-- p places are read: all right, or stopped at the first wrong one -/
def hv_sc (L : Nat → Nat) (n b len p : Nat) (σ : am_St) : Prop := ((∀ j, j < p → hv_gp L n b len j) ∧ σ.1 66 29 = hI (b + p) ∧ σ.1 66 30 = 0) ∨ ∃ w, w < p ∧ ¬ hv_gp L n b len w ∧ (∀ j, j < w → hv_gp L n b len j) ∧ σ.1 66 29 = hI (b + w) ∧ σ.1 66 30 = 1
/-- only where the model is, whether it is bad, and what is told of the statement k -/
def hv_F9 (k : Nat) (σ τ : am_St) : Prop := ∀ i j, ¬ (i = 66 ∧ 29 ≤ j ∧ j ≤ 32) → ¬ ((i = 87 ∨ i = 88) ∧ j = k) → ¬ (i = 89 ∧ 7 * k ≤ j ∧ j < 7 * k + 7) → τ.1 i j = σ.1 i j
theorem hv_F9.rfl' (k : Nat) (σ : am_St) : hv_F9 k σ σ := fun _ _ _ _ _ => rfl
theorem hv_F9.trans {k : Nat} {σ τ υ : am_St} (a : hv_F9 k σ τ) (b : hv_F9 k τ υ) : hv_F9 k σ υ := fun i j h1 h2 h3 => (b i j h1 h2 h3).trans (a i j h1 h2 h3)
theorem hv_F9.set {k : Nat} {σ τ : am_St} (f : hv_F9 k σ τ) (a b : Nat) (x : Int32) (e : (a = 66 ∧ 29 ≤ b ∧ b ≤ 32) ∨ ((a = 87 ∨ a = 88) ∧ b = k) ∨ (a = 89 ∧ 7 * k ≤ b ∧ b < 7 * k + 7)) : hv_F9 k σ (am_sI τ a b x) := fun i j h1 h2 h3 => by
  by_cases c : i = a
  · subst c
    rw [hv_g3 _ _ (show j ≠ b from fun q => by subst q; rcases e with e | e | e; exact h1 e; exact h2 e; exact h3 e)]
    exact f i j h1 h2 h3
  · rw [hv_g2 _ c]; exact f i j h1 h2 h3
theorem hv_F9.ltm {k n : Nat} {L : Nat → Nat} {σ τ : am_St} (f : hv_F9 k σ τ) (x : hv_ltm n L σ) : hv_ltm n L τ := ⟨x.1, by rw [f 66 28 (by omega) (by omega) (by omega)]; exact x.2.1, fun i hi => by rw [f 86 i (by omega) (by omega) (by omega)]; exact x.2.2 i hi⟩
/-- only where the model is and whether it is bad -/
def hv_F2 (σ τ : am_St) : Prop := ∀ i j, ¬ (i = 66 ∧ (j = 29 ∨ j = 30)) → τ.1 i j = σ.1 i j
theorem hv_F2.F9 {σ τ : am_St} (f : hv_F2 σ τ) (k : Nat) : hv_F9 k σ τ := fun i j h1 _ _ => f i j (fun e => h1 ⟨e.1, by omega, by omega⟩)
theorem hv_F2.mk2 (σ : am_St) (x y : Int32) : hv_F2 σ (am_sI (am_sI σ 66 30 x) 66 29 y) := fun i j h => by
  by_cases c : i = 66
  · subst c; rw [hv_g3 _ _ (by omega), hv_g3 _ _ (by omega)]
  · rw [hv_g2 _ c, hv_g2 _ c]
theorem hv_F2.mk1 (σ : am_St) (x : Int32) : hv_F2 σ (am_sI σ 66 30 x) := fun i j h => by
  by_cases c : i = 66
  · subst c; rw [hv_g3 _ _ (by omega)]
  · rw [hv_g2 _ c]
theorem hv_ltm.here {n : Nat} {L : Nat → Nat} {σ : am_St} (x : hv_ltm n L σ) {p : Nat} (hp : p < 200) (e : σ.1 66 29 = hI p) : f_M_here σ = some (if p < n then hI (L p) else -1, σ) := by
  obtain ⟨h1, h2, h3⟩ := x
  rw [eq_M_here]; unfold g_M_here
  rw [h2, e]
  by_cases c : p < n
  · rw [if_neg (hI_nle (by omega) (by omega) c), if_pos (hI_ix (by omega) (by decide)), hI_clamp (by omega), if_pos c, (h3 p c).1]
  · rw [if_pos ((hI_le (by omega) (by omega)).mpr (by omega)), if_neg c]
theorem hv_M_rd {n : Nat} {L : Nat → Nat} {σ : am_St} (lt : hv_ltm n L σ) {b len p : Nat} (hb : b ≤ 96) (hp : p < 20) (s : hv_sc L n b len p σ) (g : (∀ j, j < p → hv_gp L n b len j) → (hv_gp L n b len p ↔ b + p < n ∧ 48 ≤ L (b + p) ∧ L (b + p) ≤ 57)) : ∃ v τ, f_M_readDigit σ = some (v, τ) ∧ hv_sc L n b len (p + 1) τ ∧ hv_F2 σ τ ∧ ((∀ j, j < p + 1 → hv_gp L n b len j) → v = hI (L (b + p) - 48)) := by
  have kn := lt.1
  have B1 : f_M_readDigit_25 σ = some (0, am_sI σ 66 30 1) := by
    rw [eq_M_readDigit_25]; unfold g_M_readDigit_25
    rw [eq_M_readDigit_30]; unfold g_M_readDigit_30
    rw [if_pos (by decide)]
    dsimp only
    rw [hv_g1, if_neg (by decide)]
  rw [eq_M_readDigit]; unfold g_M_readDigit
  rcases s with ⟨s1, s2, s3⟩ | ⟨w, w1, w2, w3, w4, w5⟩
  · rw [s3, if_pos rfl, lt.here (by omega) s2]
    simp only [Option.bind_some]
    by_cases q : b + p < n ∧ 48 ≤ L (b + p) ∧ L (b + p) ≤ 57
    · have lp := (lt.2.2 (b + p) q.1).2
      have R : f_M_in (hI (L (b + p))).toInt64 48 57 σ = some (1, σ) := by
        rw [hv_M_in, hI_long (by omega)]
        have e1 := hL_le (n := 48) (m := L (b + p)) (by decide) (by omega)
        have e2 := hL_le (n := L (b + p)) (m := 57) (by omega) (by decide)
        rw [if_pos (show (48 : Int64) ≤ hL (L (b + p)) ∧ hL (L (b + p)) ≤ 57 from ⟨e1.mpr q.2.1, e2.mpr q.2.2⟩)]
      rw [if_pos q.1, R]
      simp only [Option.bind_some, hv_10, ↓reduceIte]
      rw [eq_M_readDigit_30]; unfold g_M_readDigit_30
      rw [if_pos (by decide)]
      dsimp only
      rw [hv_g1, if_pos rfl, hv_g3 _ _ (show (29 : Nat) ≠ 30 by decide), s2, hI_add1, hv_g1, show hI (b + p + 1) - 1 = hI (b + p) from hI_sub (n := b + p + 1) (m := 1) (by omega), if_pos (hI_ix (by omega) (by decide)), hI_clamp (by omega), hv_g2 _ (show (86 : Nat) ≠ 66 by decide), hv_g2 _ (show (86 : Nat) ≠ 66 by decide), (lt.2.2 (b + p) q.1).1, show hI (L (b + p)) - 48 = hI (L (b + p) - 48) from hI_sub (m := 48) q.2.1]
      refine ⟨_, _, rfl, .inl ⟨fun j hj => ?_, by rw [hv_g1]; rfl, by rw [hv_g3 _ _ (by decide), hv_g1]⟩, hv_F2.mk2 _ _ _, fun _ => rfl⟩
      by_cases z : j = p
      · rw [z]; exact (g s1).mpr q
      · exact s1 j (by omega)
    · have R : f_M_in (if b + p < n then hI (L (b + p)) else -1).toInt64 48 57 σ = some (0, σ) := by
        by_cases c : b + p < n
        · have lp := (lt.2.2 (b + p) c).2
          rw [if_pos c, hv_M_in, hI_long (by omega)]
          have e1 := hL_le (n := 48) (m := L (b + p)) (by decide) (by omega)
          have e2 := hL_le (n := L (b + p)) (m := 57) (by omega) (by decide)
          rw [if_neg (show ¬ ((48 : Int64) ≤ hL (L (b + p)) ∧ hL (L (b + p)) ≤ 57) from fun e => q ⟨c, e1.mp e.1, e2.mp e.2⟩)]
        · rw [if_neg c, hv_M_in, if_neg (by decide)]
      rw [R]
      simp only [Option.bind_some, ↓reduceIte]
      rw [B1]
      refine ⟨_, _, rfl, .inr ⟨p, by omega, fun z => q ((g s1).mp z), s1, by rw [hv_g3 _ _ (by decide)]; exact s2, hv_g1 _ _ _ _⟩, hv_F2.mk1 _ _, fun z => absurd ((g s1).mp (z p (by omega))) q⟩
  · rw [w5, if_neg (by decide), B1]
    exact ⟨_, _, rfl, .inr ⟨w, by omega, w2, w3, by rw [hv_g3 _ _ (by decide)]; exact w4, hv_g1 _ _ _ _⟩, hv_F2.mk1 _ _, fun z => absurd (z w (by omega)) w2⟩
theorem hv_M_sg {n : Nat} {L : Nat → Nat} {σ : am_St} (lt : hv_ltm n L σ) {b len p : Nat} (hb : b ≤ 96) (hp : p < 20) (s : hv_sc L n b len p σ) (g : (∀ j, j < p → hv_gp L n b len j) → (hv_gp L n b len p ↔ b + p < n ∧ (L (b + p) = 43 ∨ L (b + p) = 45))) : ∃ v τ, f_M_readSign σ = some (v, τ) ∧ hv_sc L n b len (p + 1) τ ∧ hv_F2 σ τ ∧ ((∀ j, j < p + 1 → hv_gp L n b len j) → v = hI (if L (b + p) = 43 then 1 else 0)) := by
  have kn := lt.1
  have V : ∀ (c y : Int32) (τ : am_St), f_M_readSign_50 c y 1 τ = some (if c = 43 then 1 else 0, am_sI τ 66 29 (y + 1)) ∧ f_M_readSign_50 c y 0 τ = some (if c = 43 then 1 else 0, am_sI τ 66 29 (y + 0)) := fun c y τ => by
    rw [eq_M_readSign_50, eq_M_readSign_50]
    unfold g_M_readSign_50
    dsimp only
    constructor
    · split <;> rfl
    · split <;> rfl
  have B1 : ∀ c : Int32, f_M_readSign_25 c σ = some (if c = 43 then 1 else 0, am_sI (am_sI σ 66 30 1) 66 29 (σ.1 66 29)) := fun c => by
    rw [eq_M_readSign_25]; unfold g_M_readSign_25
    rw [eq_M_readSign_30]; unfold g_M_readSign_30
    rw [if_pos (by decide)]
    dsimp only
    rw [hv_g1, if_neg (by decide), (V _ _ _).2, hv_g3 _ _ (show (29 : Nat) ≠ 30 by decide), Int32.add_zero]
  have B0 : ∀ c : Int32, f_M_readSign_29 c σ = some (if c = 43 then 1 else 0, am_sI (am_sI σ 66 30 0) 66 29 (σ.1 66 29 + 1)) := fun c => by
    rw [eq_M_readSign_29]; unfold g_M_readSign_29
    rw [eq_M_readSign_30]; unfold g_M_readSign_30
    rw [if_pos (by decide)]
    dsimp only
    rw [hv_g1, if_pos rfl, (V _ _ _).1, hv_g3 _ _ (show (29 : Nat) ≠ 30 by decide)]
  rw [eq_M_readSign]; unfold g_M_readSign
  rcases s with ⟨s1, s2, s3⟩ | ⟨w, w1, w2, w3, w4, w5⟩
  · rw [lt.here (by omega) s2]
    simp only [Option.bind_some]
    rw [s3, if_pos rfl]
    by_cases c : b + p < n
    · have lp := (lt.2.2 (b + p) c).2
      rw [if_pos c]
      by_cases q1 : L (b + p) = 43
      · rw [if_pos (show hI (L (b + p)) = 43 by rw [q1]; rfl), B0, s2, hI_add1]
        refine ⟨_, _, rfl, .inl ⟨fun j hj => ?_, by rw [hv_g1]; rfl, by rw [hv_g3 _ _ (by decide), hv_g1]⟩, hv_F2.mk2 _ _ _, fun _ => by rw [if_pos (show hI (L (b + p)) = 43 by rw [q1]; rfl), if_pos q1]; rfl⟩
        by_cases z : j = p
        · rw [z]; exact (g s1).mpr ⟨c, .inl q1⟩
        · exact s1 j (by omega)
      · have n43 : ¬ hI (L (b + p)) = 43 := hI_ne (m := 43) (by omega) (by decide) q1
        rw [if_neg n43]
        by_cases q2 : L (b + p) = 45
        · rw [if_pos (show hI (L (b + p)) = 45 by rw [q2]; rfl), B0, s2, hI_add1]
          refine ⟨_, _, rfl, .inl ⟨fun j hj => ?_, by rw [hv_g1]; rfl, by rw [hv_g3 _ _ (by decide), hv_g1]⟩, hv_F2.mk2 _ _ _, fun _ => by rw [if_neg n43, if_neg q1]; rfl⟩
          by_cases z : j = p
          · rw [z]; exact (g s1).mpr ⟨c, .inr q2⟩
          · exact s1 j (by omega)
        · rw [if_neg (show ¬ hI (L (b + p)) = 45 from hI_ne (m := 45) (by omega) (by decide) q2), B1]
          have ng : ¬ hv_gp L n b len p := fun z => ((g s1).mp z).2.elim q1 q2
          exact ⟨_, _, rfl, .inr ⟨p, by omega, ng, s1, by rw [hv_g1]; exact s2, by rw [hv_g3 _ _ (by decide), hv_g1]⟩, hv_F2.mk2 _ _ _, fun z => absurd (z p (by omega)) ng⟩
    · rw [if_neg c, if_neg (by decide), if_neg (by decide), B1]
      have ng : ¬ hv_gp L n b len p := fun z => c ((g s1).mp z).1
      exact ⟨_, _, rfl, .inr ⟨p, by omega, ng, s1, by rw [hv_g1]; exact s2, by rw [hv_g3 _ _ (by decide), hv_g1]⟩, hv_F2.mk2 _ _ _, fun z => absurd (z p (by omega)) ng⟩
  · have hw : b + w < 200 := by omega
    rw [lt.here hw w4]
    simp only [Option.bind_some]
    rw [w5, if_neg (by decide), B1]
    exact ⟨_, _, rfl, .inr ⟨w, by omega, w2, w3, by rw [hv_g1]; exact w4, by rw [hv_g3 _ _ (by decide), hv_g1]⟩, hv_F2.mk2 _ _ _, fun z => absurd (z w (by omega)) w2⟩
/-- the end of a statement -/
theorem hv_M_end {n : Nat} {L : Nat → Nat} {σ : am_St} (lt : hv_ltm n L σ) {b len p k : Nat} (hb : b ≤ 96) (hp : p < 20) (y : Int32) (s32 : σ.1 66 32 = hI k) (s : hv_sc L n b len p σ) (g : (∀ j, j < p → hv_gp L n b len j) → (hv_gp L n b len p ↔ b + p < n ∧ L (b + p) = 59)) : ∃ τ, f_M_readStatement_241 y σ = some τ ∧ hv_sc L n b len (p + 1) τ ∧ τ.1 66 31 = y ∧ τ.1 66 32 = hI (k + 1) ∧ ∀ i j, ¬ (i = 66 ∧ 29 ≤ j ∧ j ≤ 32) → τ.1 i j = σ.1 i j := by
  have kn := lt.1
  have V : ∀ (z : Int32) (τ : am_St), τ.1 66 32 = hI k → f_M_readStatement_286 (τ.1 66 29) z τ = some (am_sI (am_sI τ 66 29 (τ.1 66 29 + z)) 66 32 (hI (k + 1))) := fun z τ e => by
    rw [eq_M_readStatement_286]; unfold g_M_readStatement_286
    dsimp only
    rw [hv_g3 _ _ (show (32 : Nat) ≠ 29 by decide), e, hI_add1]
  have B1 : ∀ τ : am_St, τ.1 66 32 = hI k → f_M_readStatement_261 τ = some (am_sI (am_sI (am_sI τ 66 30 1) 66 29 (τ.1 66 29)) 66 32 (hI (k + 1))) := fun τ e => by
    rw [eq_M_readStatement_261]; unfold g_M_readStatement_261
    rw [eq_M_readStatement_266]; unfold g_M_readStatement_266
    rw [if_pos (by decide)]
    dsimp only
    rw [hv_g1, if_neg (by decide), V 0 _ (by rw [hv_g3 _ _ (by decide)]; exact e), hv_g3 _ _ (show (29 : Nat) ≠ 30 by decide), Int32.add_zero]
  have B0 : ∀ τ : am_St, τ.1 66 32 = hI k → f_M_readStatement_266 0 τ = some (am_sI (am_sI (am_sI τ 66 30 0) 66 29 (τ.1 66 29 + 1)) 66 32 (hI (k + 1))) := fun τ e => by
    rw [eq_M_readStatement_266]; unfold g_M_readStatement_266
    rw [if_pos (by decide)]
    dsimp only
    rw [hv_g1, if_pos rfl, V 1 _ (by rw [hv_g3 _ _ (by decide)]; exact e), hv_g3 _ _ (show (29 : Nat) ≠ 30 by decide)]
  have FR : ∀ (τ : am_St) (x z u : Int32), (∀ i j, ¬ (i = 66 ∧ 29 ≤ j ∧ j ≤ 32) → τ.1 i j = σ.1 i j) → ∀ i j, ¬ (i = 66 ∧ 29 ≤ j ∧ j ≤ 32) → (am_sI (am_sI (am_sI τ 66 30 x) 66 29 z) 66 32 u).1 i j = σ.1 i j := fun τ x z u f i j h => by
    by_cases c : i = 66
    · subst c; rw [hv_g3 _ _ (by omega), hv_g3 _ _ (by omega), hv_g3 _ _ (by omega)]; exact f 66 j h
    · rw [hv_g2 _ c, hv_g2 _ c, hv_g2 _ c]; exact f i j h
  have F0 : ∀ i j, ¬ (i = 66 ∧ 29 ≤ j ∧ j ≤ 32) → (am_sI σ 66 31 y).1 i j = σ.1 i j := fun i j h => by
    by_cases c : i = 66
    · subst c; rw [hv_g3 _ _ (by omega)]
    · rw [hv_g2 _ c]
  have lt2 : hv_ltm n L (am_sI σ 66 31 y) := ⟨lt.1, by rw [F0 66 28 (by omega)]; exact lt.2.1, fun i hi => by rw [F0 86 i (by omega)]; exact lt.2.2 i hi⟩
  have e32 : (am_sI σ 66 31 y).1 66 32 = hI k := by rw [hv_g3 _ _ (by decide)]; exact s32
  have r31 : ∀ x z u : Int32, (am_sI (am_sI (am_sI (am_sI σ 66 31 y) 66 30 x) 66 29 z) 66 32 u).1 66 31 = y := fun x z u => by rw [hv_g3 _ _ (by decide), hv_g3 _ _ (by decide), hv_g3 _ _ (by decide), hv_g1]
  have r29 : ∀ x z u : Int32, (am_sI (am_sI (am_sI (am_sI σ 66 31 y) 66 30 x) 66 29 z) 66 32 u).1 66 29 = z := fun x z u => by rw [hv_g3 _ _ (by decide), hv_g1]
  have r30 : ∀ x z u : Int32, (am_sI (am_sI (am_sI (am_sI σ 66 31 y) 66 30 x) 66 29 z) 66 32 u).1 66 30 = x := fun x z u => by rw [hv_g3 _ _ (by decide), hv_g3 _ _ (by decide), hv_g1]
  rw [eq_M_readStatement_241]; unfold g_M_readStatement_241
  dsimp only
  rcases s with ⟨s1, s2, s3⟩ | ⟨w, w1, w2, w3, w4, w5⟩
  · have e29 : (am_sI σ 66 31 y).1 66 29 = hI (b + p) := by rw [hv_g3 _ _ (by decide)]; exact s2
    rw [hv_g3 _ _ (show (30 : Nat) ≠ 31 by decide), s3, if_pos rfl, lt2.here (by omega) e29]
    simp only [Option.bind_some]
    by_cases q : b + p < n ∧ L (b + p) = 59
    · rw [if_pos q.1, if_pos (show hI (L (b + p)) = 59 by rw [q.2]; rfl), B0 _ e32, e29, hI_add1]
      refine ⟨_, rfl, .inl ⟨fun j hj => ?_, r29 _ _ _, r30 _ _ _⟩, r31 _ _ _, hv_g1 _ _ _ _, FR _ _ _ _ F0⟩
      by_cases z : j = p
      · rw [z]; exact (g s1).mpr q
      · exact s1 j (by omega)
    · have ne : ¬ (if b + p < n then hI (L (b + p)) else -1) = 59 := by
        by_cases c : b + p < n
        · have lp := (lt.2.2 (b + p) c).2
          rw [if_pos c]; exact hI_ne (m := 59) (by omega) (by decide) (fun z => q ⟨c, z⟩)
        · rw [if_neg c]; decide
      rw [if_neg ne, B1 _ e32, e29]
      have ng : ¬ hv_gp L n b len p := fun z => q ((g s1).mp z)
      exact ⟨_, rfl, .inr ⟨p, by omega, ng, s1, r29 _ _ _, r30 _ _ _⟩, r31 _ _ _, hv_g1 _ _ _ _, FR _ _ _ _ F0⟩
  · rw [hv_g3 _ _ (show (30 : Nat) ≠ 31 by decide), w5, if_neg (by decide), B1 _ e32, hv_g3 _ _ (show (29 : Nat) ≠ 31 by decide), w4]
    exact ⟨_, rfl, .inr ⟨w, by omega, w2, w3, r29 _ _ _, r30 _ _ _⟩, r31 _ _ _, hv_g1 _ _ _ _, FR _ _ _ _ F0⟩
