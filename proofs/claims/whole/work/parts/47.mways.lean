/-! PURE: the model counts the ways -/
theorem hv_M_has {k q : Nat} (hk : k < 16) (hq : q < 4) (σ : am_St) : f_M_has (hI k) (hI q) σ = some (if k.testBit q then 1 else 0, σ) := by
  rw [eq_M_has]; unfold g_M_has
  by_cases t : k.testBit q = true
  · rw [if_pos ((hI_bit hk hq).mpr t), if_pos t]
  · rw [if_neg (fun e => t ((hI_bit hk hq).mp e)), if_neg t]
theorem hv_M_hasm {R : Nat} {may : Nat → Bool} {x : Int32} (m : hv_msk R may x) {r : Nat} (hr : r < 4) (hR : r < R) (σ : am_St) : f_M_has x (hI r) σ = some (if may r then 1 else 0, σ) := by
  rw [eq_M_has]; unfold g_M_has
  rw [m.has hr hR]
  cases may r
  · rw [if_neg (show ¬ (if false = true then (1 : Int32) else 0) = 1 by decide), if_neg (by decide)]
  · rw [if_pos (show (if true = true then (1 : Int32) else 0) = 1 by decide), if_pos rfl]
/-- the model's masks -/
def hv_mm (h : hv) (may : Nat → Nat → Bool) (τ : am_St) : Prop := ∀ m, m < 6 → hv_msk h.R (may m) (τ.1 83 m)
theorem hv_mm.nar {h : hv} {may : Nat → Nat → Bool} {τ : am_St} (x : hv_mm h may τ) (may' : Nat → Nat → Bool) {m : Nat} {y : Int32} (hy : hv_msk h.R (may' m) y) (e : ∀ j r, j ≠ m → may' j r = may j r) : hv_mm h may' (am_sI τ 83 m y) := by
  intro j hj
  by_cases c : j = m
  · subst c; rw [hv_g1]; exact hy
  · rw [hv_g3 _ _ c]; exact (x j hj).congr fun r _ => (e j r c).symm
theorem hv_mm.congr {h : hv} {may may' : Nat → Nat → Bool} {τ : am_St} (x : hv_mm h may τ) (e : ∀ m r, m < 6 → r < 4 → may m r = may' m r) : hv_mm h may' τ := fun m hm => (x m hm).congr fun r hr => e m r hm hr
theorem hv_M_lay_30 {h : hv} {σ : am_St} (d : hv_mod h σ) (ok : hv_ok h) (c : Nat) (hc : c < 4) (w : hv_mm h (hv_mayN h c 0) σ) : ∃ τ, f_M_layMay_30 (hI c) 0 σ = some τ ∧ hv_fr hv_pm σ τ ∧ hv_mm h (hv_may h c) τ := by
  have kF := ok.F
  have kC := ok.C
  unfold f_M_layMay_30
  refine hv_up h.F (fun i s => s.1 = hI c ∧ s.2.1 = hI i ∧ hv_fr hv_pm σ s.2.2 ∧ hv_mm h (hv_mayN h c i) s.2.2) 0 (Nat.zero_le _) _ ⟨rfl, rfl, hv_fr.rfl' _ _, w⟩ ?_ ?_
  · rintro i ⟨x, y, τ⟩ hi ⟨e1, e2, fr, q⟩
    dsimp only at e1 e2 fr q
    subst e1 e2
    have d2 := fr.mod d
    obtain ⟨f1, f2, f3, f4⟩ := ok.fact i hi
    have f5 := ok.R
    have f6 := ok.M
    refine .inl ?_
    have ix : am_ix (hI i) 17 = true := hI_ix (by omega) (by decide)
    show ∃ s2, b_M_layMay_30 (hI c) (hI i) τ = _ ∧ _
    unfold b_M_layMay_30
    rw [d2.F, if_neg (hI_nle (by omega) (by omega) (by omega)), if_pos ix, hI_clamp (by omega), d2.fc i hi, d2.fr i hi, d2.fm i hi, d2.fi i hi]
    dsimp only
    rw [if_pos ix]
    by_cases cc : h.fc i = c
    · rw [if_pos (by rw [cc]), if_pos ix, if_pos (hI_ix (show h.fm i < 6 by omega) (by decide)), if_pos ix, hI_clamp (show h.fm i < 2 ^ 31 by omega)]
      have ix2 : am_ix (hI (h.fm i)) 6 = true := hI_ix (show h.fm i < 6 by omega) (by decide)
      by_cases ci : h.fi i = 1
      · rw [if_pos (by rw [ci]; rfl)]
        simp only [eq_M_layMay_86, g_M_layMay_86]
        rw [if_pos ix2, hI_clamp (show h.fm i < 2 ^ 31 by omega), eq_M_layMay_88]
        unfold g_M_layMay_88
        refine ⟨_, rfl, rfl, hI_add1 i, fr.set 83 _ _ rfl, q.nar _ (m := h.fm i) (((q _ (by omega)).bit (show h.fr i < 4 by omega)).congr fun r _ => (hv_mayN_is ⟨cc, rfl⟩ ci).symm) fun j r hj => hv_mayN_other (fun e => hj e.2.symm)⟩
      · rw [if_neg (hI_ne1 (by omega) ci)]
        simp only [eq_M_layMay_86, g_M_layMay_86]
        rw [if_pos ix2, hI_clamp (show h.fm i < 2 ^ 31 by omega), eq_M_layMay_88]
        unfold g_M_layMay_88
        refine ⟨_, rfl, rfl, hI_add1 i, fr.set 83 _ _ rfl, q.nar _ (m := h.fm i) (((q _ (by omega)).not (show h.fr i < 4 by omega)).congr fun r _ => (hv_mayN_not ⟨cc, rfl⟩ ci).symm) fun j r hj => hv_mayN_other (fun e => hj e.2.symm)⟩
    · rw [if_neg (hI_ne (by omega) (by omega) cc), eq_M_layMay_88]
      unfold g_M_layMay_88
      exact ⟨_, rfl, rfl, hI_add1 i, fr, q.congr fun m r _ _ => (hv_mayN_other (fun e => cc e.1)).symm⟩
  · rintro ⟨x, y, τ⟩ ⟨e1, e2, fr, q⟩
    dsimp only at e1 e2 fr q
    subst e1 e2
    have d2 := fr.mod d
    show ∃ s2, b_M_layMay_30 (hI c) (hI h.F) τ = _ ∧ _
    unfold b_M_layMay_30
    rw [d2.F, if_pos (Int32.le_refl _)]
    exact ⟨_, rfl, fr, q⟩
theorem hv_M_lay {h : hv} {σ : am_St} (d : hv_mod h σ) (ok : hv_ok h) (c : Nat) (hc : c < 4) : ∃ τ, f_M_layMay (hI c) σ = some τ ∧ hv_fr hv_pm σ τ ∧ hv_mm h (hv_may h c) τ := by
  have kR := ok.R
  rw [eq_M_layMay]; unfold g_M_layMay f_M_layMay_2
  refine hv_up 6 (fun i s => s.1 = hI c ∧ s.2.1 = hI i ∧ hv_fr hv_pm σ s.2.2 ∧ ∀ m, m < i → hv_msk h.R (fun _ => true) (s.2.2.1 83 m)) 0 (Nat.zero_le _) _ ⟨rfl, rfl, hv_fr.rfl' _ _, fun m hm => absurd hm (Nat.not_lt_zero m)⟩ ?_ ?_
  · rintro i ⟨x, y, τ⟩ hi ⟨e1, e2, fr, q4⟩
    dsimp only at e1 e2 fr q4
    subst e1 e2
    refine .inl ?_
    show ∃ s2, b_M_layMay_2 (hI c) (hI i) τ = _ ∧ _
    unfold b_M_layMay_2
    rw [if_neg (hI_nge6 (n := i) (by omega)), if_pos (hI_ix hi (by decide)), hI_clamp (by omega), (fr.mod d).R]
    refine ⟨_, rfl, rfl, hI_add1 i, fr.set 83 _ _ rfl, fun m hm => ?_⟩
    dsimp only
    by_cases cm : m = i
    · subst cm; rw [hv_g1]; exact hv_msk.full (by omega)
    · rw [hv_g3 _ _ cm]; exact q4 m (by omega)
  · rintro ⟨x, y, τ⟩ ⟨e1, e2, fr, q4⟩
    dsimp only at e1 e2 fr q4
    subst e1 e2
    show ∃ s2, b_M_layMay_2 (hI c) (hI 6) τ = _ ∧ _
    unfold b_M_layMay_2
    rw [if_pos (show (6 : Int32) ≤ hI 6 by decide)]
    obtain ⟨υ, e, f2, o⟩ := hv_M_lay_30 (fr.mod d) ok c hc q4
    exact ⟨υ, by rw [e]; rfl, fr.trans f2, o⟩
/-- only the cells 84 and 85 -/
def hv_p45 (i : Nat) : Bool := Nat.beq i 84 || Nat.beq i 85
theorem hv_p45_not {i : Nat} (h1 : i ≠ 84) (h2 : i ≠ 85) : hv_p45 i = false := by
  unfold hv_p45
  rw [show Nat.beq i 84 = false from Bool.eq_false_iff.mpr (fun e => h1 (Nat.eq_of_beq_eq_true e)), show Nat.beq i 85 = false from Bool.eq_false_iff.mpr (fun e => h2 (Nat.eq_of_beq_eq_true e))]; rfl
theorem hv_fr.p45 {σ τ : am_St} (f : hv_fr hv_p45 σ τ) : hv_fr hv_pm σ τ := ⟨f.1, fun i e => f.2 i (hv_p45_not (fun c => by rw [c] at e; cases e) (fun c => by rw [c] at e; cases e))⟩
theorem hv_fr.mm {h : hv} {may : Nat → Nat → Bool} {σ τ : am_St} (f : hv_fr hv_p45 σ τ) (x : hv_mm h may σ) : hv_mm h may τ := fun m hm => by rw [f.2 83 rfl]; exact x m hm
theorem hv_M_cw_151 {h : hv} {σ : am_St} (d : hv_mod h σ) (ok : hv_ok h) (x1 : Int32) (v : Nat → Int32) (w : ∀ q, q < h.R → σ.1 85 q = v q) : ∃ x, f_M_countWays_151 x1 0 σ = some x ∧ ∃ τ, x = .inl (x1 + 1, τ) ∧ hv_fr hv_p45 σ τ ∧ (∀ q, q < h.R → τ.1 84 q = v q) ∧ ∀ q, h.R ≤ q → τ.1 84 q = σ.1 84 q := by
  have kR := ok.R
  unfold f_M_countWays_151
  refine hv_up h.R (fun i s => s.1 = x1 ∧ s.2.1 = hI i ∧ hv_fr hv_p45 σ s.2.2 ∧ (∀ q, s.2.2.1 85 q = σ.1 85 q) ∧ (∀ q, q < i → s.2.2.1 84 q = v q) ∧ ∀ q, h.R ≤ q → s.2.2.1 84 q = σ.1 84 q) 0 (Nat.zero_le _) _ ⟨rfl, rfl, hv_fr.rfl' _ _, fun _ => rfl, fun q hq => absurd hq (Nat.not_lt_zero q), fun _ _ => rfl⟩ ?_ ?_
  · rintro i ⟨x, y, τ⟩ hi ⟨e1, e2, fr, t1, t2, t3⟩
    dsimp only at e1 e2 fr t1 t2 t3
    subst e1 e2
    refine .inl ?_
    show ∃ s2, b_M_countWays_151 x (hI i) τ = _ ∧ _
    unfold b_M_countWays_151
    rw [(fr.p45.mod d).R, if_neg (hI_nle (by omega) (by omega) (by omega)), if_pos (hI_ix (show i < 4 by omega) (by decide)), if_pos (hI_ix (show i < 4 by omega) (by decide)), hI_clamp (by omega), t1, w i hi]
    refine ⟨_, rfl, rfl, hI_add1 i, fr.set 84 _ _ rfl, fun q => ?_, fun q hq => ?_, fun q hq => ?_⟩
    · dsimp only; rw [hv_g2 _ (by decide)]; exact t1 q
    · dsimp only
      by_cases c : q = i
      · subst c; rw [hv_g1]
      · rw [hv_g3 _ _ c]; exact t2 q (by omega)
    · dsimp only; rw [hv_g3 _ _ (by omega)]; exact t3 q hq
  · rintro ⟨x, y, τ⟩ ⟨e1, e2, fr, t1, t2, t3⟩
    dsimp only at e1 e2 fr t1 t2 t3
    subst e1 e2
    show ∃ s2, b_M_countWays_151 x (hI h.R) τ = _ ∧ _
    unfold b_M_countWays_151
    rw [(fr.p45.mod d).R, if_pos (Int32.le_refl _)]
    exact ⟨_, rfl, τ, rfl, fr, t2, t3⟩
theorem hv_M_cw_70 {h : hv} {σ : am_St} (d : hv_mod h σ) (ok : hv_ok h) {may : Nat → Nat → Bool} (w : hv_mm h may σ) {m r : Nat} (hm : m < 6) (hr : r < h.R) (v : Nat → Nat) (c4 : ∀ q, q < h.R → σ.1 84 q = hI (v q)) : ∃ x, f_M_countWays_70 (hI m) (hI r) 0 0 σ = some x ∧ x = .inl (hI m, hI (r + 1), am_sI σ 85 r (hI (if may m r then hv_sum h.R fun q => if hv_step h r q then v q else 0 else 0))) := by
  have kR := ok.R
  unfold f_M_countWays_70
  refine hv_up h.R (fun i s => s = (hI m, hI r, hI (hv_sum i fun q => if hv_step h r q then v q else 0), hI i, σ)) 0 (Nat.zero_le _) _ rfl ?_ ?_
  · rintro i s hi rfl
    refine .inl ⟨_, ?_, rfl⟩
    show b_M_countWays_70 (hI m) (hI r) (hI _) (hI i) σ = _
    unfold b_M_countWays_70
    rw [d.R, if_neg (hI_nle (by omega) (by omega) (by omega))]
    have ixi : am_ix (hI i) 4 = true := hI_ix (by omega) (by decide)
    have A : ∀ n, hv_step h r i = true → f_M_countWays_100 (hI m) (hI r) (hI i) (hI n) σ = some (.inl (hI m, hI r, hI (n + v i), hI (i + 1), σ)) := fun n _ => by
      rw [eq_M_countWays_100]; unfold g_M_countWays_100
      rw [if_pos ixi, hI_clamp (by omega), c4 i hi, eq_M_countWays_111]
      unfold g_M_countWays_111
      rw [← hI_add, ← hI_add1]
    by_cases c : i = r
    · have st : hv_step h r i = true := by unfold hv_step; rw [c, beq_self_eq_true]; rfl
      rw [if_pos (by rw [c]), A _ st, hv_sum_succ, if_pos st]
    · rw [if_neg (hI_ne (by omega) (by omega) c), if_pos (hI_ix (show r < 4 by omega) (by decide)), hI_clamp (show r < 2 ^ 31 by omega), d.door r (by omega), hv_M_has (ok.door16 (by omega)) (by omega)]
      simp only [Option.bind_some]
      have e : hv_step h r i = (h.door r).testBit i := by unfold hv_step; rw [beq_eq_false_iff_ne.mpr (fun q => c q.symm)]; rfl
      rw [hv_sum_succ, e]
      cases t : (h.door r).testBit i
      · simp only [Bool.false_eq_true, ↓reduceIte]
        rw [eq_M_countWays_111]
        unfold g_M_countWays_111
        rw [Int32.add_zero, ← hI_add1]; rfl
      · simp only [↓reduceIte, hv_10]
        rw [A _ (e.trans t)]
  · rintro s rfl
    refine ⟨_, ?_, rfl⟩
    show b_M_countWays_70 (hI m) (hI r) (hI _) (hI h.R) σ = _
    unfold b_M_countWays_70
    rw [d.R, if_pos (Int32.le_refl _), if_pos (hI_ix hm (by decide)), hI_clamp (by omega), hv_M_hasm (w m hm) (by omega) hr]
    simp only [Option.bind_some]
    have ix : am_ix (hI r) 4 = true := hI_ix (by omega) (by decide)
    cases t : may m r
    · rw [if_neg (show ¬ false = true by decide), if_pos rfl, eq_M_countWays_142]
      unfold g_M_countWays_142
      rw [if_pos ix, hI_clamp (by omega), hI_add1]; rfl
    · rw [if_pos (show true = true by decide), if_neg (by decide), eq_M_countWays_142]
      unfold g_M_countWays_142
      rw [if_pos ix, hI_clamp (by omega), hI_add1]; rfl
theorem hv_M_cw_57 {h : hv} {σ : am_St} (d : hv_mod h σ) (ok : hv_ok h) {may : Nat → Nat → Bool} (w : hv_mm h may σ) {m : Nat} (hm : m + 1 < 6) (c4 : ∀ q, q < h.R → σ.1 84 q = hI (hv_cnt h may m q)) : ∃ x, f_M_countWays_57 (hI (m + 1)) 0 σ = some x ∧ ∃ τ, x = .inl (hI (m + 2), τ) ∧ hv_fr hv_p45 σ τ ∧ (∀ q, q < h.R → τ.1 84 q = hI (hv_cnt h may (m + 1) q)) ∧ ∀ q, h.R ≤ q → τ.1 84 q = σ.1 84 q := by
  have kR := ok.R
  unfold f_M_countWays_57
  refine hv_up h.R (fun i s => s.1 = hI (m + 1) ∧ s.2.1 = hI i ∧ hv_fr hv_p45 σ s.2.2 ∧ (∀ q, s.2.2.1 84 q = σ.1 84 q) ∧ (∀ q, q < i → s.2.2.1 85 q = hI (hv_cnt h may (m + 1) q))) 0 (Nat.zero_le _) _ ⟨rfl, rfl, hv_fr.rfl' _ _, fun _ => rfl, fun q hq => absurd hq (Nat.not_lt_zero q)⟩ ?_ ?_
  · rintro i ⟨x, y, τ⟩ hi ⟨e1, e2, fr, t1, t2⟩
    dsimp only at e1 e2 fr t1 t2
    subst e1 e2
    refine .inl ?_
    have d2 := fr.p45.mod d
    obtain ⟨z, ez, rfl⟩ := hv_M_cw_70 d2 ok (fr.mm w) (m := m + 1) (by omega) hi (fun q => hv_cnt h may m q) (fun q hq => by rw [t1]; exact c4 q hq)
    show ∃ s2, b_M_countWays_57 (hI (m + 1)) (hI i) τ = _ ∧ _
    unfold b_M_countWays_57
    rw [d2.R, if_neg (hI_nle (by omega) (by omega) (by omega)), ez]
    refine ⟨_, rfl, rfl, rfl, fr.set 85 _ _ rfl, fun q => ?_, fun q hq => ?_⟩
    · dsimp only; rw [hv_g2 _ (by decide)]; exact t1 q
    · dsimp only
      by_cases c : q = i
      · subst c; rw [hv_g1, hv_cnt_succ]
      · rw [hv_g3 _ _ c]; exact t2 q (by omega)
  · rintro ⟨x, y, τ⟩ ⟨e1, e2, fr, t1, t2⟩
    dsimp only at e1 e2 fr t1 t2
    subst e1 e2
    have d2 := fr.p45.mod d
    obtain ⟨z, ez, υ, rfl, f2, u1, u2⟩ := hv_M_cw_151 d2 ok (hI (m + 1)) (fun q => hI (hv_cnt h may (m + 1) q)) t2
    show ∃ s2, b_M_countWays_57 (hI (m + 1)) (hI h.R) τ = _ ∧ _
    unfold b_M_countWays_57
    rw [d2.R, if_pos (Int32.le_refl _), ez]
    refine ⟨_, rfl, υ, by rw [hI_add1], fr.trans f2, u1, fun q hq => (u2 q hq).trans (t1 q)⟩
theorem hv_M_cw_47 {h : hv} {σ : am_St} (d : hv_mod h σ) (ok : hv_ok h) {may : Nat → Nat → Bool} (w : hv_mm h may σ) (c4 : ∀ q, q < h.R → σ.1 84 q = hI (hv_cnt h may 0 q)) (c5 : ∀ q, h.R ≤ q → q < 4 → σ.1 84 q = 0) : ∃ x, f_M_countWays_47 1 σ = some x ∧ ∃ τ, x = (hI (hv_all h may), τ) ∧ hv_fr hv_p45 σ τ := by
  have kR := ok.R
  have kM := ok.M
  unfold f_M_countWays_47
  refine hv_up h.M (fun i s => 1 ≤ i ∧ s.1 = hI i ∧ hv_fr hv_p45 σ s.2 ∧ (∀ q, q < h.R → s.2.1 84 q = hI (hv_cnt h may (i - 1) q)) ∧ ∀ q, h.R ≤ q → q < 4 → s.2.1 84 q = 0) 1 (by omega) _ ⟨by omega, rfl, hv_fr.rfl' _ _, c4, c5⟩ ?_ ?_
  · rintro i ⟨x, τ⟩ hi ⟨h1, e1, fr, t1, t2⟩
    dsimp only at e1 fr t1 t2
    subst e1
    refine .inl ?_
    have d2 := fr.p45.mod d
    obtain ⟨j, rfl⟩ : ∃ j, i = j + 1 := ⟨i - 1, by omega⟩
    obtain ⟨z, ez, υ, rfl, f2, u1, u2⟩ := hv_M_cw_57 d2 ok (fr.mm w) (m := j) (by omega) t1
    show ∃ s2, b_M_countWays_47 (hI (j + 1)) τ = _ ∧ _
    unfold b_M_countWays_47
    rw [d2.M, if_neg (hI_nle (by omega) (by omega) (by omega)), ez]
    exact ⟨_, rfl, by omega, rfl, fr.trans f2, u1, fun q hq h4 => (u2 q hq).trans (t2 q hq h4)⟩
  · rintro ⟨x, τ⟩ ⟨h1, e1, fr, t1, t2⟩
    dsimp only at e1 fr t1 t2
    subst e1
    have d2 := fr.p45.mod d
    show ∃ s2, b_M_countWays_47 (hI h.M) τ = _ ∧ _
    unfold b_M_countWays_47
    rw [d2.M, if_pos (Int32.le_refl _)]
    refine ⟨_, rfl, τ, ?_, fr⟩
    have e0 := t1 0 (by omega)
    have e1 := t1 1 (by omega)
    rw [e0, e1, hv_all_eq]
    have hR : h.R = 2 ∨ h.R = 3 ∨ h.R = 4 := by omega
    rcases hR with q | q | q
    · rw [t2 2 (by omega) (by decide), t2 3 (by omega) (by decide), q, hv_sum_succ, hv_sum_succ, hv_sum_zero, Nat.zero_add, hI_add, Int32.add_zero, Int32.add_zero]
    · rw [t1 2 (by omega), t2 3 (by omega) (by decide), q, hv_sum_succ, hv_sum_succ, hv_sum_succ, hv_sum_zero, Nat.zero_add, hI_add, hI_add, Int32.add_zero]
    · rw [t1 2 (by omega), t1 3 (by omega), q, hv_sum_succ, hv_sum_succ, hv_sum_succ, hv_sum_succ, hv_sum_zero, Nat.zero_add, hI_add, hI_add, hI_add]
theorem hv_M_cw {h : hv} {σ : am_St} (d : hv_mod h σ) (ok : hv_ok h) {may : Nat → Nat → Bool} (w : hv_mm h may σ) : ∃ τ, f_M_countWays σ = some (hI (hv_all h may), τ) ∧ hv_fr hv_p45 σ τ := by
  have kR := ok.R
  have kM := ok.M
  rw [eq_M_countWays]; unfold g_M_countWays f_M_countWays_2
  have L := hv_up (body := fun s : Int32 × am_St => b_M_countWays_2 s.1 s.2) (P := fun x => ∃ τ, x = (hI (hv_all h may), τ) ∧ hv_fr hv_p45 σ τ) 4 (fun i s => s.1 = hI i ∧ hv_fr hv_p45 σ s.2 ∧ (∀ q, q < i → q < h.R → s.2.1 84 q = hI (hv_cnt h may 0 q)) ∧ ∀ q, h.R ≤ q → q < i → s.2.1 84 q = 0) 0 (Nat.zero_le _) (0, σ) ⟨rfl, hv_fr.rfl' _ _, fun q hq => absurd hq (Nat.not_lt_zero q), fun q _ hq => absurd hq (Nat.not_lt_zero q)⟩ ?_ ?_
  · obtain ⟨x, e, τ, rfl, f⟩ := L
    exact ⟨τ, e, f⟩
  · rintro i ⟨x, τ⟩ hi ⟨e1, fr, t1, t2⟩
    dsimp only at e1 fr t1 t2
    subst e1
    refine .inl ?_
    have d2 := fr.p45.mod d
    have ix : am_ix (hI i) 4 = true := hI_ix hi (by decide)
    have A : ∀ y, f_M_countWays_38 (hI i) (hI i) y τ = some (.inl (hI (i + 1), am_sI τ 84 i y)) := fun y => by
      rw [eq_M_countWays_38]; unfold g_M_countWays_38
      rw [if_pos ix, hI_clamp (by omega), hI_add1]
    have B : f_M_countWays_37 (hI i) (hI i) τ = some (.inl (hI (i + 1), am_sI τ 84 i 0)) := by
      rw [eq_M_countWays_37]; unfold g_M_countWays_37; exact A 0
    have Z : ∀ y, (i < h.R → y = hI (hv_cnt h may 0 i)) → (h.R ≤ i → y = 0) → ∃ s2, some (.inl (hI (i + 1), am_sI τ 84 i y)) = (some (.inl s2) : Option ((Int32 × am_St) ⊕ (Int32 × am_St))) ∧ s2.1 = hI (i + 1) ∧ hv_fr hv_p45 σ s2.2 ∧ (∀ q, q < i + 1 → q < h.R → s2.2.1 84 q = hI (hv_cnt h may 0 q)) ∧ ∀ q, h.R ≤ q → q < i + 1 → s2.2.1 84 q = 0 := fun y y1 y2 => by
      refine ⟨_, rfl, rfl, fr.set 84 _ _ rfl, fun q h1 h2 => ?_, fun q h1 h2 => ?_⟩
      · dsimp only
        by_cases c : q = i
        · subst c; rw [hv_g1]; exact y1 h2
        · rw [hv_g3 _ _ c]; exact t1 q (by omega) h2
      · dsimp only
        by_cases c : q = i
        · subst c; rw [hv_g1]; exact y2 h1
        · rw [hv_g3 _ _ c]; exact t2 q h1 (by omega)
    show ∃ s2, b_M_countWays_2 (hI i) τ = _ ∧ _
    unfold b_M_countWays_2
    rw [if_neg (hI_nge4 (n := i) (by omega)), d2.R]
    by_cases c : i < h.R
    · rw [if_neg (hI_nle (by omega) (by omega) (by omega)), hv_M_hasm ((fr.mm w) 0 (by decide)) hi c]
      simp only [Option.bind_some]
      cases t : may 0 i
      · rw [if_neg (show ¬ false = true by decide), if_pos rfl, B]
        exact Z 0 (fun _ => by rw [hv_cnt_zero, t]; rfl) (fun q => by omega)
      · rw [if_pos rfl, if_neg (by decide), A]
        exact Z 1 (fun _ => by rw [hv_cnt_zero, t]; rfl) (fun q => by omega)
    · rw [if_pos ((hI_le (by omega) (by omega)).mpr (by omega)), B]
      exact Z 0 (fun q => absurd q c) (fun _ => rfl)
  · rintro ⟨x, τ⟩ ⟨e1, fr, t1, t2⟩
    dsimp only at e1 fr t1 t2
    subst e1
    show ∃ s2, b_M_countWays_2 (hI 4) τ = _ ∧ _
    unfold b_M_countWays_2
    rw [if_pos (show (4 : Int32) ≤ hI 4 by decide)]
    obtain ⟨z, ez, υ, rfl, f2⟩ := hv_M_cw_47 (fr.p45.mod d) ok (fr.mm w) (fun q hq => t1 q (by omega) hq) t2
    exact ⟨_, by rw [ez]; rfl, υ, rfl, fr.trans f2⟩
theorem hv_M_waysOf {h : hv} {σ : am_St} (d : hv_mod h σ) (ok : hv_ok h) (c : Nat) (hc : c < 4) : ∃ τ, f_M_waysOf (hI c) σ = some (hI (hv_all h (hv_may h c)), τ) ∧ hv_fr hv_pm σ τ := by
  obtain ⟨τ, e1, f1, w1⟩ := hv_M_lay d ok c hc
  obtain ⟨υ, e2, f2⟩ := hv_M_cw (f1.mod d) ok w1
  refine ⟨υ, ?_, f1.trans f2.p45⟩
  rw [eq_M_waysOf]; unfold g_M_waysOf
  rw [e1]
  simp only [Option.bind_some]
  rw [e2]; rfl
theorem hv_M_waysAt {h : hv} {σ : am_St} (d : hv_mod h σ) (ok : hv_ok h) {c m r : Nat} (hc : c < 4) (hm : m < 6) (hr : r < 4) : ∃ τ, f_M_waysAt (hI c) (hI m) (hI r) σ = some (hI (hv_all h (hv_pin (hv_may h c) m r)), τ) ∧ hv_fr hv_pm σ τ := by
  obtain ⟨τ, e1, f1, w1⟩ := hv_M_lay d ok c hc
  have ix : am_ix (hI m) 6 = true := hI_ix hm (by decide)
  have w2 : hv_mm h (hv_pin (hv_may h c) m r) (am_sI τ 83 m (τ.1 83 m &&& (1 <<< (hI r &&& 31)))) := w1.nar _ (m := m) (((w1 m hm).bit hr).congr fun q _ => by
    unfold hv_pin
    rw [show (m != m) = false from bne_self_eq_false m, Bool.false_or]) fun j q hj => by
    unfold hv_pin
    rw [bne_iff_ne.mpr hj, Bool.true_or, Bool.and_true]
  have f2 : hv_fr hv_pm σ (am_sI τ 83 m (τ.1 83 m &&& (1 <<< (hI r &&& 31)))) := f1.set 83 _ _ rfl
  obtain ⟨υ, e2, f3⟩ := hv_M_cw (f2.mod d) ok w2
  refine ⟨υ, ?_, f2.trans f3.p45⟩
  rw [eq_M_waysAt]; unfold g_M_waysAt
  rw [e1]
  simp only [Option.bind_some]
  rw [if_pos ix, if_pos ix, hI_clamp (by omega), e2]; rfl
theorem hv_M_thereOf {h : hv} {σ : am_St} (d : hv_mod h σ) (ok : hv_ok h) {c : Nat} (hc : c < 4) : ∃ τ, f_M_thereOf (hI c) σ = some (hI (hv_all h (hv_pin (hv_may h c) h.dm h.dr)), τ) ∧ hv_fr hv_pm σ τ := by
  have k1 := ok.R
  have k2 := ok.M
  have k3 := ok.dr
  have k4 := ok.dm
  obtain ⟨τ, e, f⟩ := hv_M_waysAt d ok (m := h.dm) (r := h.dr) hc (by omega) (by omega)
  refine ⟨τ, ?_, f⟩
  rw [eq_M_thereOf]; unfold g_M_thereOf
  rw [d.dm, d.dr, e]; rfl
