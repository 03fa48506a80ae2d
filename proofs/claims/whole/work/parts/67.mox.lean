/-! PURE: the model's counting while a house is read (nothing is asked of the sayings) -/
def hv_mox (h : hv) (σ : am_St) : Prop :=
  (σ.1 66 0 = hI h.R)
  ∧ (σ.1 66 1 = hI h.M)
  ∧ (σ.1 66 2 = hI h.C)
  ∧ (σ.1 66 3 = hI h.F)
  ∧ (σ.1 66 5 = hI h.dr)
  ∧ (σ.1 66 6 = hI h.dm)
  ∧ (∀ r, r < 4 → σ.1 67 r = hI (h.door r))
  ∧ (∀ c, c < h.C → σ.1 68 c = hI (h.kind c))
  ∧ (∀ c, c < h.C → σ.1 69 c = hI (h.fig c))
  ∧ (∀ c, c < h.C → σ.1 70 c = hI (h.tie c))
  ∧ (∀ c, c < h.C → σ.1 71 c = hI (h.skill c))
  ∧ (∀ c, c < h.C → ∀ m, m < h.M → σ.1 72 (6 * c + m) = hI (h.place c m))
  ∧ (∀ k, k < 3 → σ.1 77 k = hI (h.chance k))
  ∧ (∀ i, i < h.F → σ.1 73 i = hI (h.fc i))
  ∧ (∀ i, i < h.F → σ.1 74 i = hI (h.fm i))
  ∧ (∀ i, i < h.F → σ.1 75 i = hI (h.fr i))
  ∧ (∀ i, i < h.F → σ.1 76 i = hI (h.fi i))
theorem hv_mox.R {h : hv} {σ : am_St} (x : hv_mox h σ) : σ.1 66 0 = hI h.R := x.1
theorem hv_mox.M {h : hv} {σ : am_St} (x : hv_mox h σ) : σ.1 66 1 = hI h.M := x.2.1
theorem hv_mox.C {h : hv} {σ : am_St} (x : hv_mox h σ) : σ.1 66 2 = hI h.C := x.2.2.1
theorem hv_mox.F {h : hv} {σ : am_St} (x : hv_mox h σ) : σ.1 66 3 = hI h.F := x.2.2.2.1
theorem hv_mox.dr {h : hv} {σ : am_St} (x : hv_mox h σ) : σ.1 66 5 = hI h.dr := x.2.2.2.2.1
theorem hv_mox.dm {h : hv} {σ : am_St} (x : hv_mox h σ) : σ.1 66 6 = hI h.dm := x.2.2.2.2.2.1
theorem hv_mox.door {h : hv} {σ : am_St} (x : hv_mox h σ) : ∀ r, r < 4 → σ.1 67 r = hI (h.door r) := x.2.2.2.2.2.2.1
theorem hv_mox.kind {h : hv} {σ : am_St} (x : hv_mox h σ) : ∀ c, c < h.C → σ.1 68 c = hI (h.kind c) := x.2.2.2.2.2.2.2.1
theorem hv_mox.fig {h : hv} {σ : am_St} (x : hv_mox h σ) : ∀ c, c < h.C → σ.1 69 c = hI (h.fig c) := x.2.2.2.2.2.2.2.2.1
theorem hv_mox.tie {h : hv} {σ : am_St} (x : hv_mox h σ) : ∀ c, c < h.C → σ.1 70 c = hI (h.tie c) := x.2.2.2.2.2.2.2.2.2.1
theorem hv_mox.skill {h : hv} {σ : am_St} (x : hv_mox h σ) : ∀ c, c < h.C → σ.1 71 c = hI (h.skill c) := x.2.2.2.2.2.2.2.2.2.2.1
theorem hv_mox.place {h : hv} {σ : am_St} (x : hv_mox h σ) : ∀ c, c < h.C → ∀ m, m < h.M → σ.1 72 (6 * c + m) = hI (h.place c m) := x.2.2.2.2.2.2.2.2.2.2.2.1
theorem hv_mox.chance {h : hv} {σ : am_St} (x : hv_mox h σ) : ∀ k, k < 3 → σ.1 77 k = hI (h.chance k) := x.2.2.2.2.2.2.2.2.2.2.2.2.1
theorem hv_mox.fc {h : hv} {σ : am_St} (x : hv_mox h σ) : ∀ i, i < h.F → σ.1 73 i = hI (h.fc i) := x.2.2.2.2.2.2.2.2.2.2.2.2.2.1
theorem hv_mox.fm {h : hv} {σ : am_St} (x : hv_mox h σ) : ∀ i, i < h.F → σ.1 74 i = hI (h.fm i) := x.2.2.2.2.2.2.2.2.2.2.2.2.2.2.1
theorem hv_mox.fr {h : hv} {σ : am_St} (x : hv_mox h σ) : ∀ i, i < h.F → σ.1 75 i = hI (h.fr i) := x.2.2.2.2.2.2.2.2.2.2.2.2.2.2.2.1
theorem hv_mox.fi {h : hv} {σ : am_St} (x : hv_mox h σ) : ∀ i, i < h.F → σ.1 76 i = hI (h.fi i) := x.2.2.2.2.2.2.2.2.2.2.2.2.2.2.2.2
theorem hv_mox.mk {h : hv} {σ : am_St} (fR : σ.1 66 0 = hI h.R) (fM : σ.1 66 1 = hI h.M) (fC : σ.1 66 2 = hI h.C) (fF : σ.1 66 3 = hI h.F) (fdr : σ.1 66 5 = hI h.dr) (fdm : σ.1 66 6 = hI h.dm) (fdoor : ∀ r, r < 4 → σ.1 67 r = hI (h.door r)) (fkind : ∀ c, c < h.C → σ.1 68 c = hI (h.kind c)) (ffig : ∀ c, c < h.C → σ.1 69 c = hI (h.fig c)) (ftie : ∀ c, c < h.C → σ.1 70 c = hI (h.tie c)) (fskill : ∀ c, c < h.C → σ.1 71 c = hI (h.skill c)) (fplace : ∀ c, c < h.C → ∀ m, m < h.M → σ.1 72 (6 * c + m) = hI (h.place c m)) (fchance : ∀ k, k < 3 → σ.1 77 k = hI (h.chance k)) (ffc : ∀ i, i < h.F → σ.1 73 i = hI (h.fc i)) (ffm : ∀ i, i < h.F → σ.1 74 i = hI (h.fm i)) (ffr : ∀ i, i < h.F → σ.1 75 i = hI (h.fr i)) (ffi : ∀ i, i < h.F → σ.1 76 i = hI (h.fi i)) : hv_mox h σ := ⟨fR, fM, fC, fF, fdr, fdm, fdoor, fkind, ffig, ftie, fskill, fplace, fchance, ffc, ffm, ffr, ffi⟩
theorem hv_mod.mox {h : hv} {σ : am_St} (x : hv_mod h σ) : hv_mox h σ := hv_mox.mk x.R x.M x.C x.F x.dr x.dm x.door x.kind x.fig x.tie x.skill x.place x.chance x.fc x.fm x.fr x.fi
theorem hv_mox.frame {h : hv} {σ τ : am_St} (x : hv_mox h σ) (H : ∀ i k, (i = 66 ∧ k < 7) ∨ (67 ≤ i ∧ i ≤ 77) → τ.1 i k = σ.1 i k) : hv_mox h τ := hv_mox.mk (fR := (H _ _ (by omega)).trans x.R) (fM := (H _ _ (by omega)).trans x.M) (fC := (H _ _ (by omega)).trans x.C) (fF := (H _ _ (by omega)).trans x.F) (fdr := (H _ _ (by omega)).trans x.dr) (fdm := (H _ _ (by omega)).trans x.dm) (fdoor := fun r hr => (H _ _ (by omega)).trans (x.door r hr)) (fkind := fun r hr => (H _ _ (by omega)).trans (x.kind r hr)) (ffig := fun r hr => (H _ _ (by omega)).trans (x.fig r hr)) (ftie := fun r hr => (H _ _ (by omega)).trans (x.tie r hr)) (fskill := fun r hr => (H _ _ (by omega)).trans (x.skill r hr)) (fplace := fun r hr k hk => (H _ _ (by omega)).trans (x.place r hr k hk)) (fchance := fun r hr => (H _ _ (by omega)).trans (x.chance r hr)) (ffc := fun r hr => (H _ _ (by omega)).trans (x.fc r hr)) (ffm := fun r hr => (H _ _ (by omega)).trans (x.fm r hr)) (ffr := fun r hr => (H _ _ (by omega)).trans (x.fr r hr)) (ffi := fun r hr => (H _ _ (by omega)).trans (x.fi r hr))
theorem hv_fr.mox {h : hv} {σ τ : am_St} (f : hv_fr hv_pm σ τ) (d : hv_mox h σ) : hv_mox h τ := d.frame fun i k e => by rw [f.2 i (hv_pm_lo (by omega))]
theorem hv_mox.isRoom {h : hv} {σ : am_St} (m : hv_mox h σ) (ok : hv_ok h) (x : Int32) : f_M_isRoom x σ = some (hv_rng x h.R, σ) := by
  rw [eq_M_isRoom]; unfold g_M_isRoom; rw [m.R]; exact hv_M_rng (by have := ok.R; omega) x σ
theorem hv_mox.isMinute {h : hv} {σ : am_St} (m : hv_mox h σ) (ok : hv_ok h) (x : Int32) : f_M_isMinute x σ = some (hv_rng x h.M, σ) := by
  rw [eq_M_isMinute]; unfold g_M_isMinute; rw [m.M]; exact hv_M_rng (by have := ok.M; omega) x σ
theorem hv_mox.isChild {h : hv} {σ : am_St} (m : hv_mox h σ) (ok : hv_ok h) (x : Int32) : f_M_isChild x σ = some (hv_rng x h.C, σ) := by
  rw [eq_M_isChild]; unfold g_M_isChild; rw [m.C]; exact hv_M_rng (by have := ok.C; omega) x σ
theorem hw_M_lay_30 {h : hv} {σ : am_St} (d : hv_mox h σ) (ok : hv_ok h) (c : Nat) (hc : c < 4) (w : hv_mm h (hv_mayN h c 0) σ) : ∃ τ, f_M_layMay_30 (hI c) 0 σ = some τ ∧ hv_fr hv_pm σ τ ∧ hv_mm h (hv_may h c) τ := by
  have kF := ok.F
  have kC := ok.C
  unfold f_M_layMay_30
  refine hv_up h.F (fun i s => s.1 = hI c ∧ s.2.1 = hI i ∧ hv_fr hv_pm σ s.2.2 ∧ hv_mm h (hv_mayN h c i) s.2.2) 0 (Nat.zero_le _) _ ⟨rfl, rfl, hv_fr.rfl' _ _, w⟩ ?_ ?_
  · rintro i ⟨x, y, τ⟩ hi ⟨e1, e2, fr, q⟩
    dsimp only at e1 e2 fr q
    subst e1 e2
    have d2 := fr.mox d
    obtain ⟨f1, f2, f3, f4⟩ := ok.fact i hi
    have f5 := ok.R
    have f6 := ok.M
    refine .inl ?_
    have ix : am_ix (hI i) 17 = true := hI_ix (by omega) (by decide)
    show ∃ s2, b_M_layMay_30 (hI c) (hI i) τ = _ ∧ _
    unfold b_M_layMay_30
    rw [d2.F, if_neg (hI_nle (by omega) (by omega) (by omega)), if_pos ix, hI_clamp (by omega), d2.fc i hi, d2.fr i hi, d2.fm i hi, d2.fi i hi]
    dsimp only
    rw [if_pos ix]
    by_cases cc : h.fc i = c
    · rw [if_pos (by rw [cc]), if_pos ix, if_pos (hI_ix (show h.fm i < 6 by omega) (by decide)), if_pos ix, hI_clamp (show h.fm i < 2 ^ 31 by omega)]
      have ix2 : am_ix (hI (h.fm i)) 6 = true := hI_ix (show h.fm i < 6 by omega) (by decide)
      by_cases ci : h.fi i = 1
      · rw [if_pos (by rw [ci]; rfl)]
        simp only [eq_M_layMay_86, g_M_layMay_86]
        rw [if_pos ix2, hI_clamp (show h.fm i < 2 ^ 31 by omega), eq_M_layMay_88]
        unfold g_M_layMay_88
        refine ⟨_, rfl, rfl, hI_add1 i, fr.set 83 _ _ rfl, q.nar _ (m := h.fm i) (((q _ (by omega)).bit (show h.fr i < 4 by omega)).congr fun r _ => (hv_mayN_is ⟨cc, rfl⟩ ci).symm) fun j r hj => hv_mayN_other (fun e => hj e.2.symm)⟩
      · rw [if_neg (hI_ne1 (by omega) ci)]
        simp only [eq_M_layMay_86, g_M_layMay_86]
        rw [if_pos ix2, hI_clamp (show h.fm i < 2 ^ 31 by omega), eq_M_layMay_88]
        unfold g_M_layMay_88
        refine ⟨_, rfl, rfl, hI_add1 i, fr.set 83 _ _ rfl, q.nar _ (m := h.fm i) (((q _ (by omega)).not (show h.fr i < 4 by omega)).congr fun r _ => (hv_mayN_not ⟨cc, rfl⟩ ci).symm) fun j r hj => hv_mayN_other (fun e => hj e.2.symm)⟩
    · rw [if_neg (hI_ne (by omega) (by omega) cc), eq_M_layMay_88]
      unfold g_M_layMay_88
      exact ⟨_, rfl, rfl, hI_add1 i, fr, q.congr fun m r _ _ => (hv_mayN_other (fun e => cc e.1)).symm⟩
  · rintro ⟨x, y, τ⟩ ⟨e1, e2, fr, q⟩
    dsimp only at e1 e2 fr q
    subst e1 e2
    have d2 := fr.mox d
    show ∃ s2, b_M_layMay_30 (hI c) (hI h.F) τ = _ ∧ _
    unfold b_M_layMay_30
    rw [d2.F, if_pos (Int32.le_refl _)]
    exact ⟨_, rfl, fr, q⟩
theorem hw_M_lay {h : hv} {σ : am_St} (d : hv_mox h σ) (ok : hv_ok h) (c : Nat) (hc : c < 4) : ∃ τ, f_M_layMay (hI c) σ = some τ ∧ hv_fr hv_pm σ τ ∧ hv_mm h (hv_may h c) τ := by
  have kR := ok.R
  rw [eq_M_layMay]; unfold g_M_layMay f_M_layMay_2
  refine hv_up 6 (fun i s => s.1 = hI c ∧ s.2.1 = hI i ∧ hv_fr hv_pm σ s.2.2 ∧ ∀ m, m < i → hv_msk h.R (fun _ => true) (s.2.2.1 83 m)) 0 (Nat.zero_le _) _ ⟨rfl, rfl, hv_fr.rfl' _ _, fun m hm => absurd hm (Nat.not_lt_zero m)⟩ ?_ ?_
  · rintro i ⟨x, y, τ⟩ hi ⟨e1, e2, fr, q4⟩
    dsimp only at e1 e2 fr q4
    subst e1 e2
    refine .inl ?_
    show ∃ s2, b_M_layMay_2 (hI c) (hI i) τ = _ ∧ _
    unfold b_M_layMay_2
    rw [if_neg (hI_nge6 (n := i) (by omega)), if_pos (hI_ix hi (by decide)), hI_clamp (by omega), (fr.mox d).R]
    refine ⟨_, rfl, rfl, hI_add1 i, fr.set 83 _ _ rfl, fun m hm => ?_⟩
    dsimp only
    by_cases cm : m = i
    · subst cm; rw [hv_g1]; exact hv_msk.full (by omega)
    · rw [hv_g3 _ _ cm]; exact q4 m (by omega)
  · rintro ⟨x, y, τ⟩ ⟨e1, e2, fr, q4⟩
    dsimp only at e1 e2 fr q4
    subst e1 e2
    show ∃ s2, b_M_layMay_2 (hI c) (hI 6) τ = _ ∧ _
    unfold b_M_layMay_2
    rw [if_pos (show (6 : Int32) ≤ hI 6 by decide)]
    obtain ⟨υ, e, f2, o⟩ := hw_M_lay_30 (fr.mox d) ok c hc q4
    exact ⟨υ, by rw [e]; rfl, fr.trans f2, o⟩
theorem hw_M_cw_151 {h : hv} {σ : am_St} (d : hv_mox h σ) (ok : hv_ok h) (x1 : Int32) (v : Nat → Int32) (w : ∀ q, q < h.R → σ.1 85 q = v q) : ∃ x, f_M_countWays_151 x1 0 σ = some x ∧ ∃ τ, x = .inl (x1 + 1, τ) ∧ hv_fr hv_p45 σ τ ∧ (∀ q, q < h.R → τ.1 84 q = v q) ∧ ∀ q, h.R ≤ q → τ.1 84 q = σ.1 84 q := by
  have kR := ok.R
  unfold f_M_countWays_151
  refine hv_up h.R (fun i s => s.1 = x1 ∧ s.2.1 = hI i ∧ hv_fr hv_p45 σ s.2.2 ∧ (∀ q, s.2.2.1 85 q = σ.1 85 q) ∧ (∀ q, q < i → s.2.2.1 84 q = v q) ∧ ∀ q, h.R ≤ q → s.2.2.1 84 q = σ.1 84 q) 0 (Nat.zero_le _) _ ⟨rfl, rfl, hv_fr.rfl' _ _, fun _ => rfl, fun q hq => absurd hq (Nat.not_lt_zero q), fun _ _ => rfl⟩ ?_ ?_
  · rintro i ⟨x, y, τ⟩ hi ⟨e1, e2, fr, t1, t2, t3⟩
    dsimp only at e1 e2 fr t1 t2 t3
    subst e1 e2
    refine .inl ?_
    show ∃ s2, b_M_countWays_151 x (hI i) τ = _ ∧ _
    unfold b_M_countWays_151
    rw [(fr.p45.mox d).R, if_neg (hI_nle (by omega) (by omega) (by omega)), if_pos (hI_ix (show i < 4 by omega) (by decide)), if_pos (hI_ix (show i < 4 by omega) (by decide)), hI_clamp (by omega), t1, w i hi]
    refine ⟨_, rfl, rfl, hI_add1 i, fr.set 84 _ _ rfl, fun q => ?_, fun q hq => ?_, fun q hq => ?_⟩
    · dsimp only; rw [hv_g2 _ (by decide)]; exact t1 q
    · dsimp only
      by_cases c : q = i
      · subst c; rw [hv_g1]
      · rw [hv_g3 _ _ c]; exact t2 q (by omega)
    · dsimp only; rw [hv_g3 _ _ (by omega)]; exact t3 q hq
  · rintro ⟨x, y, τ⟩ ⟨e1, e2, fr, t1, t2, t3⟩
    dsimp only at e1 e2 fr t1 t2 t3
    subst e1 e2
    show ∃ s2, b_M_countWays_151 x (hI h.R) τ = _ ∧ _
    unfold b_M_countWays_151
    rw [(fr.p45.mox d).R, if_pos (Int32.le_refl _)]
    exact ⟨_, rfl, τ, rfl, fr, t2, t3⟩
theorem hw_M_cw_70 {h : hv} {σ : am_St} (d : hv_mox h σ) (ok : hv_ok h) {may : Nat → Nat → Bool} (w : hv_mm h may σ) {m r : Nat} (hm : m < 6) (hr : r < h.R) (v : Nat → Nat) (c4 : ∀ q, q < h.R → σ.1 84 q = hI (v q)) : ∃ x, f_M_countWays_70 (hI m) (hI r) 0 0 σ = some x ∧ x = .inl (hI m, hI (r + 1), am_sI σ 85 r (hI (if may m r then hv_sum h.R fun q => if hv_step h r q then v q else 0 else 0))) := by
  have kR := ok.R
  unfold f_M_countWays_70
  refine hv_up h.R (fun i s => s = (hI m, hI r, hI (hv_sum i fun q => if hv_step h r q then v q else 0), hI i, σ)) 0 (Nat.zero_le _) _ rfl ?_ ?_
  · rintro i s hi rfl
    refine .inl ⟨_, ?_, rfl⟩
    show b_M_countWays_70 (hI m) (hI r) (hI _) (hI i) σ = _
    unfold b_M_countWays_70
    rw [d.R, if_neg (hI_nle (by omega) (by omega) (by omega))]
    have ixi : am_ix (hI i) 4 = true := hI_ix (by omega) (by decide)
    have A : ∀ n, hv_step h r i = true → f_M_countWays_100 (hI m) (hI r) (hI i) (hI n) σ = some (.inl (hI m, hI r, hI (n + v i), hI (i + 1), σ)) := fun n _ => by
      rw [eq_M_countWays_100]; unfold g_M_countWays_100
      rw [if_pos ixi, hI_clamp (by omega), c4 i hi, eq_M_countWays_111]
      unfold g_M_countWays_111
      rw [← hI_add, ← hI_add1]
    by_cases c : i = r
    · have st : hv_step h r i = true := by unfold hv_step; rw [c, beq_self_eq_true]; rfl
      rw [if_pos (by rw [c]), A _ st, hv_sum_succ, if_pos st]
    · rw [if_neg (hI_ne (by omega) (by omega) c), if_pos (hI_ix (show r < 4 by omega) (by decide)), hI_clamp (show r < 2 ^ 31 by omega), d.door r (by omega), hv_M_has (ok.door16 (by omega)) (by omega)]
      simp only [Option.bind_some]
      have e : hv_step h r i = (h.door r).testBit i := by unfold hv_step; rw [beq_eq_false_iff_ne.mpr (fun q => c q.symm)]; rfl
      rw [hv_sum_succ, e]
      cases t : (h.door r).testBit i
      · simp only [Bool.false_eq_true, ↓reduceIte]
        rw [eq_M_countWays_111]
        unfold g_M_countWays_111
        rw [Int32.add_zero, ← hI_add1]; rfl
      · simp only [↓reduceIte, hv_10]
        rw [A _ (e.trans t)]
  · rintro s rfl
    refine ⟨_, ?_, rfl⟩
    show b_M_countWays_70 (hI m) (hI r) (hI _) (hI h.R) σ = _
    unfold b_M_countWays_70
    rw [d.R, if_pos (Int32.le_refl _), if_pos (hI_ix hm (by decide)), hI_clamp (by omega), hv_M_hasm (w m hm) (by omega) hr]
    simp only [Option.bind_some]
    have ix : am_ix (hI r) 4 = true := hI_ix (by omega) (by decide)
    cases t : may m r
    · rw [if_neg (show ¬ false = true by decide), if_pos rfl, eq_M_countWays_142]
      unfold g_M_countWays_142
      rw [if_pos ix, hI_clamp (by omega), hI_add1]; rfl
    · rw [if_pos (show true = true by decide), if_neg (by decide), eq_M_countWays_142]
      unfold g_M_countWays_142
      rw [if_pos ix, hI_clamp (by omega), hI_add1]; rfl
theorem hw_M_cw_57 {h : hv} {σ : am_St} (d : hv_mox h σ) (ok : hv_ok h) {may : Nat → Nat → Bool} (w : hv_mm h may σ) {m : Nat} (hm : m + 1 < 6) (c4 : ∀ q, q < h.R → σ.1 84 q = hI (hv_cnt h may m q)) : ∃ x, f_M_countWays_57 (hI (m + 1)) 0 σ = some x ∧ ∃ τ, x = .inl (hI (m + 2), τ) ∧ hv_fr hv_p45 σ τ ∧ (∀ q, q < h.R → τ.1 84 q = hI (hv_cnt h may (m + 1) q)) ∧ ∀ q, h.R ≤ q → τ.1 84 q = σ.1 84 q := by
  have kR := ok.R
  unfold f_M_countWays_57
  refine hv_up h.R (fun i s => s.1 = hI (m + 1) ∧ s.2.1 = hI i ∧ hv_fr hv_p45 σ s.2.2 ∧ (∀ q, s.2.2.1 84 q = σ.1 84 q) ∧ (∀ q, q < i → s.2.2.1 85 q = hI (hv_cnt h may (m + 1) q))) 0 (Nat.zero_le _) _ ⟨rfl, rfl, hv_fr.rfl' _ _, fun _ => rfl, fun q hq => absurd hq (Nat.not_lt_zero q)⟩ ?_ ?_
  · rintro i ⟨x, y, τ⟩ hi ⟨e1, e2, fr, t1, t2⟩
    dsimp only at e1 e2 fr t1 t2
    subst e1 e2
    refine .inl ?_
    have d2 := fr.p45.mox d
    obtain ⟨z, ez, rfl⟩ := hw_M_cw_70 d2 ok (fr.mm w) (m := m + 1) (by omega) hi (fun q => hv_cnt h may m q) (fun q hq => by rw [t1]; exact c4 q hq)
    show ∃ s2, b_M_countWays_57 (hI (m + 1)) (hI i) τ = _ ∧ _
    unfold b_M_countWays_57
    rw [d2.R, if_neg (hI_nle (by omega) (by omega) (by omega)), ez]
    refine ⟨_, rfl, rfl, rfl, fr.set 85 _ _ rfl, fun q => ?_, fun q hq => ?_⟩
    · dsimp only; rw [hv_g2 _ (by decide)]; exact t1 q
    · dsimp only
      by_cases c : q = i
      · subst c; rw [hv_g1, hv_cnt_succ]
      · rw [hv_g3 _ _ c]; exact t2 q (by omega)
  · rintro ⟨x, y, τ⟩ ⟨e1, e2, fr, t1, t2⟩
    dsimp only at e1 e2 fr t1 t2
    subst e1 e2
    have d2 := fr.p45.mox d
    obtain ⟨z, ez, υ, rfl, f2, u1, u2⟩ := hw_M_cw_151 d2 ok (hI (m + 1)) (fun q => hI (hv_cnt h may (m + 1) q)) t2
    show ∃ s2, b_M_countWays_57 (hI (m + 1)) (hI h.R) τ = _ ∧ _
    unfold b_M_countWays_57
    rw [d2.R, if_pos (Int32.le_refl _), ez]
    refine ⟨_, rfl, υ, by rw [hI_add1], fr.trans f2, u1, fun q hq => (u2 q hq).trans (t1 q)⟩
theorem hw_M_cw_47 {h : hv} {σ : am_St} (d : hv_mox h σ) (ok : hv_ok h) {may : Nat → Nat → Bool} (w : hv_mm h may σ) (c4 : ∀ q, q < h.R → σ.1 84 q = hI (hv_cnt h may 0 q)) (c5 : ∀ q, h.R ≤ q → q < 4 → σ.1 84 q = 0) : ∃ x, f_M_countWays_47 1 σ = some x ∧ ∃ τ, x = (hI (hv_all h may), τ) ∧ hv_fr hv_p45 σ τ := by
  have kR := ok.R
  have kM := ok.M
  unfold f_M_countWays_47
  refine hv_up h.M (fun i s => 1 ≤ i ∧ s.1 = hI i ∧ hv_fr hv_p45 σ s.2 ∧ (∀ q, q < h.R → s.2.1 84 q = hI (hv_cnt h may (i - 1) q)) ∧ ∀ q, h.R ≤ q → q < 4 → s.2.1 84 q = 0) 1 (by omega) _ ⟨by omega, rfl, hv_fr.rfl' _ _, c4, c5⟩ ?_ ?_
  · rintro i ⟨x, τ⟩ hi ⟨h1, e1, fr, t1, t2⟩
    dsimp only at e1 fr t1 t2
    subst e1
    refine .inl ?_
    have d2 := fr.p45.mox d
    obtain ⟨j, rfl⟩ : ∃ j, i = j + 1 := ⟨i - 1, by omega⟩
    obtain ⟨z, ez, υ, rfl, f2, u1, u2⟩ := hw_M_cw_57 d2 ok (fr.mm w) (m := j) (by omega) t1
    show ∃ s2, b_M_countWays_47 (hI (j + 1)) τ = _ ∧ _
    unfold b_M_countWays_47
    rw [d2.M, if_neg (hI_nle (by omega) (by omega) (by omega)), ez]
    exact ⟨_, rfl, by omega, rfl, fr.trans f2, u1, fun q hq h4 => (u2 q hq).trans (t2 q hq h4)⟩
  · rintro ⟨x, τ⟩ ⟨h1, e1, fr, t1, t2⟩
    dsimp only at e1 fr t1 t2
    subst e1
    have d2 := fr.p45.mox d
    show ∃ s2, b_M_countWays_47 (hI h.M) τ = _ ∧ _
    unfold b_M_countWays_47
    rw [d2.M, if_pos (Int32.le_refl _)]
    refine ⟨_, rfl, τ, ?_, fr⟩
    have e0 := t1 0 (by omega)
    have e1 := t1 1 (by omega)
    rw [e0, e1, hv_all_eq]
    have hR : h.R = 2 ∨ h.R = 3 ∨ h.R = 4 := by omega
    rcases hR with q | q | q
    · rw [t2 2 (by omega) (by decide), t2 3 (by omega) (by decide), q, hv_sum_succ, hv_sum_succ, hv_sum_zero, Nat.zero_add, hI_add, Int32.add_zero, Int32.add_zero]
    · rw [t1 2 (by omega), t2 3 (by omega) (by decide), q, hv_sum_succ, hv_sum_succ, hv_sum_succ, hv_sum_zero, Nat.zero_add, hI_add, hI_add, Int32.add_zero]
    · rw [t1 2 (by omega), t1 3 (by omega), q, hv_sum_succ, hv_sum_succ, hv_sum_succ, hv_sum_succ, hv_sum_zero, Nat.zero_add, hI_add, hI_add, hI_add]
theorem hw_M_cw {h : hv} {σ : am_St} (d : hv_mox h σ) (ok : hv_ok h) {may : Nat → Nat → Bool} (w : hv_mm h may σ) : ∃ τ, f_M_countWays σ = some (hI (hv_all h may), τ) ∧ hv_fr hv_p45 σ τ := by
  have kR := ok.R
  have kM := ok.M
  rw [eq_M_countWays]; unfold g_M_countWays f_M_countWays_2
  have L := hv_up (body := fun s : Int32 × am_St => b_M_countWays_2 s.1 s.2) (P := fun x => ∃ τ, x = (hI (hv_all h may), τ) ∧ hv_fr hv_p45 σ τ) 4 (fun i s => s.1 = hI i ∧ hv_fr hv_p45 σ s.2 ∧ (∀ q, q < i → q < h.R → s.2.1 84 q = hI (hv_cnt h may 0 q)) ∧ ∀ q, h.R ≤ q → q < i → s.2.1 84 q = 0) 0 (Nat.zero_le _) (0, σ) ⟨rfl, hv_fr.rfl' _ _, fun q hq => absurd hq (Nat.not_lt_zero q), fun q _ hq => absurd hq (Nat.not_lt_zero q)⟩ ?_ ?_
  · obtain ⟨x, e, τ, rfl, f⟩ := L
    exact ⟨τ, e, f⟩
  · rintro i ⟨x, τ⟩ hi ⟨e1, fr, t1, t2⟩
    dsimp only at e1 fr t1 t2
    subst e1
    refine .inl ?_
    have d2 := fr.p45.mox d
    have ix : am_ix (hI i) 4 = true := hI_ix hi (by decide)
    have A : ∀ y, f_M_countWays_38 (hI i) (hI i) y τ = some (.inl (hI (i + 1), am_sI τ 84 i y)) := fun y => by
      rw [eq_M_countWays_38]; unfold g_M_countWays_38
      rw [if_pos ix, hI_clamp (by omega), hI_add1]
    have B : f_M_countWays_37 (hI i) (hI i) τ = some (.inl (hI (i + 1), am_sI τ 84 i 0)) := by
      rw [eq_M_countWays_37]; unfold g_M_countWays_37; exact A 0
    have Z : ∀ y, (i < h.R → y = hI (hv_cnt h may 0 i)) → (h.R ≤ i → y = 0) → ∃ s2, some (.inl (hI (i + 1), am_sI τ 84 i y)) = (some (.inl s2) : Option ((Int32 × am_St) ⊕ (Int32 × am_St))) ∧ s2.1 = hI (i + 1) ∧ hv_fr hv_p45 σ s2.2 ∧ (∀ q, q < i + 1 → q < h.R → s2.2.1 84 q = hI (hv_cnt h may 0 q)) ∧ ∀ q, h.R ≤ q → q < i + 1 → s2.2.1 84 q = 0 := fun y y1 y2 => by
      refine ⟨_, rfl, rfl, fr.set 84 _ _ rfl, fun q h1 h2 => ?_, fun q h1 h2 => ?_⟩
      · dsimp only
        by_cases c : q = i
        · subst c; rw [hv_g1]; exact y1 h2
        · rw [hv_g3 _ _ c]; exact t1 q (by omega) h2
      · dsimp only
        by_cases c : q = i
        · subst c; rw [hv_g1]; exact y2 h1
        · rw [hv_g3 _ _ c]; exact t2 q h1 (by omega)
    show ∃ s2, b_M_countWays_2 (hI i) τ = _ ∧ _
    unfold b_M_countWays_2
    rw [if_neg (hI_nge4 (n := i) (by omega)), d2.R]
    by_cases c : i < h.R
    · rw [if_neg (hI_nle (by omega) (by omega) (by omega)), hv_M_hasm ((fr.mm w) 0 (by decide)) hi c]
      simp only [Option.bind_some]
      cases t : may 0 i
      · rw [if_neg (show ¬ false = true by decide), if_pos rfl, B]
        exact Z 0 (fun _ => by rw [hv_cnt_zero, t]; rfl) (fun q => by omega)
      · rw [if_pos rfl, if_neg (by decide), A]
        exact Z 1 (fun _ => by rw [hv_cnt_zero, t]; rfl) (fun q => by omega)
    · rw [if_pos ((hI_le (by omega) (by omega)).mpr (by omega)), B]
      exact Z 0 (fun q => absurd q c) (fun _ => rfl)
  · rintro ⟨x, τ⟩ ⟨e1, fr, t1, t2⟩
    dsimp only at e1 fr t1 t2
    subst e1
    show ∃ s2, b_M_countWays_2 (hI 4) τ = _ ∧ _
    unfold b_M_countWays_2
    rw [if_pos (show (4 : Int32) ≤ hI 4 by decide)]
    obtain ⟨z, ez, υ, rfl, f2⟩ := hw_M_cw_47 (fr.p45.mox d) ok (fr.mm w) (fun q hq => t1 q (by omega) hq) t2
    exact ⟨_, by rw [ez]; rfl, υ, rfl, fr.trans f2⟩
theorem hw_M_waysOf {h : hv} {σ : am_St} (d : hv_mox h σ) (ok : hv_ok h) (c : Nat) (hc : c < 4) : ∃ τ, f_M_waysOf (hI c) σ = some (hI (hv_all h (hv_may h c)), τ) ∧ hv_fr hv_pm σ τ := by
  obtain ⟨τ, e1, f1, w1⟩ := hw_M_lay d ok c hc
  obtain ⟨υ, e2, f2⟩ := hw_M_cw (f1.mox d) ok w1
  refine ⟨υ, ?_, f1.trans f2.p45⟩
  rw [eq_M_waysOf]; unfold g_M_waysOf
  rw [e1]
  simp only [Option.bind_some]
  rw [e2]; rfl
theorem hv_addF_mox {h : hv} {σ : am_St} (d : hv_mox h σ) (c m r x : Nat) : hv_mox (hv_addF h c m r x) (hv_addF_st σ h.F c m r x) := by
  have G : ∀ i j, i ≠ 73 ∧ i ≠ 74 ∧ i ≠ 75 ∧ i ≠ 76 ∧ (i = 66 → j ≠ 3) → (hv_addF_st σ h.F c m r x).1 i j = σ.1 i j := fun i j ⟨e1, e2, e3, e4, e5⟩ => by
    unfold hv_addF_st
    by_cases q : i = 66
    · subst q; rw [hv_g3 _ _ (e5 rfl), hv_g2 _ e4, hv_g2 _ e3, hv_g2 _ e2, hv_g2 _ e1]
    · rw [hv_g2 _ q, hv_g2 _ e4, hv_g2 _ e3, hv_g2 _ e2, hv_g2 _ e1]
  refine hv_mox.mk (fR := (G _ _ (by omega)).trans d.R) (fM := (G _ _ (by omega)).trans d.M) (fC := (G _ _ (by omega)).trans d.C) (fF := by unfold hv_addF_st; rw [hv_g1]; rfl) (fdr := (G _ _ (by omega)).trans d.dr) (fdm := (G _ _ (by omega)).trans d.dm) (fdoor := fun r hr => (G _ _ (by omega)).trans (d.door r hr)) (fkind := fun r hr => (G _ _ (by omega)).trans (d.kind r hr)) (ffig := fun r hr => (G _ _ (by omega)).trans (d.fig r hr)) (ftie := fun r hr => (G _ _ (by omega)).trans (d.tie r hr)) (fskill := fun r hr => (G _ _ (by omega)).trans (d.skill r hr)) (fplace := fun r hr k hk => (G _ _ (by omega)).trans (d.place r hr k hk)) (fchance := fun r hr => (G _ _ (by omega)).trans (d.chance r hr)) (ffc := fun i hi => ?_) (ffm := fun i hi => ?_) (ffr := fun i hi => ?_) (ffi := fun i hi => ?_)
  · show (hv_addF_st σ h.F c m r x).1 73 i = hI (if i = h.F then c else h.fc i)
    unfold hv_addF_st
    rw [hv_g2 _ (show (73 : Nat) ≠ 66 by decide), hv_g2 _ (show (73 : Nat) ≠ 76 by decide), hv_g2 _ (show (73 : Nat) ≠ 75 by decide), hv_g2 _ (show (73 : Nat) ≠ 74 by decide)]
    by_cases q : i = h.F
    · rw [if_pos q, q, hv_g1]
    · rw [if_neg q, hv_g3 _ _ q]; exact d.fc i (by have : i < h.F + 1 := hi; omega)
  · show (hv_addF_st σ h.F c m r x).1 74 i = hI (if i = h.F then m else h.fm i)
    unfold hv_addF_st
    rw [hv_g2 _ (show (74 : Nat) ≠ 66 by decide), hv_g2 _ (show (74 : Nat) ≠ 76 by decide), hv_g2 _ (show (74 : Nat) ≠ 75 by decide)]
    by_cases q : i = h.F
    · rw [if_pos q, q, hv_g1]
    · rw [if_neg q, hv_g3 _ _ q, hv_g2 _ (show (74 : Nat) ≠ 73 by decide)]; exact d.fm i (by have : i < h.F + 1 := hi; omega)
  · show (hv_addF_st σ h.F c m r x).1 75 i = hI (if i = h.F then r else h.fr i)
    unfold hv_addF_st
    rw [hv_g2 _ (show (75 : Nat) ≠ 66 by decide), hv_g2 _ (show (75 : Nat) ≠ 76 by decide)]
    by_cases q : i = h.F
    · rw [if_pos q, q, hv_g1]
    · rw [if_neg q, hv_g3 _ _ q, hv_g2 _ (show (75 : Nat) ≠ 74 by decide), hv_g2 _ (show (75 : Nat) ≠ 73 by decide)]; exact d.fr i (by have : i < h.F + 1 := hi; omega)
  · show (hv_addF_st σ h.F c m r x).1 76 i = hI (if i = h.F then x else h.fi i)
    unfold hv_addF_st
    rw [hv_g2 _ (show (76 : Nat) ≠ 66 by decide)]
    by_cases q : i = h.F
    · rw [if_pos q, q, hv_g1]
    · rw [if_neg q, hv_g3 _ _ q, hv_g2 _ (show (76 : Nat) ≠ 75 by decide), hv_g2 _ (show (76 : Nat) ≠ 74 by decide), hv_g2 _ (show (76 : Nat) ≠ 73 by decide)]; exact d.fi i (by have : i < h.F + 1 := hi; omega)
theorem hw_M_factComes {h : hv} {σ : am_St} (d : hv_mox h σ) (ok : hv_ok h) {c m r x : Nat} (hF : h.F < 16) (hc : c < h.C) (hm : m < h.M) (hr : r < h.R) (hx : x < 2) : ∃ τ, f_M_factComes (hI c) (hI m) (hI r) (hI x) σ = some (if 0 < hv_all (hv_addF h c m r x) (hv_may (hv_addF h c m r x) c) then 1 else 0, τ) ∧ hv_fr hv_pm (hv_addF_st σ h.F c m r x) τ := by
  have k1 := ok.C
  have k2 := ok.M
  have k3 := ok.R
  have ok2 := hv_addF_ok ok hF hc hm hr hx
  have ix : am_ix (hI h.F) 17 = true := hI_ix (by omega) (by decide)
  have cl : (hI h.F).toNatClampNeg = h.F := hI_clamp (by omega)
  have kb := hv_all_big ok2 (hv_may (hv_addF h c m r x) c)
  obtain ⟨τ, e, f⟩ := hw_M_waysOf (hv_addF_mox d c m r x) ok2 c (by omega)
  refine ⟨τ, ?_, f⟩
  rw [eq_M_factComes]; unfold g_M_factComes
  rw [d.isChild ok, hv_rng_lt (by omega) hc]
  simp only [Option.bind_some, hv_10, ↓reduceIte]
  rw [d.isMinute ok, hv_rng_lt (by omega) hm]
  simp only [Option.bind_some, hv_10, ↓reduceIte]
  rw [d.isRoom ok, hv_rng_lt (by omega) hr]
  simp only [Option.bind_some, hv_10, ↓reduceIte]
  rw [eq_M_factComes_24]; unfold g_M_factComes_24
  rw [d.F, if_neg (hI_ne16 (by omega) (by omega)), if_pos ix, cl]
  dsimp only
  rw [hv_g2 _ (show (66 : Nat) ≠ 73 by decide), d.F, if_pos ix, cl, hv_g2 _ (show (66 : Nat) ≠ 74 by decide), hv_g2 _ (show (66 : Nat) ≠ 73 by decide), d.F, if_pos ix, cl, hv_g2 _ (show (66 : Nat) ≠ 75 by decide), hv_g2 _ (show (66 : Nat) ≠ 74 by decide), hv_g2 _ (show (66 : Nat) ≠ 73 by decide), d.F, if_pos ix, cl, eq_M_factComes_76]
  unfold g_M_factComes_76
  dsimp only
  rw [hv_g2 _ (show (66 : Nat) ≠ 76 by decide), hv_g2 _ (show (66 : Nat) ≠ 75 by decide), hv_g2 _ (show (66 : Nat) ≠ 74 by decide), hv_g2 _ (show (66 : Nat) ≠ 73 by decide), d.F, hI_add1]
  rw [show f_M_waysOf (hI c) (am_sI (am_sI (am_sI (am_sI (am_sI σ 73 h.F (hI c)) 74 h.F (hI m)) 75 h.F (hI r)) 76 h.F (hI x)) 66 3 (hI (h.F + 1))) = _ from e]
  simp only [Option.bind_some]
  by_cases q : 0 < hv_all (hv_addF h c m r x) (hv_may (hv_addF h c m r x) c)
  · rw [if_pos q, if_neg (hI_le0 (by omega) q)]
  · rw [if_neg q, show hv_all (hv_addF h c m r x) (hv_may (hv_addF h c m r x) c) = 0 by omega, if_pos (by decide)]
