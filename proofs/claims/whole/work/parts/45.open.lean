/-! PURE: the class opens the rooms by the facts -/
/-- only the cells p may have changed -/
def hv_fr (p : Nat → Bool) (σ τ : am_St) : Prop := τ.2 = σ.2 ∧ ∀ i, p i = false → τ.1 i = σ.1 i
theorem hv_fr.rfl' (p : Nat → Bool) (σ : am_St) : hv_fr p σ σ := ⟨rfl, fun _ _ => rfl⟩
theorem hv_fr.trans {p : Nat → Bool} {σ τ υ : am_St} (h1 : hv_fr p σ τ) (h2 : hv_fr p τ υ) : hv_fr p σ υ := ⟨h2.1.trans h1.1, fun i e => (h2.2 i e).trans (h1.2 i e)⟩
theorem hv_fr.set {p : Nat → Bool} {σ τ : am_St} (h : hv_fr p σ τ) (i k : Nat) (x : Int32) (e : p i = true) : hv_fr p σ (am_sI τ i k x) := ⟨h.1, fun j q => by
  rw [hv_g2 τ (fun c => by rw [c, e] at q; cases q)]; exact h.2 j q⟩
theorem hv_fr.Sm {p : Nat → Bool} {σ τ : am_St} (h : hv_fr p σ τ) (e : ∀ i, p i = true → ∀ k, hv_scr i k = true) : hv_Sm σ τ := fun i k s => by
  cases c : p i
  · rw [h.2 i c]
  · rw [e i c k] at s; cases s
/-- the cells of the class's Ways; the model's rows for ways -/
def hv_pw (i : Nat) : Bool := Nat.ble 54 i && Nat.ble i 58
def hv_pm (i : Nat) : Bool := Nat.ble 83 i && Nat.ble i 85
theorem hv_pw_lo {i : Nat} (h : i < 54) : hv_pw i = false := by
  unfold hv_pw
  rw [show Nat.ble 54 i = false from Bool.eq_false_iff.mpr (fun e => by have := Nat.le_of_ble_eq_true e; omega)]; rfl
theorem hv_pw_hi {i : Nat} (h : 58 < i) : hv_pw i = false := by
  unfold hv_pw
  rw [show Nat.ble i 58 = false from Bool.eq_false_iff.mpr (fun e => by have := Nat.le_of_ble_eq_true e; omega), Bool.and_false]
theorem hv_pm_lo {i : Nat} (h : i < 83) : hv_pm i = false := by
  unfold hv_pm
  rw [show Nat.ble 83 i = false from Bool.eq_false_iff.mpr (fun e => by have := Nat.le_of_ble_eq_true e; omega)]; rfl
theorem hv_pm_hi {i : Nat} (h : 85 < i) : hv_pm i = false := by
  unfold hv_pm
  rw [show Nat.ble i 85 = false from Bool.eq_false_iff.mpr (fun e => by have := Nat.le_of_ble_eq_true e; omega), Bool.and_false]
theorem hv_pw_scr (i : Nat) (h : hv_pw i = true) (k : Nat) : hv_scr i k = true := by
  have h1 : 54 ≤ i ∧ i ≤ 58 := by
    unfold hv_pw at h
    rw [Bool.and_eq_true] at h
    exact ⟨Nat.le_of_ble_eq_true h.1, Nat.le_of_ble_eq_true h.2⟩
  have e : i = 54 ∨ i = 55 ∨ i = 56 ∨ i = 57 ∨ i = 58 := by omega
  rcases e with rfl | rfl | rfl | rfl | rfl <;> rfl
theorem hv_pm_scr (i : Nat) (h : hv_pm i = true) (k : Nat) : hv_scr i k = true := by
  have h1 : 83 ≤ i ∧ i ≤ 85 := by
    unfold hv_pm at h
    rw [Bool.and_eq_true] at h
    exact ⟨Nat.le_of_ble_eq_true h.1, Nat.le_of_ble_eq_true h.2⟩
  have e : i = 83 ∨ i = 84 ∨ i = 85 := by omega
  rcases e with rfl | rfl | rfl <;> rfl
theorem hv_fr.pwSm {σ τ : am_St} (h : hv_fr hv_pw σ τ) : hv_Sm σ τ := h.Sm hv_pw_scr
theorem hv_fr.pmSm {σ τ : am_St} (h : hv_fr hv_pm σ τ) : hv_Sm σ τ := h.Sm hv_pm_scr
theorem hv_fr.dev {b : Nat} {h : hv} {σ τ : am_St} (f : hv_fr hv_pw σ τ) (hb : b + 9 < 54) (d : hv_dev b h σ) : hv_dev b h τ := d.frame fun i k h1 h2 => by rw [f.2 i (hv_pw_lo (by omega))]
theorem hv_fr.mod {h : hv} {σ τ : am_St} (f : hv_fr hv_pm σ τ) (d : hv_mod h σ) : hv_mod h τ := d.frame (fun k hk => by rw [f.2 66 rfl]) (fun i k h1 h2 => by rw [f.2 i (hv_pm_lo (by omega))])
/-- what the class has laid out of one child's minutes -/
def hv_wo (h : hv) (may : Nat → Nat → Bool) (τ : am_St) : Prop :=
  (τ.1 54 5 = hI h.R)
  ∧ (τ.1 54 6 = hI h.M)
  ∧ (∀ m, m < 6 → hv_msk h.R (may m) (τ.1 55 m))
  ∧ (∀ r, r < 4 → τ.1 56 r = hI (h.door r ||| 2 ^ r))
theorem hv_wo.R {h : hv} {may : Nat → Nat → Bool} {τ : am_St} (x : hv_wo h may τ) : τ.1 54 5 = hI h.R := x.1
theorem hv_wo.M {h : hv} {may : Nat → Nat → Bool} {τ : am_St} (x : hv_wo h may τ) : τ.1 54 6 = hI h.M := x.2.1
theorem hv_wo.op {h : hv} {may : Nat → Nat → Bool} {τ : am_St} (x : hv_wo h may τ) : ∀ m, m < 6 → hv_msk h.R (may m) (τ.1 55 m) := x.2.2.1
theorem hv_wo.st {h : hv} {may : Nat → Nat → Bool} {τ : am_St} (x : hv_wo h may τ) : ∀ r, r < 4 → τ.1 56 r = hI (h.door r ||| 2 ^ r) := x.2.2.2
theorem hv_wo.mk {h : hv} {may : Nat → Nat → Bool} {τ : am_St} (fR : τ.1 54 5 = hI h.R) (fM : τ.1 54 6 = hI h.M) (fop : ∀ m, m < 6 → hv_msk h.R (may m) (τ.1 55 m)) (fst : ∀ r, r < 4 → τ.1 56 r = hI (h.door r ||| 2 ^ r)) : hv_wo h may τ := ⟨fR, fM, fop, fst⟩
theorem hv_wo.congr {h : hv} {may may' : Nat → Nat → Bool} {τ : am_St} (x : hv_wo h may τ) (e : ∀ m r, m < 6 → r < 4 → may m r = may' m r) : hv_wo h may' τ := hv_wo.mk x.R x.M (fun m hm => (x.op m hm).congr fun r hr => e m r hm hr) x.st
theorem hv_W_narrow {m : Nat} (hm : m < 6) (x : Int32) (σ : am_St) : f_W_narrow (hI m) x σ = some (am_sI σ 55 m (σ.1 55 m &&& x)) := by
  have c1 : ¬ hI m < 0 := fun e => Nat.not_lt_zero m ((hI_lt (m := 0) (by omega) (by decide)).mp e)
  have c2 : ¬ (6 : Int32) ≤ hI m := fun e => by have := (hI_le (n := 6) (by decide) (show m < 2 ^ 31 by omega)).mp e; omega
  rw [eq_W_narrow]; unfold g_W_narrow
  rw [if_neg c1, if_neg c2, if_pos (hI_ix hm (by decide)), if_pos (hI_ix hm (by decide)), hI_clamp (by omega)]
/-- one mask narrowed -/
theorem hv_wo.nar {h : hv} {may : Nat → Nat → Bool} {τ : am_St} (x : hv_wo h may τ) (may' : Nat → Nat → Bool) {m : Nat} {y : Int32} (hy : hv_msk h.R (may' m) y) (e : ∀ j r, j ≠ m → may' j r = may j r) : hv_wo h may' (am_sI τ 55 m y) := by
  refine hv_wo.mk ?_ ?_ (fun j hj => ?_) (fun r hr => ?_)
  · rw [hv_g2 _ (by decide)]; exact x.R
  · rw [hv_g2 _ (by decide)]; exact x.M
  · by_cases c : j = m
    · subst c; rw [hv_g1]; exact hy
    · rw [hv_g3 _ _ c]; exact (x.op j hj).congr fun r _ => (e j r c).symm
  · rw [hv_g2 _ (by decide)]; exact x.st r hr
theorem hv_dev.factAt_1 {h : hv} {σ : am_St} (d : hv_dev 1 h σ) (ok : hv_ok h) {i : Nat} (hi : i < h.F) : f_H_factAt_1 (hI i) σ = some (hI (hv_mark (h.fc i) (h.fm i) (h.fr i) (h.fi i)), σ) := by
  have k := ok.F
  rw [eq_H_factAt_1]; unfold g_H_factAt_1
  rw [if_neg (hI_lt0 (n := i) (by omega)), d.F, if_neg (hI_nle (by omega) (by omega) (by omega)), if_pos (hI_ix (by omega) (by decide)), hI_clamp (by omega)]
  show some (σ.1 (1 + 8) i, σ) = _
  rw [d.fact i hi]
theorem hv_dev.stepsOf_1 {h : hv} {σ : am_St} (d : hv_dev 1 h σ) (ok : hv_ok h) {r : Nat} (hr : r < 4) : f_H_stepsOf_1 (hI r) σ = some (hI (h.door r ||| 2 ^ r), σ) := by
  rw [eq_H_stepsOf_1]; unfold g_H_stepsOf_1
  rw [if_neg (hI_lt0 (n := r) (by omega)), if_neg (hI_nge4 (n := r) (by omega)), if_pos (hI_ix hr (by decide)), hI_clamp (by omega)]
  show some (σ.1 (1 + 1) r ||| (1 <<< (hI r &&& 31)), σ) = _
  rw [d.door r hr, hI_or1 _ (ok.door16 hr) r hr]
theorem hv_W_open_1_70 {h : hv} {σ : am_St} (d : hv_dev 1 h σ) (ok : hv_ok h) (c : Nat) (hc : c < 4) (w : hv_wo h (hv_mayN h c 0) σ) : ∃ τ, f_W_openByFacts_1_70 (hI c) 0 σ = some τ ∧ hv_fr hv_pw σ τ ∧ hv_wo h (hv_may h c) τ := by
  have kF := ok.F
  have kC := ok.C
  unfold f_W_openByFacts_1_70
  refine hv_up h.F (fun i s => s.1 = hI c ∧ s.2.1 = hI i ∧ hv_fr hv_pw σ s.2.2 ∧ hv_wo h (hv_mayN h c i) s.2.2) 0 (Nat.zero_le _) _ ⟨rfl, rfl, hv_fr.rfl' _ _, w⟩ ?_ ?_
  · rintro i ⟨x, y, τ⟩ hi ⟨e1, e2, fr, q⟩
    dsimp only at e1 e2 fr q
    subst e1 e2
    have d2 := fr.dev (by decide) d
    obtain ⟨f1, f2, f3, f4⟩ := ok.fact i hi
    have f5 := ok.R
    have f6 := ok.M
    refine .inl ?_
    show ∃ s2, b_W_openByFacts_1_70 (hI c) (hI i) τ = _ ∧ _
    unfold b_W_openByFacts_1_70
    rw [d2.F, if_neg (hI_nle (by omega) (by omega) (by omega)), d2.factAt_1 ok hi]
    simp only [Option.bind_some, eq_H_childIn, g_H_childIn]
    rw [show (9 : Int32) &&& 31 = 9 from rfl, hv_mark_child _ (by omega) _ (by omega) _ (by omega) _ (by omega)]
    by_cases cc : h.fc i = c
    · rw [if_pos (by rw [cc])]
      simp only [eq_W_openByFacts_1_94, g_W_openByFacts_1_94, Option.bind_some, eq_H_roomIn, g_H_roomIn, eq_H_minuteIn, g_H_minuteIn, eq_H_moreIn, g_H_moreIn]
      rw [show (3 : Int32) &&& 31 = 3 from rfl, show (6 : Int32) &&& 31 = 6 from rfl, hv_mark_room _ (by omega) _ (by omega) _ (by omega) _ (by omega), hv_mark_minute _ (by omega) _ (by omega) _ (by omega) _ (by omega), hv_mark_more _ (by omega) _ (by omega) _ (by omega) _ (by omega)]
      by_cases ci : h.fi i = 1
      · rw [if_pos (by rw [ci]; rfl)]
        simp only [eq_W_openByFacts_1_127, g_W_openByFacts_1_127, hv_W_narrow (show h.fm i < 6 by omega), Option.bind_some, eq_W_openByFacts_1_130, g_W_openByFacts_1_130]
        refine ⟨_, rfl, rfl, hI_add1 i, fr.set 55 _ _ rfl, q.nar _ (m := h.fm i) (((q.op _ (by omega)).bit (show h.fr i < 4 by omega)).congr fun r _ => (hv_mayN_is ⟨cc, rfl⟩ ci).symm) fun j r hj => hv_mayN_other (fun e => hj e.2.symm)⟩
      · rw [if_neg (hI_ne1 (by omega) ci)]
        simp only [eq_W_openByFacts_1_127, g_W_openByFacts_1_127, hv_W_narrow (show h.fm i < 6 by omega), Option.bind_some, eq_W_openByFacts_1_130, g_W_openByFacts_1_130]
        refine ⟨_, rfl, rfl, hI_add1 i, fr.set 55 _ _ rfl, q.nar _ (m := h.fm i) (((q.op _ (by omega)).not (show h.fr i < 4 by omega)).congr fun r _ => (hv_mayN_not ⟨cc, rfl⟩ ci).symm) fun j r hj => hv_mayN_other (fun e => hj e.2.symm)⟩
    · rw [if_neg (hI_ne (by omega) (by omega) cc), eq_W_openByFacts_1_130]
      unfold g_W_openByFacts_1_130
      exact ⟨_, rfl, rfl, hI_add1 i, fr, q.congr fun m r _ _ => (hv_mayN_other (fun e => cc e.1)).symm⟩
  · rintro ⟨x, y, τ⟩ ⟨e1, e2, fr, q⟩
    dsimp only at e1 e2 fr q
    subst e1 e2
    have d2 := fr.dev (by decide) d
    show ∃ s2, b_W_openByFacts_1_70 (hI c) (hI h.F) τ = _ ∧ _
    unfold b_W_openByFacts_1_70
    rw [d2.F, if_pos (Int32.le_refl _)]
    exact ⟨_, rfl, fr, q⟩
theorem hv_W_open_1_42 {h : hv} {σ : am_St} (d : hv_dev 1 h σ) (ok : hv_ok h) (c : Nat) (hc : c < 4) (w1 : σ.1 54 5 = hI h.R) (w2 : σ.1 54 6 = hI h.M) (w3 : ∀ r, r < 4 → σ.1 56 r = hI (h.door r ||| 2 ^ r)) : ∃ τ, f_W_openByFacts_1_42 (hI c) 0 σ = some τ ∧ hv_fr hv_pw σ τ ∧ hv_wo h (hv_may h c) τ := by
  have kR := ok.R
  unfold f_W_openByFacts_1_42
  refine hv_up 6 (fun i s => s.1 = hI c ∧ s.2.1 = hI i ∧ hv_fr hv_pw σ s.2.2 ∧ s.2.2.1 54 5 = hI h.R ∧ s.2.2.1 54 6 = hI h.M ∧ (∀ r, r < 4 → s.2.2.1 56 r = hI (h.door r ||| 2 ^ r)) ∧ ∀ m, m < i → hv_msk h.R (fun _ => true) (s.2.2.1 55 m)) 0 (Nat.zero_le _) _ ⟨rfl, rfl, hv_fr.rfl' _ _, w1, w2, w3, fun m hm => absurd hm (Nat.not_lt_zero m)⟩ ?_ ?_
  · rintro i ⟨x, y, τ⟩ hi ⟨e1, e2, fr, q1, q2, q3, q4⟩
    dsimp only at e1 e2 fr q1 q2 q3 q4
    subst e1 e2
    refine .inl ?_
    show ∃ s2, b_W_openByFacts_1_42 (hI c) (hI i) τ = _ ∧ _
    unfold b_W_openByFacts_1_42
    rw [if_neg (hI_nge6 (n := i) (by omega)), if_pos (hI_ix hi (by decide)), hI_clamp (by omega), q1]
    refine ⟨_, rfl, rfl, hI_add1 i, fr.set 55 _ _ rfl, ?_, ?_, fun r hr => ?_, fun m hm => ?_⟩
    · dsimp only; rw [hv_g2 _ (by decide)]; exact q1
    · dsimp only; rw [hv_g2 _ (by decide)]; exact q2
    · dsimp only; rw [hv_g2 _ (by decide)]; exact q3 r hr
    · dsimp only
      by_cases cm : m = i
      · subst cm; rw [hv_g1]; exact hv_msk.full (by omega)
      · rw [hv_g3 _ _ cm]; exact q4 m (by omega)
  · rintro ⟨x, y, τ⟩ ⟨e1, e2, fr, q1, q2, q3, q4⟩
    dsimp only at e1 e2 fr q1 q2 q3 q4
    subst e1 e2
    show ∃ s2, b_W_openByFacts_1_42 (hI c) (hI 6) τ = _ ∧ _
    unfold b_W_openByFacts_1_42
    rw [if_pos (show (6 : Int32) ≤ hI 6 by decide)]
    obtain ⟨υ, e, f2, o⟩ := hv_W_open_1_70 (fr.dev (by decide) d) ok c hc (hv_wo.mk q1 q2 q4 q3)
    exact ⟨υ, by rw [e]; rfl, fr.trans f2, o⟩
theorem hv_W_open_1 {h : hv} {σ : am_St} (d : hv_dev 1 h σ) (ok : hv_ok h) (c : Nat) (hc : c < 4) : ∃ τ, f_W_openByFacts_1 (hI c) σ = some τ ∧ hv_fr hv_pw σ τ ∧ hv_wo h (hv_may h c) τ := by
  rw [eq_W_openByFacts_1]; unfold g_W_openByFacts_1
  rw [d.R]
  dsimp only
  rw [hv_g2 _ (show (1 : Nat) ≠ 54 by decide), d.M]
  unfold f_W_openByFacts_1_18
  have fr0 : hv_fr hv_pw σ (am_sI (am_sI σ 54 5 (hI h.R)) 54 6 (hI h.M)) := ((hv_fr.rfl' _ _).set 54 _ _ rfl).set 54 _ _ rfl
  refine hv_up 4 (fun i s => s.1 = hI c ∧ s.2.1 = hI i ∧ hv_fr hv_pw σ s.2.2 ∧ s.2.2.1 54 5 = hI h.R ∧ s.2.2.1 54 6 = hI h.M ∧ (∀ r, r < i → s.2.2.1 56 r = hI (h.door r ||| 2 ^ r))) 0 (Nat.zero_le _) _ ⟨rfl, rfl, fr0, by dsimp only; rw [hv_g3 _ _ (by decide), hv_g1], by dsimp only; rw [hv_g1], fun m hm => absurd hm (Nat.not_lt_zero m)⟩ ?_ ?_
  · rintro i ⟨x, y, τ⟩ hi ⟨e1, e2, fr, q1, q2, q3⟩
    dsimp only at e1 e2 fr q1 q2 q3
    subst e1 e2
    refine .inl ?_
    show ∃ s2, b_W_openByFacts_1_18 (hI c) (hI i) τ = _ ∧ _
    unfold b_W_openByFacts_1_18
    rw [if_neg (hI_nge4 (n := i) (by omega)), (fr.dev (by decide) d).stepsOf_1 ok hi]
    simp only [Option.bind_some]
    rw [if_pos (hI_ix hi (by decide)), hI_clamp (by omega)]
    refine ⟨_, rfl, rfl, hI_add1 i, fr.set 56 _ _ rfl, ?_, ?_, fun r hr => ?_⟩
    · dsimp only; rw [hv_g2 _ (by decide)]; exact q1
    · dsimp only; rw [hv_g2 _ (by decide)]; exact q2
    · dsimp only
      by_cases cm : r = i
      · subst cm; rw [hv_g1]
      · rw [hv_g3 _ _ cm]; exact q3 r (by omega)
  · rintro ⟨x, y, τ⟩ ⟨e1, e2, fr, q1, q2, q3⟩
    dsimp only at e1 e2 fr q1 q2 q3
    subst e1 e2
    show ∃ s2, b_W_openByFacts_1_18 (hI c) (hI 4) τ = _ ∧ _
    unfold b_W_openByFacts_1_18
    rw [if_pos (show (4 : Int32) ≤ hI 4 by decide)]
    obtain ⟨υ, e, f2, o⟩ := hv_W_open_1_42 (fr.dev (by decide) d) ok c hc q1 q2 q3
    exact ⟨υ, by rw [e]; rfl, fr.trans f2, o⟩
theorem hv_dev.factAt_37 {h : hv} {σ : am_St} (d : hv_dev 37 h σ) (ok : hv_ok h) {i : Nat} (hi : i < h.F) : f_H_factAt_37 (hI i) σ = some (hI (hv_mark (h.fc i) (h.fm i) (h.fr i) (h.fi i)), σ) := by
  have k := ok.F
  rw [eq_H_factAt_37]; unfold g_H_factAt_37
  rw [if_neg (hI_lt0 (n := i) (by omega)), d.F, if_neg (hI_nle (by omega) (by omega) (by omega)), if_pos (hI_ix (by omega) (by decide)), hI_clamp (by omega)]
  show some (σ.1 (37 + 8) i, σ) = _
  rw [d.fact i hi]
theorem hv_dev.stepsOf_37 {h : hv} {σ : am_St} (d : hv_dev 37 h σ) (ok : hv_ok h) {r : Nat} (hr : r < 4) : f_H_stepsOf_37 (hI r) σ = some (hI (h.door r ||| 2 ^ r), σ) := by
  rw [eq_H_stepsOf_37]; unfold g_H_stepsOf_37
  rw [if_neg (hI_lt0 (n := r) (by omega)), if_neg (hI_nge4 (n := r) (by omega)), if_pos (hI_ix hr (by decide)), hI_clamp (by omega)]
  show some (σ.1 (37 + 1) r ||| (1 <<< (hI r &&& 31)), σ) = _
  rw [d.door r hr, hI_or1 _ (ok.door16 hr) r hr]
theorem hv_W_open_37_70 {h : hv} {σ : am_St} (d : hv_dev 37 h σ) (ok : hv_ok h) (c : Nat) (hc : c < 4) (w : hv_wo h (hv_mayN h c 0) σ) : ∃ τ, f_W_openByFacts_37_70 (hI c) 0 σ = some τ ∧ hv_fr hv_pw σ τ ∧ hv_wo h (hv_may h c) τ := by
  have kF := ok.F
  have kC := ok.C
  unfold f_W_openByFacts_37_70
  refine hv_up h.F (fun i s => s.1 = hI c ∧ s.2.1 = hI i ∧ hv_fr hv_pw σ s.2.2 ∧ hv_wo h (hv_mayN h c i) s.2.2) 0 (Nat.zero_le _) _ ⟨rfl, rfl, hv_fr.rfl' _ _, w⟩ ?_ ?_
  · rintro i ⟨x, y, τ⟩ hi ⟨e1, e2, fr, q⟩
    dsimp only at e1 e2 fr q
    subst e1 e2
    have d2 := fr.dev (by decide) d
    obtain ⟨f1, f2, f3, f4⟩ := ok.fact i hi
    have f5 := ok.R
    have f6 := ok.M
    refine .inl ?_
    show ∃ s2, b_W_openByFacts_37_70 (hI c) (hI i) τ = _ ∧ _
    unfold b_W_openByFacts_37_70
    rw [d2.F, if_neg (hI_nle (by omega) (by omega) (by omega)), d2.factAt_37 ok hi]
    simp only [Option.bind_some, eq_H_childIn, g_H_childIn]
    rw [show (9 : Int32) &&& 31 = 9 from rfl, hv_mark_child _ (by omega) _ (by omega) _ (by omega) _ (by omega)]
    by_cases cc : h.fc i = c
    · rw [if_pos (by rw [cc])]
      simp only [eq_W_openByFacts_37_94, g_W_openByFacts_37_94, Option.bind_some, eq_H_roomIn, g_H_roomIn, eq_H_minuteIn, g_H_minuteIn, eq_H_moreIn, g_H_moreIn]
      rw [show (3 : Int32) &&& 31 = 3 from rfl, show (6 : Int32) &&& 31 = 6 from rfl, hv_mark_room _ (by omega) _ (by omega) _ (by omega) _ (by omega), hv_mark_minute _ (by omega) _ (by omega) _ (by omega) _ (by omega), hv_mark_more _ (by omega) _ (by omega) _ (by omega) _ (by omega)]
      by_cases ci : h.fi i = 1
      · rw [if_pos (by rw [ci]; rfl)]
        simp only [eq_W_openByFacts_37_127, g_W_openByFacts_37_127, hv_W_narrow (show h.fm i < 6 by omega), Option.bind_some, eq_W_openByFacts_37_130, g_W_openByFacts_37_130]
        refine ⟨_, rfl, rfl, hI_add1 i, fr.set 55 _ _ rfl, q.nar _ (m := h.fm i) (((q.op _ (by omega)).bit (show h.fr i < 4 by omega)).congr fun r _ => (hv_mayN_is ⟨cc, rfl⟩ ci).symm) fun j r hj => hv_mayN_other (fun e => hj e.2.symm)⟩
      · rw [if_neg (hI_ne1 (by omega) ci)]
        simp only [eq_W_openByFacts_37_127, g_W_openByFacts_37_127, hv_W_narrow (show h.fm i < 6 by omega), Option.bind_some, eq_W_openByFacts_37_130, g_W_openByFacts_37_130]
        refine ⟨_, rfl, rfl, hI_add1 i, fr.set 55 _ _ rfl, q.nar _ (m := h.fm i) (((q.op _ (by omega)).not (show h.fr i < 4 by omega)).congr fun r _ => (hv_mayN_not ⟨cc, rfl⟩ ci).symm) fun j r hj => hv_mayN_other (fun e => hj e.2.symm)⟩
    · rw [if_neg (hI_ne (by omega) (by omega) cc), eq_W_openByFacts_37_130]
      unfold g_W_openByFacts_37_130
      exact ⟨_, rfl, rfl, hI_add1 i, fr, q.congr fun m r _ _ => (hv_mayN_other (fun e => cc e.1)).symm⟩
  · rintro ⟨x, y, τ⟩ ⟨e1, e2, fr, q⟩
    dsimp only at e1 e2 fr q
    subst e1 e2
    have d2 := fr.dev (by decide) d
    show ∃ s2, b_W_openByFacts_37_70 (hI c) (hI h.F) τ = _ ∧ _
    unfold b_W_openByFacts_37_70
    rw [d2.F, if_pos (Int32.le_refl _)]
    exact ⟨_, rfl, fr, q⟩
theorem hv_W_open_37_42 {h : hv} {σ : am_St} (d : hv_dev 37 h σ) (ok : hv_ok h) (c : Nat) (hc : c < 4) (w1 : σ.1 54 5 = hI h.R) (w2 : σ.1 54 6 = hI h.M) (w3 : ∀ r, r < 4 → σ.1 56 r = hI (h.door r ||| 2 ^ r)) : ∃ τ, f_W_openByFacts_37_42 (hI c) 0 σ = some τ ∧ hv_fr hv_pw σ τ ∧ hv_wo h (hv_may h c) τ := by
  have kR := ok.R
  unfold f_W_openByFacts_37_42
  refine hv_up 6 (fun i s => s.1 = hI c ∧ s.2.1 = hI i ∧ hv_fr hv_pw σ s.2.2 ∧ s.2.2.1 54 5 = hI h.R ∧ s.2.2.1 54 6 = hI h.M ∧ (∀ r, r < 4 → s.2.2.1 56 r = hI (h.door r ||| 2 ^ r)) ∧ ∀ m, m < i → hv_msk h.R (fun _ => true) (s.2.2.1 55 m)) 0 (Nat.zero_le _) _ ⟨rfl, rfl, hv_fr.rfl' _ _, w1, w2, w3, fun m hm => absurd hm (Nat.not_lt_zero m)⟩ ?_ ?_
  · rintro i ⟨x, y, τ⟩ hi ⟨e1, e2, fr, q1, q2, q3, q4⟩
    dsimp only at e1 e2 fr q1 q2 q3 q4
    subst e1 e2
    refine .inl ?_
    show ∃ s2, b_W_openByFacts_37_42 (hI c) (hI i) τ = _ ∧ _
    unfold b_W_openByFacts_37_42
    rw [if_neg (hI_nge6 (n := i) (by omega)), if_pos (hI_ix hi (by decide)), hI_clamp (by omega), q1]
    refine ⟨_, rfl, rfl, hI_add1 i, fr.set 55 _ _ rfl, ?_, ?_, fun r hr => ?_, fun m hm => ?_⟩
    · dsimp only; rw [hv_g2 _ (by decide)]; exact q1
    · dsimp only; rw [hv_g2 _ (by decide)]; exact q2
    · dsimp only; rw [hv_g2 _ (by decide)]; exact q3 r hr
    · dsimp only
      by_cases cm : m = i
      · subst cm; rw [hv_g1]; exact hv_msk.full (by omega)
      · rw [hv_g3 _ _ cm]; exact q4 m (by omega)
  · rintro ⟨x, y, τ⟩ ⟨e1, e2, fr, q1, q2, q3, q4⟩
    dsimp only at e1 e2 fr q1 q2 q3 q4
    subst e1 e2
    show ∃ s2, b_W_openByFacts_37_42 (hI c) (hI 6) τ = _ ∧ _
    unfold b_W_openByFacts_37_42
    rw [if_pos (show (6 : Int32) ≤ hI 6 by decide)]
    obtain ⟨υ, e, f2, o⟩ := hv_W_open_37_70 (fr.dev (by decide) d) ok c hc (hv_wo.mk q1 q2 q4 q3)
    exact ⟨υ, by rw [e]; rfl, fr.trans f2, o⟩
theorem hv_W_open_37 {h : hv} {σ : am_St} (d : hv_dev 37 h σ) (ok : hv_ok h) (c : Nat) (hc : c < 4) : ∃ τ, f_W_openByFacts_37 (hI c) σ = some τ ∧ hv_fr hv_pw σ τ ∧ hv_wo h (hv_may h c) τ := by
  rw [eq_W_openByFacts_37]; unfold g_W_openByFacts_37
  rw [d.R]
  dsimp only
  rw [hv_g2 _ (show (37 : Nat) ≠ 54 by decide), d.M]
  unfold f_W_openByFacts_37_18
  have fr0 : hv_fr hv_pw σ (am_sI (am_sI σ 54 5 (hI h.R)) 54 6 (hI h.M)) := ((hv_fr.rfl' _ _).set 54 _ _ rfl).set 54 _ _ rfl
  refine hv_up 4 (fun i s => s.1 = hI c ∧ s.2.1 = hI i ∧ hv_fr hv_pw σ s.2.2 ∧ s.2.2.1 54 5 = hI h.R ∧ s.2.2.1 54 6 = hI h.M ∧ (∀ r, r < i → s.2.2.1 56 r = hI (h.door r ||| 2 ^ r))) 0 (Nat.zero_le _) _ ⟨rfl, rfl, fr0, by dsimp only; rw [hv_g3 _ _ (by decide), hv_g1], by dsimp only; rw [hv_g1], fun m hm => absurd hm (Nat.not_lt_zero m)⟩ ?_ ?_
  · rintro i ⟨x, y, τ⟩ hi ⟨e1, e2, fr, q1, q2, q3⟩
    dsimp only at e1 e2 fr q1 q2 q3
    subst e1 e2
    refine .inl ?_
    show ∃ s2, b_W_openByFacts_37_18 (hI c) (hI i) τ = _ ∧ _
    unfold b_W_openByFacts_37_18
    rw [if_neg (hI_nge4 (n := i) (by omega)), (fr.dev (by decide) d).stepsOf_37 ok hi]
    simp only [Option.bind_some]
    rw [if_pos (hI_ix hi (by decide)), hI_clamp (by omega)]
    refine ⟨_, rfl, rfl, hI_add1 i, fr.set 56 _ _ rfl, ?_, ?_, fun r hr => ?_⟩
    · dsimp only; rw [hv_g2 _ (by decide)]; exact q1
    · dsimp only; rw [hv_g2 _ (by decide)]; exact q2
    · dsimp only
      by_cases cm : r = i
      · subst cm; rw [hv_g1]
      · rw [hv_g3 _ _ cm]; exact q3 r (by omega)
  · rintro ⟨x, y, τ⟩ ⟨e1, e2, fr, q1, q2, q3⟩
    dsimp only at e1 e2 fr q1 q2 q3
    subst e1 e2
    show ∃ s2, b_W_openByFacts_37_18 (hI c) (hI 4) τ = _ ∧ _
    unfold b_W_openByFacts_37_18
    rw [if_pos (show (4 : Int32) ≤ hI 4 by decide)]
    obtain ⟨υ, e, f2, o⟩ := hv_W_open_37_42 (fr.dev (by decide) d) ok c hc q1 q2 q3
    exact ⟨υ, by rw [e]; rfl, fr.trans f2, o⟩
