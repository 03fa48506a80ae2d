/-! PURE: holds, first -/
def hv_left (h : hv) (i : Nat) : Nat := hv_all h (hv_pin (hv_may h (h.sc i)) (h.sm i) (h.sr i))
theorem hv_left_big {h : hv} (ok : hv_ok h) (i : Nat) : hv_left h i ≤ 4096 := hv_all_big ok _
theorem hv_at.sayingAt {h : hv} {σ : am_St} (H : hv_at h σ) {i : Nat} (hi : i < h.S) : f_H_sayingAt_1 (hI i) σ = some (hI (hv_mark (h.sc i) (h.sm i) (h.sr i) (h.sp i)), σ) := by
  have kS := H.ok.S
  rw [eq_H_sayingAt_1]; unfold g_H_sayingAt_1
  rw [if_neg (hI_lt0 (by omega)), show σ.1 1 6 = hI h.S from H.d.S, if_neg (hI_nle (by omega) (by omega) hi), if_pos (hI_ix (by omega) (by decide)), hI_clamp (by omega)]
  exact congrArg some (congrArg (Prod.mk · σ) (H.d.say i hi))
theorem hv_at.leftBy {h : hv} {σ : am_St} (H : hv_at h σ) {i : Nat} (hi : i < h.S) : ∃ τ, f_W_leftBy_1 (hI i) σ = some (hI (hv_left h i), τ) ∧ hv_fr hv_pw σ τ := by
  have kC := H.ok.C
  have kR := H.ok.R
  have kM := H.ok.M
  obtain ⟨s1, s2, s3, s4⟩ := H.ok.say i hi
  obtain ⟨τ, e, f, w⟩ := H.look s2
  refine ⟨τ, ?_, f⟩
  rw [eq_W_leftBy_1]; unfold g_W_leftBy_1
  rw [H.sayingAt hi]
  simp only [Option.bind_some, eq_H_childIn, g_H_childIn]
  rw [show (9 : Int32) &&& 31 = 9 from rfl, hv_mark_child _ (by omega) _ (by omega) _ (by omega) _ (by omega), e]
  simp only [Option.bind_some, eq_W_leftBy_1_15, g_W_leftBy_1_15, eq_H_minuteIn, g_H_minuteIn, eq_H_roomIn, g_H_roomIn]
  rw [show (3 : Int32) &&& 31 = 3 from rfl, show (6 : Int32) &&& 31 = 6 from rfl, hv_mark_minute _ (by omega) _ (by omega) _ (by omega) _ (by omega), hv_mark_room _ (by omega) _ (by omega) _ (by omega) _ (by omega), w.through H.ok s3 s4]
  rfl
theorem hv_at.holdsOf {h : hv} {σ : am_St} (H : hv_at h σ) {i : Nat} (hi : i < h.S) : ∃ τ, f_M_holdsOf (hI i) σ = some (hI (hv_left h i), τ) ∧ hv_fr hv_pm σ τ := by
  have kS := H.ok.S
  obtain ⟨s1, s2, s3, s4⟩ := H.ok.say i hi
  obtain ⟨τ, e, f⟩ := H.waysAt s2 s3 s4
  refine ⟨τ, ?_, f⟩
  have ix : am_ix (hI i) 8 = true := hI_ix (by omega) (by decide)
  rw [eq_M_holdsOf]; unfold g_M_holdsOf
  rw [if_pos ix, if_pos ix, if_pos ix, hI_clamp (by omega), H.m.sc i hi, H.m.sm i hi, H.m.sr i hi, e]
  rfl
theorem hv_rng_01' (a : Int32) {n : Nat} (hn : n < 2 ^ 31) : (hv_rng a n = 0 ∧ (a < 0 ∨ (¬ a < 0 ∧ ¬ a < hI n))) ∨ ∃ k, k < n ∧ a = hI k ∧ hv_rng (hI k) n = 1 := by
  rcases hv_rng_cases a hn with e | e
  · refine .inl ⟨e, ?_⟩
    by_cases c : a < 0
    · exact .inl c
    · refine .inr ⟨c, fun q => ?_⟩
      unfold hv_rng at e
      rw [if_pos ⟨Int32.not_lt.mp c, q⟩] at e
      exact absurd e (by decide)
  · exact .inr e
theorem hv_st_holds : st_holds hv_inv := by
  intro σ hi x
  obtain ⟨h, H⟩ := hi.at
  have kS := H.ok.S
  have D1 : σ.1 1 6 = hI h.S := H.d.S
  rcases hv_rng_01' x (show h.S < 2 ^ 31 by omega) with ⟨c1, c2⟩ | ⟨i, hi', rfl, c1⟩
  · refine hv_qry hi H 1 (-1) (hv_refX (by decide) ?_) (fun τ T _ => ?_)
    · rcases c2 with c2 | ⟨c2, c3⟩
      · simp only [eq_X_holds, g_X_holds, eq_X_holds_15, g_X_holds_15, c2, Option.bind_some, ↓reduceIte, hv_10, hv_01, hI_00, hI_10, hv_X_r1, hv_X_r2, hv_X_r3, hv_X_r4, hv_X_r6, hv_M_r1, hv_M_r2, hv_M_r3, hv_M_r4, hv_M_r6]
      · simp only [eq_X_holds, g_X_holds, eq_X_holds_15, g_X_holds_15, c2, D1, c3, Option.bind_some, ↓reduceIte, hv_10, hv_01, hI_00, hI_10, hv_X_r1, hv_X_r2, hv_X_r3, hv_X_r4, hv_X_r6, hv_M_r1, hv_M_r2, hv_M_r3, hv_M_r4, hv_M_r6]
    · refine hv_thr ?_
      rw [eq_M_holds]; unfold g_M_holds
      replace T := T.thrown
      generalize am_sI τ 66 22 0 = τ at T ⊢
      dsimp only
      refine hv_refM (by decide) ?_
      rw [T.m.S, hv_M_below (by omega), c1]
      simp only [Option.bind_some, ↓reduceIte, hv_10, hv_01, hI_00, hI_10, hv_X_r1, hv_X_r2, hv_X_r3, hv_X_r4, hv_X_r6, hv_M_r1, hv_M_r2, hv_M_r3, hv_M_r4, hv_M_r6]
  · refine hv_qry hi H 0 (hI (hv_left h i)) ?_ (fun τ T _ => ?_)
    · obtain ⟨υ, e, f⟩ := H.leftBy hi'
      refine ⟨υ, ?_, hv_Sx.of f.pwSm⟩
      rw [eq_X_holds]; unfold g_X_holds
      rw [if_neg (hI_lt0 (by omega)), D1, if_pos ((hI_lt (by omega) (by omega)).mpr hi'), e]; rfl
    · refine hv_thr ?_
      rw [eq_M_holds]; unfold g_M_holds
      replace T := T.thrown
      generalize am_sI τ 66 22 0 = τ at T ⊢
      dsimp only
      obtain ⟨υ, e, f⟩ := T.holdsOf hi'
      refine ⟨υ, ?_, hv_Sx.of f.pmSm⟩
      rw [T.m.S, hv_M_below (by omega), c1]
      simp only [Option.bind_some, ↓reduceIte, hv_10, hv_01, hI_00, hI_10, hv_X_r1, hv_X_r2, hv_X_r3, hv_X_r4, hv_X_r6, hv_M_r1, hv_M_r2, hv_M_r3, hv_M_r4, hv_M_r6, e]
/-! first -/
def hv_ml (h : hv) (c m : Nat) : Nat → Nat
  | 0 => 0
  | n + 1 => max (hv_ml h c m n) (hv_all h (hv_pin (hv_may h c) m n))
theorem hv_ml_0 (h : hv) (c m : Nat) : hv_ml h c m 0 = 0 := by rw [hv_ml]
theorem hv_ml_s (h : hv) (c m n : Nat) : hv_ml h c m (n + 1) = max (hv_ml h c m n) (hv_all h (hv_pin (hv_may h c) m n)) := by rw [hv_ml]
theorem hv_ml_le {h : hv} (ok : hv_ok h) (c m : Nat) : ∀ n, hv_ml h c m n ≤ 4096 := by
  intro n
  induction n with
  | zero => rw [hv_ml_0]; decide
  | succ n ih => rw [hv_ml_s]; have := hv_all_big ok (hv_pin (hv_may h c) m n); omega
theorem hv_mmaxN {a b : Nat} (ha : a < 2 ^ 31) (hb : b < 2 ^ 31) : am_mmax (hI a) (hI b) = hI (max a b) := by
  unfold am_mmax
  by_cases c : a < b
  · rw [if_pos ((hI_lt ha hb).mpr c), Nat.max_eq_right (by omega)]
  · rw [if_neg (hI_nlt ha hb (by omega)), Nat.max_eq_left (by omega)]
theorem hv_X_ml {h : hv} {σ : am_St} (H : hv_at h σ) {c m : Nat} (w : hv_wl h (hv_may h c) σ) (hm : m < h.M) : f_W_mostLeftAt (hI m) σ = some (hI (hv_ml h c m h.R), σ) := by
  have kR := H.ok.R
  rw [eq_W_mostLeftAt]; unfold g_W_mostLeftAt f_W_mostLeftAt_4
  have L := hv_up (body := fun s : Int32 × Int32 × Int32 × am_St => b_W_mostLeftAt_4 s.1 s.2.1 s.2.2.1 s.2.2.2) (P := fun x => x = (hI (hv_ml h c m h.R), σ)) h.R (fun i t => t = (hI m, hI (hv_ml h c m i), hI i, σ)) 0 (Nat.zero_le _) (hI m, 0, 0, σ) (by rw [hv_ml_0]; rfl) ?_ ?_
  · obtain ⟨x, e, rfl⟩ := L; exact e
  · rintro i t hi rfl
    have k1 := hv_ml_le H.ok c m i
    have k2 := hv_all_big H.ok (hv_pin (hv_may h c) m i)
    refine .inl ⟨_, ?_, rfl⟩
    show b_W_mostLeftAt_4 (hI m) _ (hI i) σ = _
    unfold b_W_mostLeftAt_4
    rw [w.wu.wo.R, if_neg (hI_nle (by omega) (by omega) hi), w.through H.ok hm hi]
    simp only [Option.bind_some]
    rw [hv_mmaxN (by omega) (by omega), hI_add1, hv_ml_s]
  · rintro t rfl
    refine ⟨_, ?_, rfl⟩
    show b_W_mostLeftAt_4 (hI m) _ (hI h.R) σ = _
    unfold b_W_mostLeftAt_4
    rw [w.wu.wo.R, if_pos (Int32.le_refl _)]
theorem hv_M_ml {h : hv} {σ : am_St} (H : hv_at h σ) {c m : Nat} (hc : c < h.C) (hm : m < h.M) : ∃ τ, f_M_mostLeft (hI c) (hI m) σ = some (hI (hv_ml h c m h.R), τ) ∧ hv_fr hv_pm σ τ := by
  have kR := H.ok.R
  rw [eq_M_mostLeft]; unfold g_M_mostLeft f_M_mostLeft_5
  have L := hv_up (body := fun s : Int32 × Int32 × Int32 × Int32 × am_St => b_M_mostLeft_5 s.1 s.2.1 s.2.2.1 s.2.2.2.1 s.2.2.2.2) (P := fun x => ∃ υ, x = (hI (hv_ml h c m h.R), υ) ∧ hv_fr hv_pm σ υ) h.R (fun i t => ∃ υ, t = (hI c, hI m, hI (hv_ml h c m i), hI i, υ) ∧ hv_fr hv_pm σ υ) 0 (Nat.zero_le _) (hI c, hI m, 0, 0, σ) ⟨σ, by rw [hv_ml_0]; rfl, hv_fr.rfl' _ _⟩ ?_ ?_
  · obtain ⟨x, e, υ, rfl, f⟩ := L; exact ⟨υ, e, f⟩
  · rintro i t hi ⟨υ, rfl, f⟩
    have k1 := hv_ml_le H.ok c m i
    have k2 := hv_all_big H.ok (hv_pin (hv_may h c) m i)
    obtain ⟨ω, e, f2⟩ := (f.atm H).waysAt hc hm hi
    refine .inl ⟨_, ?_, ω, rfl, f.trans f2⟩
    show b_M_mostLeft_5 (hI c) (hI m) _ (hI i) υ = _
    unfold b_M_mostLeft_5
    rw [(f.atm H).m.R, if_neg (hI_nle (by omega) (by omega) hi), e]
    simp only [Option.bind_some, eq_M_mostLeft_36, g_M_mostLeft_36, hI_add1]
    rw [hv_ml_s]
    by_cases q : hv_all h (hv_pin (hv_may h c) m i) ≤ hv_ml h c m i
    · rw [if_pos ((hI_le (by omega) (by omega)).mpr q), Nat.max_eq_left q]
    · rw [if_neg (hI_nle (by omega) (by omega) (by omega)), Nat.max_eq_right (by omega)]
  · rintro t ⟨υ, rfl, f⟩
    refine ⟨_, ?_, υ, rfl, f⟩
    show b_M_mostLeft_5 (hI c) (hI m) _ (hI h.R) υ = _
    unfold b_M_mostLeft_5
    rw [(f.atm H).m.R, if_pos (Int32.le_refl _)]
/-- the best so far: whom and when (99: none), what is left, of how many -/
def hv_fstep (h : hv) (c m : Nat) (s : Nat × Nat × Nat) : Nat × Nat × Nat := if s.1 = 99 ∨ hv_ml h c m h.R * s.2.2 < s.2.1 * hv_ways h c then (10 * c + m, hv_ml h c m h.R, hv_ways h c) else s
def hv_fin (h : hv) (c : Nat) (s : Nat × Nat × Nat) : Nat → Nat × Nat × Nat
  | 0 => s
  | n + 1 => hv_fstep h c n (hv_fin h c s n)
theorem hv_fin_0 (h : hv) (c : Nat) (s : Nat × Nat × Nat) : hv_fin h c s 0 = s := by rw [hv_fin]
theorem hv_fin_s (h : hv) (c : Nat) (s : Nat × Nat × Nat) (n : Nat) : hv_fin h c s (n + 1) = hv_fstep h c n (hv_fin h c s n) := by rw [hv_fin]
def hv_fout (h : hv) : Nat → Nat × Nat × Nat
  | 0 => (99, 0, 1)
  | n + 1 => hv_fin h n (hv_fout h n) h.M
theorem hv_fout_0 (h : hv) : hv_fout h 0 = (99, 0, 1) := by rw [hv_fout]
theorem hv_fout_s (h : hv) (n : Nat) : hv_fout h (n + 1) = hv_fin h n (hv_fout h n) h.M := by rw [hv_fout]
def hv_fI (x : Nat) : Int32 := if x = 99 then -9 else hI x
def hv_fgood (s : Nat × Nat × Nat) : Prop := (s.1 = 99 ∨ s.1 < 99) ∧ s.2.1 ≤ 4096 ∧ s.2.2 ≤ 4096
theorem hv_fstep_good {h : hv} (ok : hv_ok h) {c m : Nat} (hc : c < 4) (hm : m < 6) {s : Nat × Nat × Nat} (g : hv_fgood s) : hv_fgood (hv_fstep h c m s) := by
  unfold hv_fstep
  split
  · exact ⟨.inr (by dsimp only; omega), hv_ml_le ok c m _, hv_ways_big ok c⟩
  · exact g
theorem hv_fin_good {h : hv} (ok : hv_ok h) {c : Nat} (hc : c < 4) {s : Nat × Nat × Nat} (g : hv_fgood s) : ∀ n, n ≤ 6 → hv_fgood (hv_fin h c s n) := by
  intro n
  induction n with
  | zero => intro _; rw [hv_fin_0]; exact g
  | succ n ih => intro hn; rw [hv_fin_s]; exact hv_fstep_good ok hc (by omega) (ih (by omega))
theorem hv_fout_good {h : hv} (ok : hv_ok h) : ∀ n, n ≤ 4 → hv_fgood (hv_fout h n) := by
  have kM := ok.M
  intro n
  induction n with
  | zero => intro _; rw [hv_fout_0]; exact ⟨.inl rfl, by decide, by decide⟩
  | succ n ih => intro hn; rw [hv_fout_s]; exact hv_fin_good ok (by omega) (ih (by omega)) _ (by omega)
theorem hv_X_fin {h : hv} {σ : am_St} (H : hv_at h σ) {c : Nat} (hc : c < h.C) (w : hv_wl h (hv_may h c) σ) {s : Nat × Nat × Nat} (g : hv_fgood s) : ∃ x, f_X_first_47 (hv_fI s.1) (hI s.2.1) (hI s.2.2) (hI c) (hI (hv_ways h c)) 0 σ = some x ∧ x = .inl (hv_fI (hv_fin h c s h.M).1, hI (hv_fin h c s h.M).2.1, hI (hv_fin h c s h.M).2.2, hI (c + 1), σ) := by
  have kC := H.ok.C
  have kM := H.ok.M
  have kw := hv_ways_big H.ok c
  have D1 : σ.1 1 1 = hI h.M := H.d.M
  unfold f_X_first_47
  refine hv_up h.M (fun i t => t = (hv_fI (hv_fin h c s i).1, hI (hv_fin h c s i).2.1, hI (hv_fin h c s i).2.2, hI c, hI (hv_ways h c), hI i, σ)) 0 (Nat.zero_le _) _ (by rw [hv_fin_0]; rfl) ?_ ?_
  · rintro i t hi rfl
    have gi := hv_fin_good (c := c) H.ok (by omega) g i (by omega)
    have km := hv_ml_le H.ok c i h.R
    rw [hv_fin_s]
    generalize hv_fin h c s i = u at gi ⊢
    obtain ⟨g1, g2, g3⟩ := gi
    refine .inl ⟨_, ?_, rfl⟩
    show b_X_first_47 _ _ _ _ _ (hI i) σ = _
    unfold b_X_first_47
    rw [D1, if_neg (hI_nle (by omega) (by omega) hi), hv_X_ml H w hi]
    simp only [Option.bind_some]
    have S : f_X_first_87 (hI c) (hI (hv_ways h c)) (hI i) (hI (hv_ml h c i h.R)) σ = some (.inl (hI (10 * c + i), hI (hv_ml h c i h.R), hI (hv_ways h c), hI c, hI (hv_ways h c), hI (i + 1), σ)) := by
      rw [eq_X_first_87]; unfold g_X_first_87
      dsimp only
      rw [eq_X_first_102]; unfold g_X_first_102
      dsimp only
      rw [hI_add1, show (10 : Int32) = hI 10 from rfl, hI_mul, hI_add]
    have m1 : hv_ml h c i h.R * u.2.2 ≤ 4096 * 4096 := Nat.mul_le_mul km g3
    have m2 : u.2.1 * hv_ways h c ≤ 4096 * 4096 := Nat.mul_le_mul g2 kw
    unfold hv_fstep
    rcases g1 with z | z
    · rw [if_pos (show hv_fI u.1 = -9 by unfold hv_fI; rw [if_pos z]), if_pos (.inl z), S]
      dsimp only
      unfold hv_fI
      rw [if_neg (by omega)]
    · have n9 : ¬ hv_fI u.1 = -9 := by
        unfold hv_fI
        rw [if_neg (by omega)]
        have : ∀ r, r < 99 → ¬ hI r = -9 := by decide
        exact this _ z
      rw [if_neg n9, hI_mul, hI_mul]
      by_cases q : hv_ml h c i h.R * u.2.2 < u.2.1 * hv_ways h c
      · rw [if_neg (hI_nle (by omega) (by omega) q), if_pos (.inr q), S]
        dsimp only
        unfold hv_fI
        rw [if_neg (by omega)]
      · rw [if_pos ((hI_le (by omega) (by omega)).mpr (by omega)), if_neg (fun e => e.elim (by omega) q), eq_X_first_102]
        unfold g_X_first_102
        dsimp only
        rw [hI_add1]
  · rintro t rfl
    refine ⟨_, ?_, rfl⟩
    show b_X_first_47 _ _ _ _ _ (hI h.M) σ = _
    unfold b_X_first_47
    rw [D1, if_pos (Int32.le_refl _)]
    dsimp only
    rw [hI_add1]
theorem hv_M_fin {h : hv} {σ : am_St} (H : hv_at h σ) {c : Nat} (hc : c < h.C) {s : Nat × Nat × Nat} (g : hv_fgood s) (a b : Int64) (ab : s.1 ≠ 99 → a = hL s.2.1 ∧ b = hL s.2.2) : ∃ x, f_M_first_28 (hv_fI s.1) a b (hI c) 0 σ = some x ∧ ∃ a2 b2 τ, x = .inl (hv_fI (hv_fin h c s h.M).1, a2, b2, hI (c + 1), τ) ∧ ((hv_fin h c s h.M).1 ≠ 99 → a2 = hL (hv_fin h c s h.M).2.1 ∧ b2 = hL (hv_fin h c s h.M).2.2) ∧ hv_fr hv_pm σ τ := by
  have kC := H.ok.C
  have kM := H.ok.M
  have kw := hv_ways_big H.ok c
  unfold f_M_first_28
  refine hv_up h.M (fun i t => ∃ a2 b2 τ, t = (hv_fI (hv_fin h c s i).1, a2, b2, hI c, hI i, τ) ∧ ((hv_fin h c s i).1 ≠ 99 → a2 = hL (hv_fin h c s i).2.1 ∧ b2 = hL (hv_fin h c s i).2.2) ∧ hv_fr hv_pm σ τ) 0 (Nat.zero_le _) _ ⟨a, b, σ, by rw [hv_fin_0]; rfl, by rw [hv_fin_0]; exact ab, hv_fr.rfl' _ _⟩ ?_ ?_
  · rintro i t hi ⟨a2, b2, τ, rfl, e2, f⟩
    have gi := hv_fin_good (c := c) H.ok (by omega) g i (by omega)
    have km := hv_ml_le H.ok c i h.R
    rw [hv_fin_s]
    generalize hv_fin h c s i = u at gi e2 ⊢
    obtain ⟨g1, g2, g3⟩ := gi
    obtain ⟨ω, e, f2⟩ := hv_M_ml (f.atm H) hc hi
    obtain ⟨ω2, e3, f3⟩ := ((f.trans f2).atm H).waysOf hc
    refine .inl ?_
    show ∃ s2, b_M_first_28 (hv_fI u.1) a2 b2 (hI c) (hI i) τ = _ ∧ _
    unfold b_M_first_28
    rw [(f.atm H).m.M, if_neg (hI_nle (by omega) (by omega) hi), e]
    simp only [Option.bind_some]
    rw [e3]
    simp only [Option.bind_some]
    rw [hI_long (by omega), hI_long (by omega)]
    have S1 : f_M_first_79 (hv_fI u.1) a2 b2 (hI c) (hI i) (hL (hv_ml h c i h.R)) (hL (hv_ways h c)) 1 ω2 = some (.inl (hI (10 * c + i), hL (hv_ml h c i h.R), hL (hv_ways h c), hI c, hI (i + 1), ω2)) := by
      simp only [eq_M_first_79, g_M_first_79, eq_M_first_98, g_M_first_98, eq_M_first_110, g_M_first_110, eq_M_first_123, g_M_first_123, hv_10, ↓reduceIte, hI_add1]
      rw [show (10 : Int32) = hI 10 from rfl, hI_mul, hI_add]
    have S0 : f_M_first_79 (hv_fI u.1) a2 b2 (hI c) (hI i) (hL (hv_ml h c i h.R)) (hL (hv_ways h c)) 0 ω2 = some (.inl (hv_fI u.1, a2, b2, hI c, hI (i + 1), ω2)) := by
      simp only [eq_M_first_79, g_M_first_79, eq_M_first_98, g_M_first_98, eq_M_first_110, g_M_first_110, eq_M_first_123, g_M_first_123, ↓reduceIte, hI_add1]
    have m1 : hv_ml h c i h.R * u.2.2 ≤ 4096 * 4096 := Nat.mul_le_mul km g3
    have m2 : u.2.1 * hv_ways h c ≤ 4096 * 4096 := Nat.mul_le_mul g2 kw
    rw [eq_M_first_57]; unfold g_M_first_57 hv_fstep
    have ft := (f.trans f2).trans f3
    have nx : hI (10 * c + i) = hv_fI (10 * c + i) := by unfold hv_fI; rw [if_neg (by omega)]
    rcases g1 with z | z
    · rw [if_pos (show hv_fI u.1 < 0 by unfold hv_fI; rw [if_pos z]; decide), if_pos (.inl z), eq_M_first_74]
      unfold g_M_first_74
      rw [S1]
      exact ⟨_, rfl, _, _, ω2, by rw [nx], fun _ => ⟨rfl, rfl⟩, ft⟩
    · obtain ⟨ea, eb⟩ := e2 (by omega)
      have n9 : ¬ hv_fI u.1 < 0 := by unfold hv_fI; rw [if_neg (by omega)]; exact hI_lt0 (by omega)
      have cm : (0 ≤ lg_cmp (hL (hv_ml h c i h.R) * b2) (a2 * hL (hv_ways h c))) = ¬ (hv_ml h c i h.R * u.2.2 < u.2.1 * hv_ways h c) := by
        rw [ea, eb, hL_mul, hL_mul, ← hL_lt (show hv_ml h c i h.R * u.2.2 < 2 ^ 63 by omega) (show u.2.1 * hv_ways h c < 2 ^ 63 by omega), ← hv_cmp_neg]
        exact propext (Int32.not_lt).symm
      rw [if_neg n9]
      simp only [cm]
      by_cases q : hv_ml h c i h.R * u.2.2 < u.2.1 * hv_ways h c
      · rw [if_neg (fun e => e q), if_pos (.inr q), eq_M_first_74]
        unfold g_M_first_74
        rw [S1]
        exact ⟨_, rfl, _, _, ω2, by rw [nx], fun _ => ⟨rfl, rfl⟩, ft⟩
      · rw [if_pos q, if_neg (fun e => e.elim (by omega) q), S0]
        exact ⟨_, rfl, _, _, ω2, rfl, fun _ => ⟨ea, eb⟩, ft⟩
  · rintro t ⟨a2, b2, τ, rfl, e2, f⟩
    refine ⟨_, ?_, a2, b2, τ, rfl, e2, f⟩
    show b_M_first_28 _ _ _ _ (hI h.M) τ = _
    unfold b_M_first_28
    rw [(f.atm H).m.M, if_pos (Int32.le_refl _)]
    dsimp only
    rw [hI_add1]
theorem hv_st_first : st_first hv_inv := by
  intro σ hi
  obtain ⟨h, H⟩ := hi.at
  have kC := H.ok.C
  refine hv_qry hi H 0 (hv_fI (hv_fout h h.C).1) ?_ (fun τ T _ => ?_)
  · rw [eq_X_first]; unfold g_X_first f_X_first_10
    have L := hv_up (body := fun s : Int32 × Int32 × Int32 × Int32 × am_St => b_X_first_10 s.1 s.2.1 s.2.2.1 s.2.2.2.1 s.2.2.2.2) (P := fun x => ∃ υ, x = (hv_fI (hv_fout h h.C).1, υ) ∧ hv_fr hv_pw σ υ) h.C (fun i t => ∃ υ, t = (hv_fI (hv_fout h i).1, hI (hv_fout h i).2.1, hI (hv_fout h i).2.2, hI i, υ) ∧ hv_fr hv_pw σ υ) 0 (Nat.zero_le _) (-9, 0, 1, 0, σ) ⟨σ, by rw [hv_fout_0]; rfl, hv_fr.rfl' _ _⟩ ?_ ?_
    · obtain ⟨x, e, υ, rfl, f⟩ := L; exact ⟨υ, e, hv_Sx.of f.pwSm⟩
    · rintro i t hi ⟨υ, rfl, f⟩
      obtain ⟨ω, e, f2, w⟩ := (f.atw H).look hi
      have T2 := (f.trans f2).atw H
      obtain ⟨x, ex, rfl⟩ := hv_X_fin T2 hi w (hv_fout_good H.ok i (by omega))
      refine .inl ⟨_, ?_, ω, by rw [hv_fout_s], f.trans f2⟩
      show b_X_first_10 _ _ _ (hI i) υ = _
      unfold b_X_first_10
      rw [(f.atw H).d.C, if_neg (hI_nle (by omega) (by omega) hi), e]
      simp only [Option.bind_some, w.wu.all H.ok, eq_X_first_44, g_X_first_44]
      exact ex
    · rintro t ⟨υ, rfl, f⟩
      refine ⟨_, ?_, υ, rfl, f⟩
      show b_X_first_10 _ _ _ (hI h.C) υ = _
      unfold b_X_first_10
      rw [(f.atw H).d.C, if_pos (Int32.le_refl _)]
  · refine hv_thr ?_
    rw [eq_M_first]; unfold g_M_first
    replace T := T.thrown
    generalize am_sI τ 66 22 0 = τ at T ⊢
    dsimp only
    unfold f_M_first_16
    have L := hv_up (body := fun s : Int32 × Int64 × Int64 × Int32 × am_St => b_M_first_16 s.1 s.2.1 s.2.2.1 s.2.2.2.1 s.2.2.2.2) (P := fun x => ∃ υ, x = (hv_fI (hv_fout h h.C).1, υ) ∧ hv_fr hv_pm τ υ) h.C (fun i t => ∃ a b υ, t = (hv_fI (hv_fout h i).1, a, b, hI i, υ) ∧ ((hv_fout h i).1 ≠ 99 → a = hL (hv_fout h i).2.1 ∧ b = hL (hv_fout h i).2.2) ∧ hv_fr hv_pm τ υ) 0 (Nat.zero_le _) (-9, 1, 1, 0, τ) ⟨1, 1, τ, by rw [hv_fout_0]; rfl, fun e => absurd (by rw [hv_fout_0]) e, hv_fr.rfl' _ _⟩ ?_ ?_
    · obtain ⟨x, e, υ, rfl, f⟩ := L; exact ⟨υ, e, hv_Sx.of f.pmSm⟩
    · rintro i t hi ⟨a, b, υ, rfl, ab, f⟩
      obtain ⟨x, ex, a2, b2, ω, rfl, ab2, f2⟩ := hv_M_fin (f.atm T) hi (hv_fout_good H.ok i (by omega)) a b ab
      refine .inl ⟨_, ?_, a2, b2, ω, by rw [hv_fout_s], by rw [hv_fout_s]; exact ab2, f.trans f2⟩
      show b_M_first_16 _ _ _ (hI i) υ = _
      unfold b_M_first_16
      rw [(f.atm T).m.C, if_neg (hI_nle (by omega) (by omega) hi)]
      exact ex
    · rintro t ⟨a, b, υ, rfl, ab, f⟩
      refine ⟨_, ?_, υ, rfl, f⟩
      show b_M_first_16 _ _ _ (hI h.C) υ = _
      unfold b_M_first_16
      rw [(f.atm T).m.C, if_pos (Int32.le_refl _)]
