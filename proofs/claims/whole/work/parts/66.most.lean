/-! PURE: most -/
theorem hv_cap : ∀ s, s < 9 → am_mmin 256 (1 <<< (hI s &&& 31)) = hI (2 ^ s) := by decide
theorem hv_top : ∀ k, k < 256 → 0 < k → Nat.log2 k < 8 ∧ k.testBit (Nat.log2 k) = true ∧ k ^^^ 2 ^ Nat.log2 k < k := by decide +kernel
theorem hv_topS : ∀ s, s < 9 → ∀ k, k < 256 → 0 < k → k < 2 ^ s → Nat.log2 k < s := by decide +kernel
theorem hv_topX : ∀ k, k < 256 → ∀ t, t < 8 → hI k ^^^ (1 <<< (hI t &&& 31)) = hI (k ^^^ 2 ^ t) := by decide +kernel
def hv_nlz (x : Int32) : Int32 :=
  if x < 16 then (if x < 4 then 31 - am_ush x 1 else 31 + -2 - am_ush (am_ush x 2) 1)
  else (if am_ush x 4 < 4 then 31 + -4 - am_ush (am_ush x 4) 1 else 31 + -4 + -2 - am_ush (am_ush (am_ush x 4) 2) 1)
theorem hv_nlz_eq : ∀ k, k < 256 → 0 < k → 31 - hv_nlz (hI k) = hI (Nat.log2 k) := by decide +kernel
theorem hv_X_nlz {k : Nat} (hk : k < 256) (h0 : 0 < k) (σ : am_St) : f_JI_numberOfLeadingZeros (hI k) σ = some (hv_nlz (hI k), σ) := by
  rw [eq_JI_numberOfLeadingZeros]; unfold g_JI_numberOfLeadingZeros hv_nlz
  rw [if_pos (show (0 : Int32) < hI k from (hI_lt (n := 0) (by decide) (by omega)).mpr h0), if_pos (show hI k < 65536 from (hI_lt (m := 65536) (by omega) (by decide)).mpr (by omega)), eq_JI_numberOfLeadingZeros_33]
  unfold g_JI_numberOfLeadingZeros_33
  rw [if_pos (show hI k < 256 from (hI_lt (m := 256) (by omega) (by decide)).mpr (by omega)), eq_JI_numberOfLeadingZeros_48]
  unfold g_JI_numberOfLeadingZeros_48
  simp only [eq_JI_numberOfLeadingZeros_61, g_JI_numberOfLeadingZeros_61, eq_JI_numberOfLeadingZeros_73, g_JI_numberOfLeadingZeros_73]
  split <;> split <;> rfl
/-! a set without its last saying -/
def hv_rest (k : Nat) : Nat := k ^^^ 2 ^ Nat.log2 k
theorem hv_rest_bit (k i : Nat) (hi : i ≠ Nat.log2 k) : (hv_rest k).testBit i = k.testBit i := by
  unfold hv_rest
  rw [Nat.testBit_xor, Nat.testBit_two_pow, decide_eq_false (fun e => hi e.symm), Bool.xor_false]
theorem hv_rest_sub (k i : Nat) (hk : k.testBit (Nat.log2 k) = true) (h : (hv_rest k).testBit i = true) : k.testBit i = true := by
  by_cases c : i = Nat.log2 k
  · rw [c]; exact hk
  · rw [← hv_rest_bit k i c]; exact h
theorem hv_mayS_iff (h : hv) (s c n m r : Nat) : hv_mayS h s c n m r = true ↔ hv_may h c m r = true ∧ ∀ i, i < n → s.testBit i = true → h.sc i = c → h.sm i = m → h.sr i = r := by
  unfold hv_mayS
  rw [Bool.and_eq_true, List.all_eq_true]
  refine and_congr Iff.rfl ⟨fun w i hi a b d => ?_, fun w i hi => ?_⟩
  · have := w i (List.mem_range.mpr hi)
    rw [a, b, d, beq_self_eq_true, beq_self_eq_true] at this
    simpa using this
  · by_cases q : s.testBit i = true ∧ h.sc i = c ∧ h.sm i = m
    · rw [w i (List.mem_range.mp hi) q.1 q.2.1 q.2.2, beq_self_eq_true, Bool.or_true]
    · have : (s.testBit i && h.sc i == c && h.sm i == m) = false := by
        cases e : (s.testBit i && h.sc i == c && h.sm i == m)
        · rfl
        · rw [Bool.and_eq_true, Bool.and_eq_true, beq_iff_eq, beq_iff_eq] at e; exact absurd ⟨e.1.1, e.1.2, e.2⟩ q
      rw [this]; rfl
theorem hv_agr_rest_le {h : hv} {k : Nat} (hk : k.testBit (Nat.log2 k) = true) (c : Nat) : hv_agr h k c ≤ hv_agr h (hv_rest k) c := hv_all_mono fun m r e => by
  rw [hv_mayS_iff] at e ⊢
  exact ⟨e.1, fun i hi a b d => e.2 i hi (hv_rest_sub k i hk a) b d⟩
theorem hv_agr_rest_eq {h : hv} {k c : Nat} (hc : h.sc (Nat.log2 k) ≠ c) : hv_agr h k c = hv_agr h (hv_rest k) c := by
  refine congrArg (hv_all h) ?_
  funext m r
  refine Bool.eq_iff_iff.mpr ?_
  rw [hv_mayS_iff, hv_mayS_iff]
  refine and_congr Iff.rfl ⟨fun w i hi a b d => ?_, fun w i hi a b d => ?_⟩
  · by_cases q : i = Nat.log2 k
    · rw [q] at b; exact absurd b hc
    · exact w i hi (by rw [← hv_rest_bit k i q]; exact a) b d
  · by_cases q : i = Nat.log2 k
    · rw [q] at b; exact absurd b hc
    · exact w i hi (by rw [hv_rest_bit k i q]; exact a) b d
theorem hv_tog_iff (h : hv) (s : Nat) : hv_tog h s = true ↔ ∀ c, c < h.C → 0 < hv_agr h s c := by
  unfold hv_tog hv_togN
  rw [List.all_eq_true]
  exact ⟨fun w c hc => of_decide_eq_true (w c (List.mem_range.mpr hc)), fun w c hc => decide_eq_true (w c (List.mem_range.mp hc))⟩
theorem hv_tog_0 {h : hv} (so : hv_some h) : hv_tog h 0 = true := by
  rw [hv_tog_iff]
  intro c hc
  have k : hv_agr h 0 c = hv_all h (hv_may h c) := by
    refine congrArg (hv_all h) ?_
    funext m r
    refine Bool.eq_iff_iff.mpr ?_
    rw [hv_mayS_iff]
    exact ⟨fun w => w.1, fun w => ⟨w, fun i _ a => by rw [Nat.zero_testBit] at a; cases a⟩⟩
  rw [k]; exact so c hc
theorem hv_tog_rest {h : hv} {k : Nat} (hk : k.testBit (Nat.log2 k) = true) (hc : h.sc (Nat.log2 k) < h.C) : hv_tog h k = (hv_tog h (hv_rest k) && decide (0 < hv_agr h k (h.sc (Nat.log2 k)))) := by
  refine Bool.eq_iff_iff.mpr ?_
  rw [Bool.and_eq_true, hv_tog_iff, hv_tog_iff, decide_eq_true_iff]
  refine ⟨fun w => ⟨fun c hc => Nat.lt_of_lt_of_le (w c hc) (hv_agr_rest_le hk c), w _ hc⟩, fun w c hc => ?_⟩
  by_cases q : h.sc (Nat.log2 k) = c
  · rw [← q]; exact w.2
  · rw [hv_agr_rest_eq q]; exact w.1 c hc
theorem hv_W_agree59 {h : hv} {σ : am_St} (d : hv_dev 1 h σ) (ok : hv_ok h) {s c : Nat} (hs : s < 256) (hc : c < 4) : ∃ τ, f_W_agree_1 (hI c) (hI s) σ = some (if 0 < hv_agr h s c then 1 else 0, τ) ∧ hv_Sm σ τ ∧ τ.1 59 = σ.1 59 := by
  obtain ⟨τ, e, f⟩ := hv_W_agree d ok hs hc
  exact ⟨τ, e, f.pwSm, f.2 59 rfl⟩
/-- the class has sorted the sets -/
theorem hv_W_sort {h : hv} {σ : am_St} (H : hv_at h σ) : ∃ τ, f_W_sortSets_1 σ = some τ ∧ hv_Sm σ τ ∧ ∀ k, k < 2 ^ h.S → τ.1 59 k = if hv_tog h k then 1 else 0 := by
  have kS := H.ok.S
  have kC := H.ok.C
  have hp : 2 ^ h.S ≤ 2 ^ 8 := Nat.pow_le_pow_right (by decide) kS
  have hp0 := Nat.two_pow_pos h.S
  rw [eq_W_sortSets_1]; unfold g_W_sortSets_1
  dsimp only
  rw [hv_g2 _ (show (1 : Nat) ≠ 59 by decide), show σ.1 1 6 = hI h.S from H.d.S, hv_cap _ (by omega)]
  unfold f_W_sortSets_1_24
  have s0 : hv_Sm σ (am_sI σ 59 0 1) := (hv_Sm.rfl' σ).set _ rfl
  refine hv_up (2 ^ h.S) (fun i t => ∃ τ, t = (hI (2 ^ h.S), hI i, τ) ∧ 1 ≤ i ∧ hv_Sm σ τ ∧ ∀ k, k < i → τ.1 59 k = if hv_tog h k then 1 else 0) 1 (by omega) _ ⟨_, rfl, Nat.le_refl _, s0, fun k hk => by rw [show k = 0 by omega, hv_g1, hv_tog_0 H.so]; rfl⟩ ?_ ?_
  · rintro i t hi ⟨τ, rfl, i1, sm, w⟩
    have T := sm.at H
    obtain ⟨t1, t2, t3⟩ := hv_top i (by omega) (by omega)
    have tS := hv_topS h.S (by omega) i (by omega) (by omega) hi
    obtain ⟨q1, q2, q3, q4⟩ := H.ok.say (Nat.log2 i) tS
    have f5 := H.ok.R
    have f6 := H.ok.M
    have A : ∀ (y : Int32) (υ : am_St), hv_Sm σ υ → υ.1 59 = τ.1 59 → (y &&& 1) = (if hv_tog h i then 1 else 0) → ∃ s2, f_W_sortSets_1_84 (hI (2 ^ h.S)) (hI i) (hI i) y υ = some (.inl s2) ∧ ∃ ω, s2 = (hI (2 ^ h.S), hI (i + 1), ω) ∧ 1 ≤ i + 1 ∧ hv_Sm σ ω ∧ ∀ k, k < i + 1 → ω.1 59 k = if hv_tog h k then 1 else 0 := fun y υ s9 e9 ey => by
      rw [eq_W_sortSets_1_84]; unfold g_W_sortSets_1_84
      rw [if_pos (hI_ix (show i < 256 by omega) (by decide)), hI_clamp (by omega)]
      dsimp only
      rw [hI_add1]
      refine ⟨_, rfl, _, rfl, by omega, s9.set _ rfl, fun k hk => ?_⟩
      by_cases c : k = i
      · subst c; rw [hv_g1, ey]
      · rw [hv_g3 _ _ c, e9]; exact w k (by omega)
    have rl : hv_rest i < i := t3
    refine .inl ?_
    show ∃ s2, b_W_sortSets_1_24 (hI (2 ^ h.S)) (hI i) τ = _ ∧ _
    unfold b_W_sortSets_1_24
    rw [if_neg (hI_nle (by omega) (by omega) hi), hv_X_nlz (by omega) (by omega)]
    simp only [Option.bind_some]
    rw [hv_nlz_eq i (by omega) (by omega), hv_topX i (by omega) _ t1, show i ^^^ 2 ^ Nat.log2 i = hv_rest i from rfl, if_pos (hI_ix (show hv_rest i < 256 by omega) (by decide)), hI_clamp (show hv_rest i < 2 ^ 31 by omega), w _ rl]
    have tr := hv_tog_rest (h := h) t2 q2
    cases g : hv_tog h (hv_rest i)
    · rw [g, Bool.false_and] at tr
      rw [if_pos (by rfl), eq_W_sortSets_1_83]
      unfold g_W_sortSets_1_83
      exact A 0 τ sm rfl (by rw [tr]; rfl)
    · rw [g, Bool.true_and] at tr
      rw [if_neg (by decide), T.sayingAt tS]
      simp only [Option.bind_some]
      rw [eq_W_sortSets_1_69]; unfold g_W_sortSets_1_69
      simp only [eq_H_childIn, g_H_childIn, Option.bind_some]
      rw [show (9 : Int32) &&& 31 = 9 from rfl, hv_mark_child _ (by omega) _ (by omega) _ (by omega) _ (by omega)]
      obtain ⟨υ, e, s9, e9⟩ := hv_W_agree59 T.d H.ok (s := i) (c := h.sc (Nat.log2 i)) (by omega) (by omega)
      rw [e]
      simp only [Option.bind_some]
      by_cases q : 0 < hv_agr h i (h.sc (Nat.log2 i))
      · rw [if_pos q, if_neg (by decide)]
        exact A 1 υ (sm.trans s9) e9 (by rw [tr, decide_eq_true q]; rfl)
      · rw [if_neg q, if_pos rfl, eq_W_sortSets_1_83]
        unfold g_W_sortSets_1_83
        exact A 0 υ (sm.trans s9) e9 (by rw [tr, decide_eq_false q]; rfl)
  · rintro t ⟨τ, rfl, i1, sm, w⟩
    refine ⟨τ, ?_, sm, w⟩
    show b_W_sortSets_1_24 (hI (2 ^ h.S)) (hI (2 ^ h.S)) τ = _
    unfold b_W_sortSets_1_24
    rw [if_pos (Int32.le_refl _)]
/-- the largest of the first n sets that hold together -/
def hv_lg (h : hv) : Nat → Nat
  | 0 => 0
  | n + 1 => if hv_tog h n = true ∧ hv_ones (hv_lg h n) < hv_ones n then n else hv_lg h n
theorem hv_lg_0 (h : hv) : hv_lg h 0 = 0 := by rw [hv_lg]
theorem hv_lg_s (h : hv) (n : Nat) : hv_lg h (n + 1) = if hv_tog h n = true ∧ hv_ones (hv_lg h n) < hv_ones n then n else hv_lg h n := by rw [hv_lg]
theorem hv_lg_1 (h : hv) : hv_lg h 1 = 0 := by
  rw [hv_lg_s, hv_lg_0, if_neg (fun e => by have := e.2; omega)]
theorem hv_lg_ok {h : hv} (so : hv_some h) : ∀ n, hv_tog h (hv_lg h n) = true ∧ (hv_lg h n < n ∨ hv_lg h n = 0) ∧ (∀ j, j < n → hv_tog h j = true → hv_ones j ≤ hv_ones (hv_lg h n)) ∧ ∀ j, j < hv_lg h n → hv_tog h j = true → hv_ones j < hv_ones (hv_lg h n) := by
  intro n
  induction n with
  | zero => rw [hv_lg_0]; exact ⟨hv_tog_0 so, .inr rfl, fun j hj => absurd hj (Nat.not_lt_zero j), fun j hj => absurd hj (Nat.not_lt_zero j)⟩
  | succ n ih =>
    obtain ⟨a, b, c, d⟩ := ih
    rw [hv_lg_s]
    by_cases q : hv_tog h n = true ∧ hv_ones (hv_lg h n) < hv_ones n
    · rw [if_pos q]
      refine ⟨q.1, .inl (by omega), fun j hj t => ?_, fun j hj t => ?_⟩
      · by_cases e : j = n
        · rw [e]; exact Nat.le_refl _
        · have := c j (by omega) t; omega
      · have := c j hj t; omega
    · rw [if_neg q]
      refine ⟨a, b.imp (fun e => by omega) id, fun j hj t => ?_, d⟩
      by_cases e : j = n
      · subst e
        exact Nat.le_of_not_lt fun z => q ⟨t, z⟩
      · exact c j (by omega) t
theorem hv_lg_lt {h : hv} (so : hv_some h) {n : Nat} (hn : n ≤ 256) : hv_lg h n < 256 := by
  rcases (hv_lg_ok so n).2.1 with e | e <;> omega
theorem hv_W_lg {h : hv} {σ : am_St} (H : hv_at h σ) : ∃ τ, f_W_largestSet_1 σ = some (hI (hv_lg h (2 ^ h.S)), τ) ∧ hv_Sm σ τ ∧ ∀ k, k < 2 ^ h.S → τ.1 59 k = if hv_tog h k then 1 else 0 := by
  have kS := H.ok.S
  have hp : 2 ^ h.S ≤ 2 ^ 8 := Nat.pow_le_pow_right (by decide) kS
  have hp0 := Nat.two_pow_pos h.S
  obtain ⟨τ, e, sm, w⟩ := hv_W_sort H
  have T := sm.at H
  refine ⟨τ, ?_, sm, w⟩
  rw [eq_W_largestSet_1]; unfold g_W_largestSet_1
  rw [e]
  simp only [Option.bind_some]
  rw [show τ.1 1 6 = hI h.S from T.d.S, hv_cap _ (by omega), eq_W_largestSet_1_22]
  unfold g_W_largestSet_1_22 f_W_largestSet_1_25
  have L := hv_up (body := fun s : Int32 × Int32 × Int32 × am_St => b_W_largestSet_1_25 s.1 s.2.1 s.2.2.1 s.2.2.2) (P := fun x => x = (hI (hv_lg h (2 ^ h.S)), τ)) (2 ^ h.S) (fun i t => t = (hI (hv_lg h i), hI (2 ^ h.S), hI i, τ)) 1 (by omega) (0, hI (2 ^ h.S), 1, τ) (by rw [hv_lg_1]; rfl) ?_ ?_
  · obtain ⟨x, e, rfl⟩ := L; exact e
  · rintro i t hi rfl
    have ll := hv_lg_lt H.so (n := i) (by omega)
    have o1 := hv_ones_le i
    have o2 := hv_ones_le (hv_lg h i)
    refine .inl ⟨_, ?_, rfl⟩
    show b_W_largestSet_1_25 _ _ (hI i) τ = _
    unfold b_W_largestSet_1_25
    rw [if_neg (hI_nle (by omega) (by omega) hi), if_pos (hI_ix (show i < 256 by omega) (by decide)), hI_clamp (by omega), w i hi, hv_lg_s]
    simp only [eq_W_largestSet_1_53, g_W_largestSet_1_53, eq_W_largestSet_1_56, g_W_largestSet_1_56, hI_add1]
    cases g : hv_tog h i
    · rw [if_pos (show (if false = true then (1 : Int32) else 0) = 0 from rfl), if_neg (fun e => by cases e.1)]
    · rw [if_neg (show ¬ (if true = true then (1 : Int32) else 0) = 0 by decide), hv_bitCount (by omega)]
      simp only [Option.bind_some]
      rw [hv_bitCount ll]
      simp only [Option.bind_some]
      by_cases q : hv_ones (hv_lg h i) < hv_ones i
      · rw [if_neg (hI_nle (by omega) (by omega) q), if_pos ⟨by trivial, q⟩]
      · rw [if_pos ((hI_le (by omega) (by omega)).mpr (by omega)), if_neg (fun e => q e.2)]
  · rintro t rfl
    refine ⟨_, ?_, rfl⟩
    show b_W_largestSet_1_25 _ _ (hI (2 ^ h.S)) τ = _
    unfold b_W_largestSet_1_25
    rw [if_pos (Int32.le_refl _)]
theorem hv_M_great {h : hv} {σ : am_St} (H : hv_at h σ) : ∃ τ, f_M_greatestMany σ = some (hI (hv_ones (hv_lg h (2 ^ h.S))), τ) ∧ hv_fr hv_pm σ τ := by
  have kS := H.ok.S
  have hp : 2 ^ h.S ≤ 2 ^ 8 := Nat.pow_le_pow_right (by decide) kS
  rw [eq_M_greatestMany]; unfold g_M_greatestMany f_M_greatestMany_4
  have L := hv_up (body := fun s : Int32 × Int32 × am_St => b_M_greatestMany_4 s.1 s.2.1 s.2.2) (P := fun x => ∃ υ, x = (hI (hv_ones (hv_lg h (2 ^ h.S))), υ) ∧ hv_fr hv_pm σ υ) (2 ^ h.S) (fun i t => ∃ υ, t = (hI (hv_ones (hv_lg h i)), hI i, υ) ∧ hv_fr hv_pm σ υ) 0 (Nat.zero_le _) (0, 0, σ) ⟨σ, by rw [hv_lg_0]; rfl, hv_fr.rfl' _ _⟩ ?_ ?_
  · obtain ⟨x, e, υ, rfl, f⟩ := L; exact ⟨υ, e, f⟩
  · rintro i t hi ⟨υ, rfl, f⟩
    have T := f.atm H
    have o1 := hv_ones_le i
    have o2 := hv_ones_le (hv_lg h i)
    obtain ⟨ω, e, f2⟩ := hv_M_areTogether T (s := i) (by omega)
    refine .inl ?_
    show ∃ s2, b_M_greatestMany_4 _ (hI i) υ = _ ∧ _
    unfold b_M_greatestMany_4
    rw [T.m.S, hI_pow _ (by omega), if_neg (hI_nle (by omega) (by omega) hi), hv_M_ones (by omega), hv_lg_s]
    simp only [Option.bind_some, eq_M_greatestMany_37, g_M_greatestMany_37, eq_M_greatestMany_30, g_M_greatestMany_30, eq_M_greatestMany_38, g_M_greatestMany_38, hI_add1]
    by_cases q : hv_ones (hv_lg h i) < hv_ones i
    · rw [if_neg (hI_nle (by omega) (by omega) q), e]
      simp only [Option.bind_some]
      cases g : hv_tog h i
      · rw [if_pos (show (if false = true then (1 : Int32) else 0) = 0 from rfl), if_neg (fun e => by cases e.1)]
        exact ⟨_, rfl, ω, rfl, f.trans f2⟩
      · rw [if_neg (show ¬ (if true = true then (1 : Int32) else 0) = 0 by decide), if_pos ⟨by trivial, q⟩, hv_M_ones (by omega)]
        exact ⟨_, rfl, ω, rfl, f.trans f2⟩
    · rw [if_pos ((hI_le (by omega) (by omega)).mpr (by omega)), if_neg (fun e => q e.2)]
      exact ⟨_, rfl, υ, rfl, f⟩
  · rintro t ⟨υ, rfl, f⟩
    refine ⟨_, ?_, υ, rfl, f⟩
    show b_M_greatestMany_4 _ (hI (2 ^ h.S)) υ = _
    unfold b_M_greatestMany_4
    rw [(f.atm H).m.S, hI_pow _ (by omega), if_pos (Int32.le_refl _)]
theorem hv_M_first {h : hv} {σ : am_St} (H : hv_at h σ) : ∃ τ, f_M_firstOfMany (hI (hv_ones (hv_lg h (2 ^ h.S)))) σ = some (hI (hv_lg h (2 ^ h.S)), τ) ∧ hv_fr hv_pm σ τ := by
  have kS := H.ok.S
  have hp : 2 ^ h.S ≤ 2 ^ 8 := Nat.pow_le_pow_right (by decide) kS
  have hl := hv_lg_lt H.so (n := 2 ^ h.S) (by omega)
  obtain ⟨l1, l2, l3, l4⟩ := hv_lg_ok H.so (2 ^ h.S)
  generalize hv_lg h (2 ^ h.S) = K at hl l1 l2 l3 l4 ⊢
  have oK := hv_ones_le K
  have B : ∀ i υ, i < 256 → hv_at h υ → ∃ ω, hv_fr hv_pm υ ω ∧ b_M_firstOfMany_2 (hI (hv_ones K)) (hI i) υ = if hv_ones i = hv_ones K ∧ hv_tog h i = true then some (.inr (hI i, ω)) else some (.inl (hI (hv_ones K), hI (i + 1), ω)) := fun i υ hi T => by
    have o1 := hv_ones_le i
    unfold b_M_firstOfMany_2
    rw [hv_M_ones hi]
    simp only [Option.bind_some, eq_M_firstOfMany_18, g_M_firstOfMany_18, hI_add1]
    by_cases q : hv_ones i = hv_ones K
    · obtain ⟨ω, e, f2⟩ := hv_M_areTogether T (s := i) hi
      refine ⟨ω, f2, ?_⟩
      rw [if_pos (by rw [q]), e]
      simp only [Option.bind_some]
      cases g : hv_tog h i
      · rw [if_pos (show (if false = true then (1 : Int32) else 0) = 0 from rfl), if_neg (fun e => by cases e.2)]
      · rw [if_neg (show ¬ (if true = true then (1 : Int32) else 0) = 0 by decide), if_pos ⟨q, by trivial⟩]
    · refine ⟨υ, hv_fr.rfl' _ _, ?_⟩
      rw [if_neg (hI_ne (by omega) (by omega) q), if_neg (fun e => q e.1)]
  rw [eq_M_firstOfMany]; unfold g_M_firstOfMany f_M_firstOfMany_2
  have L := hv_up (body := fun s : Int32 × Int32 × am_St => b_M_firstOfMany_2 s.1 s.2.1 s.2.2) (P := fun x => ∃ υ, x = (hI K, υ) ∧ hv_fr hv_pm σ υ) K (fun i t => ∃ υ, t = (hI (hv_ones K), hI i, υ) ∧ hv_fr hv_pm σ υ) 0 (Nat.zero_le _) (hI (hv_ones K), 0, σ) ⟨σ, rfl, hv_fr.rfl' _ _⟩ ?_ ?_
  · obtain ⟨x, e, υ, rfl, f⟩ := L; exact ⟨υ, e, f⟩
  · rintro i t hi ⟨υ, rfl, f⟩
    obtain ⟨ω, f2, e⟩ := B i υ (by omega) (f.atm H)
    rw [if_neg (fun q => by have := l4 i hi q.2; omega)] at e
    exact .inl ⟨_, e, ω, rfl, f.trans f2⟩
  · rintro t ⟨υ, rfl, f⟩
    obtain ⟨ω, f2, e⟩ := B K υ hl (f.atm H)
    rw [if_pos ⟨rfl, l1⟩] at e
    exact ⟨_, e, ω, rfl, f.trans f2⟩
/-- the speakers of those that p holds of -/
def hv_spk (h : hv) (p : Nat → Bool) : Nat → Int32
  | 0 => 0
  | n + 1 => hv_spk h p n ||| (if p n then 1 <<< (hI (h.sp n) &&& 31) else 0)
theorem hv_spk_0 (h : hv) (p : Nat → Bool) : hv_spk h p 0 = 0 := by rw [hv_spk]
theorem hv_spk_s (h : hv) (p : Nat → Bool) (n : Nat) : hv_spk h p (n + 1) = hv_spk h p n ||| (if p n then 1 <<< (hI (h.sp n) &&& 31) else 0) := by rw [hv_spk]
theorem hv_spk_congr {h : hv} {p q : Nat → Bool} : ∀ n, (∀ i, i < n → p i = q i) → hv_spk h p n = hv_spk h q n := by
  intro n
  induction n with
  | zero => intro _; rw [hv_spk_0, hv_spk_0]
  | succ n ih => intro w; rw [hv_spk_s, hv_spk_s, ih fun i hi => w i (by omega), w n (by omega)]
theorem hv_M_spk {h : hv} {σ : am_St} (H : hv_at h σ) {k : Nat} (hk : k < 256) : f_M_speakersOf (hI k) σ = some (hv_spk h (fun i => k.testBit i) h.S, σ) := by
  have kS := H.ok.S
  rw [eq_M_speakersOf]; unfold g_M_speakersOf f_M_speakersOf_4
  have L := hv_up (body := fun s : Int32 × Int32 × Int32 × am_St => b_M_speakersOf_4 s.1 s.2.1 s.2.2.1 s.2.2.2) (P := fun x => x = (hv_spk h (fun i => k.testBit i) h.S, σ)) h.S (fun i t => t = (hI k, hv_spk h (fun i => k.testBit i) i, hI i, σ)) 0 (Nat.zero_le _) (hI k, 0, 0, σ) (by rw [hv_spk_0]; rfl) ?_ ?_
  · obtain ⟨x, e, rfl⟩ := L; exact e
  · rintro i t hi rfl
    refine .inl ⟨_, ?_, rfl⟩
    show b_M_speakersOf_4 _ _ (hI i) σ = _
    unfold b_M_speakersOf_4
    rw [H.m.S, if_neg (hI_nle (by omega) (by omega) hi), hv_M_has8 hk (by omega), hv_spk_s]
    simp only [Option.bind_some, eq_M_speakersOf_33, g_M_speakersOf_33, hI_add1]
    cases k.testBit i
    · rw [if_pos (show (if false = true then (1 : Int32) else 0) = 0 from rfl), if_neg (by decide)]
    · rw [if_neg (show ¬ (if true = true then (1 : Int32) else 0) = 0 by decide), if_pos rfl, if_pos (hI_ix (by omega) (by decide)), hI_clamp (by omega), H.m.sp i hi]
  · rintro t rfl
    refine ⟨_, ?_, rfl⟩
    show b_M_speakersOf_4 _ _ (hI h.S) σ = _
    unfold b_M_speakersOf_4
    rw [H.m.S, if_pos (Int32.le_refl _)]
theorem hv_X_liars {h : hv} {σ : am_St} (H : hv_at h σ) : ∃ τ, f_W_liars_1 σ = some (hv_spk h (fun i => decide (hv_left h i = 0)) h.S, τ) ∧ hv_fr hv_pw σ τ := by
  have kS := H.ok.S
  have kC := H.ok.C
  have kR := H.ok.R
  have kM := H.ok.M
  rw [eq_W_liars_1]; unfold g_W_liars_1 f_W_liars_1_4
  have L := hv_up (body := fun s : Int32 × Int32 × am_St => b_W_liars_1_4 s.1 s.2.1 s.2.2) (P := fun x => ∃ υ, x = (hv_spk h (fun i => decide (hv_left h i = 0)) h.S, υ) ∧ hv_fr hv_pw σ υ) h.S (fun i t => ∃ υ, t = (hv_spk h (fun i => decide (hv_left h i = 0)) i, hI i, υ) ∧ hv_fr hv_pw σ υ) 0 (Nat.zero_le _) (0, 0, σ) ⟨σ, by rw [hv_spk_0]; rfl, hv_fr.rfl' _ _⟩ ?_ ?_
  · obtain ⟨x, e, υ, rfl, f⟩ := L; exact ⟨υ, e, f⟩
  · rintro i t hi ⟨υ, rfl, f⟩
    have T := f.atw H
    have kl := hv_left_big H.ok i
    obtain ⟨q1, q2, q3, q4⟩ := H.ok.say i hi
    obtain ⟨ω, e, f2⟩ := T.leftBy hi
    refine .inl ⟨_, ?_, ω, rfl, f.trans f2⟩
    show b_W_liars_1_4 _ (hI i) υ = _
    unfold b_W_liars_1_4
    rw [show υ.1 1 6 = hI h.S from T.d.S, if_neg (hI_nle (by omega) (by omega) hi), e, hv_spk_s]
    simp only [Option.bind_some, eq_W_liars_1_34, g_W_liars_1_34, hI_add1]
    by_cases q : hv_left h i = 0
    · rw [if_pos (show hI (hv_left h i) = 0 by rw [q]; rfl), (f2.atw T).sayingAt hi, if_pos (decide_eq_true q)]
      simp only [Option.bind_some, eq_H_moreIn, g_H_moreIn]
      rw [hv_mark_more _ (by omega) _ (by omega) _ (by omega) _ (by omega)]
    · rw [if_neg (hI_ne0 (by omega) q), if_neg (fun z => q (of_decide_eq_true z)), Int32.or_zero]
  · rintro t ⟨υ, rfl, f⟩
    refine ⟨_, ?_, υ, rfl, f⟩
    show b_W_liars_1_4 _ (hI h.S) υ = _
    unfold b_W_liars_1_4
    rw [show υ.1 1 6 = hI h.S from (f.atw H).d.S, if_pos (Int32.le_refl _)]
theorem hv_M_alone {h : hv} {σ : am_St} (H : hv_at h σ) : ∃ τ, f_M_notAlone σ = some (hv_bits (fun i => hv_left h i = 0) h.S, τ) ∧ hv_fr hv_pm σ τ := by
  have kS := H.ok.S
  rw [eq_M_notAlone]; unfold g_M_notAlone f_M_notAlone_4
  have L := hv_up (body := fun s : Int32 × Int32 × am_St => b_M_notAlone_4 s.1 s.2.1 s.2.2) (P := fun x => ∃ υ, x = (hv_bits (fun i => hv_left h i = 0) h.S, υ) ∧ hv_fr hv_pm σ υ) h.S (fun i t => ∃ υ, t = (hv_bits (fun i => hv_left h i = 0) i, hI i, υ) ∧ hv_fr hv_pm σ υ) 0 (Nat.zero_le _) (0, 0, σ) ⟨σ, by rw [hv_bits_0]; rfl, hv_fr.rfl' _ _⟩ ?_ ?_
  · obtain ⟨x, e, υ, rfl, f⟩ := L; exact ⟨υ, e, f⟩
  · rintro i t hi ⟨υ, rfl, f⟩
    have T := f.atm H
    have kl := hv_left_big H.ok i
    obtain ⟨ω, e, f2⟩ := T.holdsOf hi
    refine .inl ⟨_, ?_, ω, rfl, f.trans f2⟩
    show b_M_notAlone_4 _ (hI i) υ = _
    unfold b_M_notAlone_4
    rw [T.m.S, if_neg (hI_nle (by omega) (by omega) hi), e]
    simp only [Option.bind_some, eq_M_notAlone_28, g_M_notAlone_28, hI_add1]
    by_cases q : hv_left h i = 0
    · rw [if_pos (show hI (hv_left h i) = 0 by rw [q]; rfl), hv_bits_y (p := fun i => hv_left h i = 0) q]
    · rw [if_neg (hI_ne0 (by omega) q), hv_bits_n2 (p := fun i => hv_left h i = 0) q]
  · rintro t ⟨υ, rfl, f⟩
    refine ⟨_, ?_, υ, rfl, f⟩
    show b_M_notAlone_4 _ (hI h.S) υ = _
    unfold b_M_notAlone_4
    rw [(f.atm H).m.S, if_pos (Int32.le_refl _)]
/-- the sayings in some set of so many that hold together -/
def hv_hrd (h : hv) (many : Nat) : Nat → Nat
  | 0 => 0
  | n + 1 => if hv_tog h n = true ∧ hv_ones n = many then hv_hrd h many n ||| n else hv_hrd h many n
theorem hv_hrd_0 (h : hv) (many : Nat) : hv_hrd h many 0 = 0 := by rw [hv_hrd]
theorem hv_hrd_s (h : hv) (many n : Nat) : hv_hrd h many (n + 1) = if hv_tog h n = true ∧ hv_ones n = many then hv_hrd h many n ||| n else hv_hrd h many n := by rw [hv_hrd]
theorem hv_hrd_lt {h : hv} (many : Nat) : ∀ n, n ≤ 256 → hv_hrd h many n < 256 := by
  intro n
  induction n with
  | zero => intro _; rw [hv_hrd_0]; decide
  | succ n ih =>
    intro hn
    rw [hv_hrd_s]
    split
    · exact Nat.or_lt_two_pow (n := 8) (ih (by omega)) (by omega)
    · exact ih (by omega)
theorem hI_or (a b : Nat) : hI a ||| hI b = hI (a ||| b) := by
  rw [← Int32.toBitVec_inj]
  show BitVec.ofNat 32 a ||| BitVec.ofNat 32 b = BitVec.ofNat 32 (a ||| b)
  exact BitVec.ofNat_or.symm
theorem hv_X_hrd {h : hv} {σ : am_St} (H : hv_at h σ) (w : ∀ k, k < 2 ^ h.S → σ.1 59 k = if hv_tog h k then 1 else 0) {many : Nat} (hm : many ≤ 8) : f_W_mustLie_1_30 (hI many) 0 (hI (2 ^ h.S)) 0 σ = some (hv_spk h (fun i => !(hv_hrd h many (2 ^ h.S)).testBit i) h.S, σ) := by
  have kS := H.ok.S
  have kC := H.ok.C
  have kR := H.ok.R
  have kM := H.ok.M
  have hp : 2 ^ h.S ≤ 2 ^ 8 := Nat.pow_le_pow_right (by decide) kS
  unfold f_W_mustLie_1_30
  have L := hv_up (body := fun s : Int32 × Int32 × Int32 × Int32 × am_St => b_W_mustLie_1_30 s.1 s.2.1 s.2.2.1 s.2.2.2.1 s.2.2.2.2) (P := fun x => x = (hv_spk h (fun i => !(hv_hrd h many (2 ^ h.S)).testBit i) h.S, σ)) (2 ^ h.S) (fun i t => t = (hI many, hI (hv_hrd h many i), hI (2 ^ h.S), hI i, σ)) 0 (Nat.zero_le _) (hI many, 0, hI (2 ^ h.S), 0, σ) (by rw [hv_hrd_0]; rfl) ?_ ?_
  · obtain ⟨x, e, rfl⟩ := L; exact e
  · rintro i t hi rfl
    have o1 := hv_ones_le i
    refine .inl ⟨_, ?_, rfl⟩
    show b_W_mustLie_1_30 _ _ _ (hI i) σ = _
    unfold b_W_mustLie_1_30
    rw [if_neg (hI_nle (by omega) (by omega) hi), if_pos (hI_ix (show i < 256 by omega) (by decide)), hI_clamp (by omega), w i hi, hv_hrd_s]
    simp only [eq_W_mustLie_1_61, g_W_mustLie_1_61, hI_add1, hI_or]
    cases g : hv_tog h i
    · rw [if_pos (show (if false = true then (1 : Int32) else 0) = 0 from rfl), if_neg (fun e => by cases e.1)]
    · rw [if_neg (show ¬ (if true = true then (1 : Int32) else 0) = 0 by decide), hv_bitCount (by omega)]
      simp only [Option.bind_some]
      by_cases q : hv_ones i = many
      · rw [if_pos (by rw [q]), if_pos ⟨by trivial, q⟩]
      · rw [if_neg (hI_ne (by omega) (by omega) q), if_neg (fun e => q e.2)]
  · rintro t rfl
    have hk := hv_hrd_lt (h := h) many (2 ^ h.S) (by omega)
    refine ⟨_, ?_, rfl⟩
    show b_W_mustLie_1_30 _ _ _ (hI (2 ^ h.S)) σ = _
    unfold b_W_mustLie_1_30
    rw [if_pos (Int32.le_refl _)]
    generalize hv_hrd h many (2 ^ h.S) = K at hk ⊢
    unfold f_W_mustLie_1_73
    have L := hv_up (body := fun s : Int32 × Int32 × Int32 × am_St => b_W_mustLie_1_73 s.1 s.2.1 s.2.2.1 s.2.2.2) (P := fun x => x = (hv_spk h (fun i => !K.testBit i) h.S, σ)) h.S (fun i t => t = (hI K, hv_spk h (fun i => !K.testBit i) i, hI i, σ)) 0 (Nat.zero_le _) (hI K, 0, 0, σ) (by rw [hv_spk_0]; rfl) ?_ ?_
    · obtain ⟨x, e, rfl⟩ := L
      rw [e]; rfl
    · rintro i t hi rfl
      obtain ⟨q1, q2, q3, q4⟩ := H.ok.say i hi
      refine .inl ⟨_, ?_, rfl⟩
      show b_W_mustLie_1_73 _ _ (hI i) σ = _
      unfold b_W_mustLie_1_73
      have b01 : ((hI K >>> (hI i &&& 31)) &&& 1) = if K.testBit i then 1 else 0 := by
        have : ∀ n, n < 256 → ∀ k, k < 8 → ((hI n >>> (hI k &&& 31)) &&& 1) = if n.testBit k then 1 else 0 := by decide +kernel
        exact this K hk i (by omega)
      rw [show σ.1 1 6 = hI h.S from H.d.S, if_neg (hI_nle (by omega) (by omega) hi), b01, hv_spk_s]
      simp only [eq_W_mustLie_1_107, g_W_mustLie_1_107, hI_add1]
      cases K.testBit i
      · rw [if_pos (show (if false = true then (1 : Int32) else 0) = 0 from rfl), H.sayingAt hi]
        simp only [Option.bind_some, eq_H_moreIn, g_H_moreIn]
        rw [hv_mark_more _ (by omega) _ (by omega) _ (by omega) _ (by omega)]
        rfl
      · rw [if_neg (show ¬ (if true = true then (1 : Int32) else 0) = 0 by decide), if_neg (by decide), Int32.or_zero]
    · rintro t rfl
      refine ⟨_, ?_, rfl⟩
      show b_W_mustLie_1_73 _ _ (hI h.S) σ = _
      unfold b_W_mustLie_1_73
      rw [show σ.1 1 6 = hI h.S from H.d.S, if_pos (Int32.le_refl _)]
theorem hv_M_hrd {h : hv} {σ : am_St} (H : hv_at h σ) {many : Nat} (hm : many ≤ 8) : ∃ τ, f_M_inSomeOf (hI many) σ = some (hI (hv_hrd h many (2 ^ h.S)), τ) ∧ hv_fr hv_pm σ τ := by
  have kS := H.ok.S
  have hp : 2 ^ h.S ≤ 2 ^ 8 := Nat.pow_le_pow_right (by decide) kS
  rw [eq_M_inSomeOf]; unfold g_M_inSomeOf f_M_inSomeOf_4
  have L := hv_up (body := fun s : Int32 × Int32 × Int32 × am_St => b_M_inSomeOf_4 s.1 s.2.1 s.2.2.1 s.2.2.2) (P := fun x => ∃ υ, x = (hI (hv_hrd h many (2 ^ h.S)), υ) ∧ hv_fr hv_pm σ υ) (2 ^ h.S) (fun i t => ∃ υ, t = (hI many, hI (hv_hrd h many i), hI i, υ) ∧ hv_fr hv_pm σ υ) 0 (Nat.zero_le _) (hI many, 0, 0, σ) ⟨σ, by rw [hv_hrd_0]; rfl, hv_fr.rfl' _ _⟩ ?_ ?_
  · obtain ⟨x, e, υ, rfl, f⟩ := L; exact ⟨υ, e, f⟩
  · rintro i t hi ⟨υ, rfl, f⟩
    have T := f.atm H
    have o1 := hv_ones_le i
    obtain ⟨ω, e, f2⟩ := hv_M_areTogether T (s := i) (by omega)
    refine .inl ?_
    show ∃ s2, b_M_inSomeOf_4 _ _ (hI i) υ = _ ∧ _
    unfold b_M_inSomeOf_4
    rw [T.m.S, hI_pow _ (by omega), if_neg (hI_nle (by omega) (by omega) hi), hv_M_ones (by omega), hv_hrd_s]
    simp only [Option.bind_some, eq_M_inSomeOf_35, g_M_inSomeOf_35, eq_M_inSomeOf_36, g_M_inSomeOf_36, hI_add1, Int32.or_zero, hI_or]
    by_cases q : hv_ones i = many
    · rw [if_pos (by rw [q]), e]
      simp only [Option.bind_some]
      cases g : hv_tog h i
      · rw [if_pos (show (if false = true then (1 : Int32) else 0) = 0 from rfl), if_neg (fun e => by cases e.1)]
        exact ⟨_, rfl, ω, rfl, f.trans f2⟩
      · rw [if_neg (show ¬ (if true = true then (1 : Int32) else 0) = 0 by decide), if_pos ⟨by trivial, q⟩]
        exact ⟨_, rfl, ω, rfl, f.trans f2⟩
    · rw [if_neg (hI_ne (by omega) (by omega) q), if_neg (fun e => q e.2)]
      exact ⟨_, rfl, υ, rfl, f⟩
  · rintro t ⟨υ, rfl, f⟩
    refine ⟨_, ?_, υ, rfl, f⟩
    show b_M_inSomeOf_4 _ _ (hI (2 ^ h.S)) υ = _
    unfold b_M_inSomeOf_4
    rw [(f.atm H).m.S, hI_pow _ (by omega), if_pos (Int32.le_refl _)]
theorem hv_notIn : ∀ s, s < 9 → ∀ k, k < 256 → (hI (2 ^ s) - 1) &&& (hI k ^^^ -1) = hI ((2 ^ s - 1) &&& (255 ^^^ k)) ∧ (2 ^ s - 1) &&& (255 ^^^ k) < 256 := by decide +kernel
theorem hv_notIn2 (s k i : Nat) (hs : i < s) (h8 : i < 8) : ((2 ^ s - 1) &&& (255 ^^^ k)).testBit i = !k.testBit i := by
  have e : (255 : Nat).testBit i = true := by
    have : ∀ i, i < 8 → (255 : Nat).testBit i = true := by decide
    exact this i h8
  rw [Nat.testBit_and, Nat.testBit_xor, e, Nat.testBit_two_pow_sub_one, decide_eq_true hs, Bool.true_and, Bool.true_xor]
theorem hv_st_most : st_most hv_inv := by
  intro σ hi x
  obtain ⟨h, H⟩ := hi.at
  have kS := H.ok.S
  have hp : 2 ^ h.S ≤ 2 ^ 8 := Nat.pow_le_pow_right (by decide) kS
  have hl := hv_lg_lt H.so (n := 2 ^ h.S) (by omega)
  have ho := hv_ones_le (hv_lg h (2 ^ h.S))
  rcases hv_rng_cases x (n := 4) (by decide) with c4 | ⟨k, hk, rfl, c4⟩
  · have nw : ∀ k, k < 4 → ¬ x = hI k := fun k hk e => by
      rw [e, hv_rng_lt (by decide) hk] at c4; exact absurd c4 (by decide)
    have w0 : ¬ x = 0 := nw 0 (by decide)
    have w1 : ¬ x = 1 := nw 1 (by decide)
    have w2 : ¬ x = 2 := nw 2 (by decide)
    have w3 : ¬ x = 3 := nw 3 (by decide)
    refine hv_qry hi H 2 (-2) (hv_refX (by decide) ?_) (fun τ T _ => ?_)
    · simp only [eq_X_most, g_X_most, w0, w1, w2, w3, Option.bind_some, ↓reduceIte, hv_10, hv_01, hI_00, hI_10, hv_X_r1, hv_X_r2, hv_X_r3, hv_X_r4, hv_X_r6, hv_M_r1, hv_M_r2, hv_M_r3, hv_M_r4, hv_M_r6]
    · refine hv_thr ?_
      rw [eq_M_most]; unfold g_M_most
      replace T := T.thrown
      generalize am_sI τ 66 22 0 = τ at T ⊢
      dsimp only
      refine hv_refM (by decide) ?_
      simp only [hv_M_03, c4, Option.bind_some, ↓reduceIte, hv_10, hv_01, hI_00, hI_10, hv_X_r1, hv_X_r2, hv_X_r3, hv_X_r4, hv_X_r6, hv_M_r1, hv_M_r2, hv_M_r3, hv_M_r4, hv_M_r6]
  have Q : ∀ v : Int32, (∃ τ, g_X_most (hI k) σ = some (v, τ) ∧ hv_Sm σ τ) → (∀ τ, hv_at h τ → ∃ υ, f_M_most_29 (hI k) (hI (hv_ones (hv_lg h (2 ^ h.S)))) τ = some (v, υ) ∧ hv_Sm τ υ) → ∃ r τ1 τ2, f_X_most (hI k) σ = some (r, τ1) ∧ f_M_most (hI k) τ1 = some (r, τ2) ∧ hv_inv τ2 := fun v eX eM => by
    obtain ⟨υ, e, s⟩ := eX
    refine hv_qry hi H 0 v ⟨υ, by rw [eq_X_most]; exact e, hv_Sx.of s⟩ (fun τ T _ => ?_)
    refine hv_thr ?_
    rw [eq_M_most]; unfold g_M_most
    replace T := T.thrown
    generalize am_sI τ 66 22 0 = τ at T ⊢
    dsimp only
    obtain ⟨ω, e1, f1⟩ := hv_M_great T
    obtain ⟨ω2, e2, s2⟩ := eM ω (f1.atm T)
    refine ⟨ω2, ?_, hv_Sx.of (f1.pmSm.trans s2)⟩
    simp only [hv_M_03, c4, Option.bind_some, ↓reduceIte, hv_10, hv_01, hI_00, hI_10, hv_X_r1, hv_X_r2, hv_X_r3, hv_X_r4, hv_X_r6, hv_M_r1, hv_M_r2, hv_M_r3, hv_M_r4, hv_M_r6, e1]
    exact e2
  obtain rfl | rfl | rfl | rfl : k = 0 ∨ k = 1 ∨ k = 2 ∨ k = 3 := by omega
  · refine Q (hI (hv_ones (hv_lg h (2 ^ h.S)))) ?_ (fun τ T => ⟨τ, ?_, hv_Sm.rfl' _⟩)
    · obtain ⟨υ, e, s, -⟩ := hv_W_lg H
      refine ⟨υ, ?_, s⟩
      unfold g_X_most
      rw [if_pos (show hI 0 = 0 from rfl), e]
      simp only [Option.bind_some]
      rw [hv_bitCount hl]; rfl
    · rw [eq_M_most_29]; unfold g_M_most_29
      rw [if_pos (show hI 0 = 0 from rfl)]
  · refine Q (hI (hv_lg h (2 ^ h.S))) ?_ (fun τ T => ?_)
    · obtain ⟨υ, e, s, -⟩ := hv_W_lg H
      refine ⟨υ, ?_, s⟩
      unfold g_X_most
      rw [if_neg (by decide), if_pos (show hI 1 = 1 from rfl), e]; rfl
    · obtain ⟨υ, e, f⟩ := hv_M_first T
      refine ⟨υ, ?_, f.pmSm⟩
      rw [eq_M_most_29]; unfold g_M_most_29
      rw [if_neg (by decide), if_pos (show hI 1 = 1 from rfl), e]; rfl
  · refine Q (hv_spk h (fun i => decide (hv_left h i = 0)) h.S) ?_ (fun τ T => ?_)
    · obtain ⟨υ, e, f⟩ := hv_X_liars H
      refine ⟨υ, ?_, f.pwSm⟩
      unfold g_X_most
      rw [if_neg (by decide), if_neg (by decide), if_pos (show hI 2 = 2 from rfl), e]; rfl
    · obtain ⟨υ, e, f⟩ := hv_M_alone T
      obtain ⟨K, hK, eK, tK⟩ := hv_bits_nat (fun i => hv_left h i = 0) h.S kS
      refine ⟨υ, ?_, f.pmSm⟩
      rw [eq_M_most_29]; unfold g_M_most_29
      rw [if_neg (by decide), if_neg (by decide), if_pos (show hI 2 = 2 from rfl), e]
      simp only [Option.bind_some]
      rw [eK, hv_M_spk (f.atm T) (by omega), hv_spk_congr (q := fun i => decide (hv_left h i = 0)) h.S (fun i hi => by
        rw [tK i]
        exact decide_eq_decide.mpr ⟨fun z => z.2, fun z => ⟨hi, z⟩⟩)]
      rfl
  · refine Q (hv_spk h (fun i => !(hv_hrd h (hv_ones (hv_lg h (2 ^ h.S))) (2 ^ h.S)).testBit i) h.S) ?_ (fun τ T => ?_)
    · obtain ⟨υ, e, s, w⟩ := hv_W_lg H
      have T := s.at H
      refine ⟨υ, ?_, s⟩
      unfold g_X_most
      rw [if_neg (by decide), if_neg (by decide), if_neg (by decide), if_pos (show hI 3 = 3 from rfl), eq_W_mustLie_1]
      unfold g_W_mustLie_1
      rw [e]
      simp only [Option.bind_some]
      rw [hv_bitCount hl]
      simp only [Option.bind_some]
      rw [show υ.1 1 6 = hI h.S from T.d.S, hv_cap _ (by omega), eq_W_mustLie_1_27]
      unfold g_W_mustLie_1_27
      rw [hv_X_hrd T w ho]; rfl
    · obtain ⟨υ, e, f⟩ := hv_M_hrd T ho
      have hk := hv_hrd_lt (h := h) (hv_ones (hv_lg h (2 ^ h.S))) (2 ^ h.S) (by omega)
      obtain ⟨n1, n2⟩ := hv_notIn h.S (by omega) _ hk
      refine ⟨υ, ?_, f.pmSm⟩
      rw [eq_M_most_29]; unfold g_M_most_29
      rw [if_neg (by decide), if_neg (by decide), if_neg (by decide), e]
      simp only [Option.bind_some]
      rw [T.m.S, hI_pow _ (by omega), n1, hv_M_spk (f.atm T) n2, hv_spk_congr (q := fun i => !(hv_hrd h (hv_ones (hv_lg h (2 ^ h.S))) (2 ^ h.S)).testBit i) h.S (fun i hi => hv_notIn2 h.S _ i hi (by omega))]
      rfl
