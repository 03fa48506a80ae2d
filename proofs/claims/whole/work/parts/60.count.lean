/-! PURE: count -/
def hv_ones (k : Nat) : Nat := hv_sum 8 fun i => if k.testBit i then 1 else 0
def hv_pc1 (x : Int32) : Int32 :=
  let v1 := x - ((am_ush x 1) &&& 1431655765)
  let v2 := (v1 &&& 858993459) + ((am_ush v1 2) &&& 858993459)
  let v3 := (v2 + (am_ush v2 4)) &&& 252645135
  let v4 := v3 + (am_ush v3 8)
  let v5 := v4 + (am_ush v4 16)
  v5 &&& 63
theorem hv_pc_eq : ∀ k, k < 256 → hv_pc1 (hI k) = hI (hv_ones k) := by decide +kernel
theorem hv_bitCount {k : Nat} (hk : k < 256) (σ : am_St) : f_JI_bitCount (hI k) σ = some (hI (hv_ones k), σ) := by
  rw [← hv_pc_eq k hk, eq_JI_bitCount]; unfold g_JI_bitCount
  dsimp only
  rw [eq_JI_bitCount_41]; rfl
theorem hv_ones_and : ∀ k, k < 256 → 0 < k → (hI k &&& (hI k - 1)) = hI (k &&& (k - 1)) ∧ hv_ones (k &&& (k - 1)) + 1 = hv_ones k := by decide +kernel
theorem hv_ones_pos : ∀ k, k < 256 → hv_ones k = 0 → k = 0 := by decide +kernel
theorem hv_ones_le (k : Nat) : hv_ones k ≤ 8 := by
  have : hv_ones k ≤ hv_sum 8 (fun _ => 1) := hv_sum_le fun i _ => by
    show (if k.testBit i = true then 1 else 0) ≤ 1
    split <;> decide
  rw [hv_sum_const] at this
  omega
theorem hv_M_ones {k : Nat} (hk : k < 256) (σ : am_St) : f_M_ones (hI k) σ = some (hI (hv_ones k), σ) := by
  rw [eq_M_ones]; unfold g_M_ones f_M_ones_4
  have L := hv_lp (body := fun s : Int32 × Int32 × am_St => b_M_ones_4 s.1 s.2.1 s.2.2) (P := fun x => x = (hI (hv_ones k), σ)) (fun n t => ∃ a b, t = (hI a, hI b, σ) ∧ b < 256 ∧ hv_ones b = n ∧ a + n = hv_ones k) (hv_ones k) (0, hI k, σ) ⟨0, k, rfl, hk, rfl, Nat.zero_add _⟩ ?_ ?_
  · obtain ⟨x, e, rfl⟩ := L; exact e
  · rintro n t ⟨a, b, rfl, hb, ho, hs⟩
    have b0 : 0 < b := Nat.pos_of_ne_zero fun e => by
      rw [e] at ho
      have : hv_ones 0 = 0 := by decide
      omega
    obtain ⟨e1, e2⟩ := hv_ones_and b hb b0
    refine .inl ⟨_, ?_, a + 1, b &&& (b - 1), rfl, Nat.lt_of_le_of_lt Nat.and_le_left hb, by omega, by omega⟩
    show b_M_ones_4 (hI a) (hI b) σ = _
    unfold b_M_ones_4
    rw [if_neg (hI_ne0 (by omega) (by omega))]
    dsimp only
    rw [e1, hI_add1]
  · rintro t ⟨a, b, rfl, hb, ho, hs⟩
    have b0 := hv_ones_pos b hb ho
    refine ⟨(hI a, σ), ?_, by rw [← hs]; rfl⟩
    show b_M_ones_4 (hI a) (hI b) σ = _
    unfold b_M_ones_4
    rw [b0, if_pos (show hI 0 = 0 from rfl)]
theorem hv_at.doorsOf {h : hv} {σ : am_St} (H : hv_at h σ) {r : Nat} (hr : r < h.R) : f_H_doorsOf_1 (hI r) σ = some (hI (hv_ones (h.door r)), σ) := by
  have kR := H.ok.R
  have k16 := H.ok.door16 (show r < 4 by omega)
  rw [eq_H_doorsOf_1]; unfold g_H_doorsOf_1
  rw [H.hasRoom, hv_rng_lt H.R31 hr]
  simp only [Option.bind_some, hv_10, ↓reduceIte]
  rw [if_pos (hI_ix (show r < 4 by omega) (by decide)), hI_clamp (by omega), show σ.1 2 r = hI (h.door r) from H.d.door r (by omega), hv_bitCount (by omega)]
  rfl
theorem hv_at.doorsInAll {h : hv} {σ : am_St} (H : hv_at h σ) : f_H_doorsInAll_1 σ = some (hI (hv_sum h.R fun r => hv_ones (h.door r)) / 2, σ) := by
  have kR := H.ok.R
  have D1 : σ.1 1 0 = hI h.R := H.d.R
  rw [eq_H_doorsInAll_1]; unfold g_H_doorsInAll_1 f_H_doorsInAll_1_4
  have L := hv_up (body := fun s : Int32 × Int32 × am_St => b_H_doorsInAll_1_4 s.1 s.2.1 s.2.2) (P := fun x => x = (hI (hv_sum h.R fun r => hv_ones (h.door r)) / 2, σ)) h.R (fun i t => t = (hI (hv_sum i fun r => hv_ones (h.door r)), hI i, σ)) 0 (Nat.zero_le _) (0, 0, σ) rfl ?_ ?_
  · obtain ⟨x, e, rfl⟩ := L; exact e
  · rintro i t hi rfl
    refine .inl ⟨_, ?_, rfl⟩
    show b_H_doorsInAll_1_4 _ (hI i) σ = _
    unfold b_H_doorsInAll_1_4
    rw [D1, if_neg (hI_nle (by omega) (by omega) hi), H.doorsOf hi]
    simp only [Option.bind_some]
    rw [hI_add, hI_add1, hv_sum_succ]
  · rintro t rfl
    refine ⟨_, ?_, rfl⟩
    show b_H_doorsInAll_1_4 _ (hI h.R) σ = _
    unfold b_H_doorsInAll_1_4
    rw [D1, if_pos (Int32.le_refl _)]
theorem hv_at.skillsInAll {h : hv} {σ : am_St} (H : hv_at h σ) : f_H_skillsInAll_1 σ = some (hI (hv_sum h.C h.skill), σ) := by
  have kC := H.ok.C
  have D1 : σ.1 1 2 = hI h.C := H.d.C
  rw [eq_H_skillsInAll_1]; unfold g_H_skillsInAll_1 f_H_skillsInAll_1_4
  have L := hv_up (body := fun s : Int32 × Int32 × am_St => b_H_skillsInAll_1_4 s.1 s.2.1 s.2.2) (P := fun x => x = (hI (hv_sum h.C h.skill), σ)) h.C (fun i t => t = (hI (hv_sum i h.skill), hI i, σ)) 0 (Nat.zero_le _) (0, 0, σ) rfl ?_ ?_
  · obtain ⟨x, e, rfl⟩ := L; exact e
  · rintro i t hi rfl
    refine .inl ⟨_, ?_, rfl⟩
    show b_H_skillsInAll_1_4 _ (hI i) σ = _
    unfold b_H_skillsInAll_1_4
    rw [D1, if_neg (hI_nle (by omega) (by omega) hi), H.d.skillOf H.ok hi]
    simp only [Option.bind_some]
    rw [show σ.1 6 i = hI (h.skill i) from H.d.skill i hi, hI_add, hI_add1, hv_sum_succ]
  · rintro t rfl
    refine ⟨_, ?_, rfl⟩
    show b_H_skillsInAll_1_4 _ (hI h.C) σ = _
    unfold b_H_skillsInAll_1_4
    rw [D1, if_pos (Int32.le_refl _)]
theorem hv_doors4 {h : hv} (ok : hv_ok h) : hv_sum 4 (fun r => hv_ones (h.door r)) = hv_sum h.R fun r => hv_ones (h.door r) := by
  have kR := ok.R
  have z : ∀ r, h.R ≤ r → r < 4 → hv_ones (h.door r) = 0 := fun r a b => by rw [(ok.door r b).2.1 a]; decide
  have hR : h.R = 2 ∨ h.R = 3 ∨ h.R = 4 := by omega
  rcases hR with q | q | q
  · rw [q, hv_sum_succ 3, hv_sum_succ 2, z 2 (by omega) (by decide), z 3 (by omega) (by decide)]; rfl
  · rw [q, hv_sum_succ 3, z 3 (by omega) (by decide)]; rfl
  · rw [q]
theorem hv_skills4 {h : hv} (ok : hv_ok h) : hv_sum 4 (fun r => if r < h.C then h.skill r else 0) = hv_sum h.C h.skill := by
  have kC := ok.C
  have : ∀ n, h.C ≤ n → hv_sum n (fun r => if r < h.C then h.skill r else 0) = hv_sum h.C h.skill := by
    intro n
    induction n with
    | zero => intro e; rw [show h.C = 0 by omega]; rfl
    | succ n ih =>
      intro e
      by_cases c : h.C = n + 1
      · rw [c]; exact hv_sum_congr fun i hi => if_pos hi
      · rw [hv_sum_succ, ih (by omega), if_neg (by omega), Nat.add_zero]
  exact this 4 kC
/-- the model's count, its two sums told -/
theorem hv_M_count {h : hv} {σ : am_St} (H : hv_at h σ) (x : Int32) (y : Int32) (e : b_M_count_12 x (hI (hv_sum 4 fun r => hv_ones (h.door r))) (hI (hv_sum 4 fun r => if r < h.C then h.skill r else 0)) (hI 4) σ = some (.inr (y, σ))) : f_M_count_12 x 0 0 0 σ = some (y, σ) := by
  have kC := H.ok.C
  unfold f_M_count_12
  have L := hv_up (body := fun s : Int32 × Int32 × Int32 × Int32 × am_St => b_M_count_12 s.1 s.2.1 s.2.2.1 s.2.2.2.1 s.2.2.2.2) (P := fun z => z = (y, σ)) 4 (fun i t => t = (x, hI (hv_sum i fun r => hv_ones (h.door r)), hI (hv_sum i fun r => if r < h.C then h.skill r else 0), hI i, σ)) 0 (Nat.zero_le _) (x, 0, 0, 0, σ) rfl ?_ ?_
  · obtain ⟨x, e, rfl⟩ := L; exact e
  · rintro i t hi rfl
    have k16 := H.ok.door16 (show i < 4 by omega)
    have ix : am_ix (hI i) 4 = true := hI_ix (by omega) (by decide)
    refine .inl ⟨_, ?_, rfl⟩
    show b_M_count_12 x _ _ (hI i) σ = _
    unfold b_M_count_12
    rw [if_neg (hI_nge4 hi), if_pos ix, hI_clamp (by omega), H.m.door i hi, hv_M_ones (by omega)]
    simp only [Option.bind_some]
    rw [H.m.C]
    by_cases c : i < h.C
    · rw [if_neg (hI_nle (by omega) (by omega) c), if_pos ix, H.m.skill i c, eq_M_count_52]
      unfold g_M_count_52
      dsimp only
      rw [hI_add, hI_add, hI_add1, hv_sum_succ, hv_sum_succ, if_pos c]
    · rw [if_pos ((hI_le (by omega) (by omega)).mpr (by omega)), eq_M_count_52]
      unfold g_M_count_52
      dsimp only
      rw [hI_add, Int32.add_zero, hI_add1, hv_sum_succ, hv_sum_succ, if_neg c]; rfl
  · rintro t rfl
    exact ⟨_, e, rfl⟩
theorem hv_M_1116 (x : Int32) (σ : am_St) : f_M_in x.toInt64 11 16 σ = some (if 11 ≤ x ∧ x ≤ 16 then 1 else 0, σ) := by
  rw [hv_M_in]
  have e1 : ((11 : Int64) ≤ x.toInt64) ↔ 11 ≤ x := by
    rw [Int64.le_iff_toInt_le, Int32.toInt_toInt64, Int32.le_iff_toInt_le]; rfl
  have e2 : (x.toInt64 ≤ (16 : Int64)) ↔ x ≤ 16 := by
    rw [Int64.le_iff_toInt_le, Int32.toInt_toInt64, Int32.le_iff_toInt_le]; rfl
  simp only [e1, e2]
theorem hv_st_count : st_count hv_inv := by
  intro σ hi x
  obtain ⟨h, H⟩ := hi.at
  have g4 : ¬ ¬ (4 : Int32) ≤ hI 4 := by decide
  have Q : ∀ y : Int32, g_X_count x σ = some (y, σ) → (∀ τ, hv_at h τ → hv_Sx 0 65 σ τ → b_M_count_12 x (hI (hv_sum 4 fun r => hv_ones (h.door r))) (hI (hv_sum 4 fun r => if r < h.C then h.skill r else 0)) (hI 4) (am_sI τ 66 22 0) = some (.inr (y, am_sI τ 66 22 0))) → ∃ r τ1 τ2, f_X_count x σ = some (r, τ1) ∧ f_M_count x τ1 = some (r, τ2) ∧ hv_inv τ2 := fun y eX eM =>
    hv_qry hi H 0 y ⟨σ, by rw [eq_X_count]; exact eX, hv_Sx.same _ _⟩ (fun τ T s => hv_thr ⟨_, by
      rw [eq_M_count]; unfold g_M_count
      exact hv_M_count T.thrown x y (eM τ T s), hv_Sx.same _ _⟩)
  obtain ⟨⟨_, _, _, _, _⟩, _, ⟨n, hn, l1, l2, l3⟩, ⟨q, hq, r1, r2, r3⟩, rf⟩ := id hi
  have S0 : ∀ τ, hv_Sx 0 65 σ τ → ∀ i j, hv_scr i j = false → τ.1 i j = σ.1 i j := fun τ s i j e => by rw [s i j e, if_neg (fun q => q.2.2 rfl)]
  by_cases c0 : x = 0
  · subst c0
    exact Q (hI h.R) (by unfold g_X_count; rw [if_pos rfl, show σ.1 1 0 = hI h.R from H.d.R]) (fun τ T s => by unfold b_M_count_12; rw [if_pos (by decide), if_pos rfl, T.thrown.m.R])
  by_cases c1 : x = 1
  · subst c1
    exact Q (hI h.M) (by unfold g_X_count; rw [if_neg c0, if_pos rfl, show σ.1 1 1 = hI h.M from H.d.M]) (fun τ T s => by unfold b_M_count_12; rw [if_pos (by decide), if_neg c0, if_pos rfl, T.thrown.m.M])
  by_cases c2 : x = 2
  · subst c2
    exact Q (hI h.C) (by unfold g_X_count; rw [if_neg c0, if_neg c1, if_pos rfl, show σ.1 1 2 = hI h.C from H.d.C]) (fun τ T s => by unfold b_M_count_12; rw [if_pos (by decide), if_neg c0, if_neg c1, if_pos rfl, T.thrown.m.C])
  by_cases c3 : x = 3
  · subst c3
    exact Q (hI (hv_sum h.R fun r => hv_ones (h.door r)) / 2) (by unfold g_X_count; rw [if_neg c0, if_neg c1, if_neg c2, if_pos rfl, H.doorsInAll]; rfl) (fun τ T s => by unfold b_M_count_12; rw [if_pos (by decide), if_neg c0, if_neg c1, if_neg c2, if_pos rfl, hv_doors4 H.ok])
  by_cases c4 : x = 4
  · subst c4
    exact Q (hI h.F) (by unfold g_X_count; rw [if_neg c0, if_neg c1, if_neg c2, if_neg c3, if_pos rfl, show σ.1 1 5 = hI h.F from H.d.F]) (fun τ T s => by unfold b_M_count_12; rw [if_pos (by decide), if_neg c0, if_neg c1, if_neg c2, if_neg c3, if_pos rfl, T.thrown.m.F])
  by_cases c5 : x = 5
  · subst c5
    exact Q (hI h.S) (by unfold g_X_count; rw [if_neg c0, if_neg c1, if_neg c2, if_neg c3, if_neg c4, if_pos rfl, show σ.1 1 6 = hI h.S from H.d.S]) (fun τ T s => by unfold b_M_count_12; rw [if_pos (by decide), if_neg c0, if_neg c1, if_neg c2, if_neg c3, if_neg c4, if_pos rfl, T.thrown.m.S])
  by_cases c6 : x = 6
  · subst c6
    exact Q (10 * hI h.dr + hI h.dm) (by unfold g_X_count; rw [if_neg c0, if_neg c1, if_neg c2, if_neg c3, if_neg c4, if_neg c5, if_pos rfl, eq_H_deedInOne_1]; unfold g_H_deedInOne_1; rw [show σ.1 1 3 = hI h.dr from H.d.dr, show σ.1 1 4 = hI h.dm from H.d.dm]; rfl) (fun τ T s => by unfold b_M_count_12; rw [if_pos (by decide), if_neg c0, if_neg c1, if_neg c2, if_neg c3, if_neg c4, if_neg c5, if_pos rfl, T.thrown.m.dr, T.thrown.m.dm])
  by_cases c7 : x = 7
  · subst c7
    exact Q (hI n) (by unfold g_X_count; rw [if_neg c0, if_neg c1, if_neg c2, if_neg c3, if_neg c4, if_neg c5, if_neg c6, if_pos rfl, eq_T_howMany]; unfold g_T_howMany; rw [l1]; rfl) (fun τ T s => by unfold b_M_count_12; rw [if_pos (by decide), if_neg c0, if_neg c1, if_neg c2, if_neg c3, if_neg c4, if_neg c5, if_neg c6, if_pos rfl, hv_g3 _ _ (show (28 : Nat) ≠ 22 by decide), S0 τ s 66 28 rfl, l2])
  by_cases c8 : x = 8
  · subst c8
    exact Q (hI q) (by unfold g_X_count; rw [if_neg c0, if_neg c1, if_neg c2, if_neg c3, if_neg c4, if_neg c5, if_neg c6, if_neg c7, if_pos rfl, r1]) (fun τ T s => by unfold b_M_count_12; rw [if_pos (by decide), if_neg c0, if_neg c1, if_neg c2, if_neg c3, if_neg c4, if_neg c5, if_neg c6, if_neg c7, if_pos rfl, hv_g3 _ _ (show (46 : Nat) ≠ 22 by decide), S0 τ s 66 46 rfl, r2])
  by_cases c9 : x = 9
  · subst c9
    exact Q (hI (hv_sum h.C h.skill)) (by unfold g_X_count; rw [if_neg c0, if_neg c1, if_neg c2, if_neg c3, if_neg c4, if_neg c5, if_neg c6, if_neg c7, if_neg c8, if_pos rfl, H.skillsInAll]; rfl) (fun τ T s => by unfold b_M_count_12; rw [if_pos (by decide), if_neg c0, if_neg c1, if_neg c2, if_neg c3, if_neg c4, if_neg c5, if_neg c6, if_neg c7, if_neg c8, if_pos rfl, hv_skills4 H.ok])
  by_cases c10 : 11 ≤ x ∧ x ≤ 16
  · obtain ⟨k, hk, rfl⟩ := hI_of (Int32.le_trans (show (0 : Int32) ≤ 11 by decide) c10.1)
    have k4 : 11 ≤ k := (hI_le (n := 11) (by decide) hk).mp c10.1
    have k6 : k ≤ 16 := (hI_le (m := 16) hk (by decide)).mp c10.2
    have ds : hI k - 10 = hI (k - 10) := hI_sub (m := 10) (by omega)
    exact Q (σ.1 65 (k - 10)) (by unfold g_X_count; rw [if_neg c0, if_neg c1, if_neg c2, if_neg c3, if_neg c4, if_neg c5, if_neg c6, if_neg c7, if_neg c8, if_neg c9, if_neg (show ¬ hI k < 11 from hI_nlt (m := 11) (by omega) (by decide) k4), if_neg (show ¬ (16 : Int32) < hI k from hI_nlt (n := 16) (by decide) (by omega) k6), ds, if_pos (hI_ix (by omega) (by decide)), hI_clamp (by omega)]) (fun τ T s => by
      unfold b_M_count_12
      rw [if_pos (by decide), if_neg c0, if_neg c1, if_neg c2, if_neg c3, if_neg c4, if_neg c5, if_neg c6, if_neg c7, if_neg c8, if_neg c9, hv_M_1116]
      simp only [Option.bind_some, c10, and_self, ↓reduceIte, hv_10]
      rw [ds, if_pos (hI_ix (by omega) (by decide)), hI_clamp (by omega), hv_g2 _ (show (82 : Nat) ≠ 66 by decide), S0 τ s 82 _ (hv_scr_mod (by decide) (by decide)), rf _ (by omega)])
  · exact Q (-9) (by
      unfold g_X_count
      rw [if_neg c0, if_neg c1, if_neg c2, if_neg c3, if_neg c4, if_neg c5, if_neg c6, if_neg c7, if_neg c8, if_neg c9]
      by_cases l : x < 11
      · rw [if_pos l]
      · rw [if_neg l, if_pos (Int32.not_le.mp fun e => c10 ⟨Int32.not_lt.mp l, e⟩)]) (fun τ T s => by
      unfold b_M_count_12
      rw [if_pos (by decide), if_neg c0, if_neg c1, if_neg c2, if_neg c3, if_neg c4, if_neg c5, if_neg c6, if_neg c7, if_neg c8, if_neg c9, hv_M_1116]
      simp only [Option.bind_some, c10, ↓reduceIte])
