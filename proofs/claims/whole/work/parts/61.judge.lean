/-! PURE: judge -/
def hv_goodJ (h : hv) (f : Nat → Nat) (i : Nat) : Prop := if i % 3 < 2 then f i < h.C else f i = hv_told h (f (i - 2)) (f (i - 1)) h.dm
/-- the first of the row that is not good, or the end -/
noncomputable def hv_jf (good : Nat → Prop) (e : Int32) : Nat → Nat → Int32
  | 0, _ => e
  | n + 1, i => @ite _ (good i) (Classical.propDecidable _) (hv_jf good e n (i + 1)) (hI i)
theorem hv_jf_0 (good : Nat → Prop) (e : Int32) (i : Nat) : hv_jf good e 0 i = e := by rw [hv_jf]
theorem hv_jf_y {good : Nat → Prop} {i : Nat} (e : Int32) (n : Nat) (g : good i) : hv_jf good e (n + 1) i = hv_jf good e n (i + 1) := by rw [hv_jf, if_pos g]
theorem hv_jf_n {good : Nat → Prop} {i : Nat} (e : Int32) (n : Nat) (g : ¬ good i) : hv_jf good e (n + 1) i = hI i := by rw [hv_jf, if_neg g]
theorem hv_rng_not {k n : Nat} (hk : k < 2 ^ 31) (hn : n < 2 ^ 31) (h : n ≤ k) : hv_rng (hI k) n = 0 := by
  rcases hv_rng_cases (hI k) hn with e | ⟨j, hj, e, _⟩
  · exact e
  · have := (hI_inj hk (by omega)).mp e; omega
theorem hv_X_row {h : hv} {σ : am_St} (H : hv_at h σ) (f : Nat → Nat) (N : Nat) (hN : N ≤ 12) (f1 : ∀ i, i < N → f i < 10) (f2 : ∀ i, i < N → σ.1 64 i = hI (f i)) {i : Nat} (hi : i < N) (g : ∀ j, j < i → hv_goodJ h f j) : (hv_goodJ h f i → f_X_canBeInRow (hI i) σ = some (1, σ)) ∧ (¬ hv_goodJ h f i → f_X_canBeInRow (hI i) σ = some (0, σ)) := by
  have kC := H.ok.C
  have k1 := f1 i hi
  have k2 := f2 i hi
  have r3 : am_rem (hI i) 3 = hI (i % 3) := hI_rem (m := 3) (by omega) (by decide)
  have m3 : i % 3 < 3 := Nat.mod_lt _ (by decide)
  have E : f_X_canBeInRow (hI i) σ = some (if hv_rng (hI i) 12 = 0 then 0 else if i % 3 < 2 then hv_rng (hI (f i)) h.C else if hI (f i) = hI (hv_told h (f (i - 2)) (f (i - 1)) h.dm) then 1 else 0, σ) := by
    rw [hv_rng_lt (by decide) (show i < 12 by omega), if_neg (by decide)]
    rw [eq_X_canBeInRow]; unfold g_X_canBeInRow
    rw [if_neg (hI_lt0 (by omega)), if_pos (show hI i < 12 from (hI_lt (m := 12) (by omega) (by decide)).mpr (by omega)), r3]
    dsimp only
    by_cases c : i % 3 < 2
    · rw [if_neg (show ¬ (2 : Int32) ≤ hI (i % 3) from hI_nle (n := 2) (by decide) (by omega) c), if_pos c, if_pos (hI_ix (show i < 12 by omega) (by decide)), hI_clamp (by omega), k2, H.hasChild]
      simp only [Option.bind_some]
      rw [if_pos (hv_rng_01 _ _)]
    · have i2 : 2 ≤ i := by omega
      have g2 := g (i - 2) (by omega)
      have g1 := g (i - 1) (by omega)
      unfold hv_goodJ at g2 g1
      rw [if_pos (by omega)] at g2 g1
      rw [if_pos (show (2 : Int32) ≤ hI (i % 3) from (hI_le (n := 2) (by decide) (by omega)).mpr (by omega)), if_neg c, show hI i - 2 = hI (i - 2) from hI_sub (m := 2) (by omega), show hI i - 1 = hI (i - 1) from hI_sub (m := 1) (by omega), if_pos (hI_ix (by omega) (by decide)), if_pos (hI_ix (by omega) (by decide)), hI_clamp (by omega), hI_clamp (by omega), f2 _ (by omega), f2 _ (by omega), show σ.1 1 4 = hI h.dm from H.d.dm, H.d.told H.ok g2 g1 H.ok.dm]
      simp only [Option.bind_some]
      rw [eq_X_canBeInRow_69]; unfold g_X_canBeInRow_69
      rw [if_pos (hI_ix (show i < 12 by omega) (by decide)), hI_clamp (by omega), k2]
      rcases hv_told4 H.ok (p := f (i - 2)) g1 H.ok.dm with t | t
      · rw [hv_tI_lt (by omega), if_neg (fun e => by
          have : ∀ r, r < 4 → ¬ hI r = -9 := by decide
          exact this _ t e), eq_X_canBeInRow_87]
        unfold g_X_canBeInRow_87
        split <;> rfl
      · rw [t, hv_tI_9, if_pos rfl, eq_X_canBeInRow_87]
        unfold g_X_canBeInRow_87
        rw [show (9 : Int32) = hI 9 from rfl]
        split <;> rfl
  rw [hv_rng_lt (by decide) (show i < 12 by omega), if_neg (by decide)] at E
  rw [E]
  unfold hv_goodJ
  by_cases c : i % 3 < 2
  · rw [if_pos c, if_pos c]
    exact ⟨fun q => by rw [hv_rng_lt (by omega) q], fun q => by rw [hv_rng_not (by omega) (by omega) (by omega)]⟩
  · rw [if_neg c, if_neg c]
    have i2 : 2 ≤ i := by omega
    have g1 := g (i - 1) (by omega)
    unfold hv_goodJ at g1
    rw [if_pos (by omega)] at g1
    have t := hv_told4 H.ok (p := f (i - 2)) g1 H.ok.dm
    exact ⟨fun q => by rw [q, if_pos rfl], fun q => by rw [if_neg (hI_ne (by omega) (by omega) q)]⟩
theorem hv_X_judge {h : hv} {σ : am_St} (H : hv_at h σ) (f : Nat → Nat) (N W : Nat) (hN : N ≤ 12) (hW : W ≤ N) (f1 : ∀ i, i < N → f i < 10) (f2 : ∀ i, i < N → σ.1 64 i = hI (f i)) : f_X_judge_18 (hI N) (hI W) 0 σ = some (hv_jf (hv_goodJ h f) (if W = N then -9 else hI W) W 0, σ) := by
  unfold f_X_judge_18
  have L := hv_lp (body := fun s : Int32 × Int32 × Int32 × am_St => b_X_judge_18 s.1 s.2.1 s.2.2.1 s.2.2.2) (P := fun x => x = (hv_jf (hv_goodJ h f) (if W = N then -9 else hI W) W 0, σ)) (fun n t => t = (hI N, hI W, hI (W - n), σ) ∧ n ≤ W ∧ (∀ j, j < W - n → hv_goodJ h f j) ∧ hv_jf (hv_goodJ h f) (if W = N then -9 else hI W) n (W - n) = hv_jf (hv_goodJ h f) (if W = N then -9 else hI W) W 0) W (hI N, hI W, 0, σ) ⟨by rw [Nat.sub_self]; rfl, Nat.le_refl _, fun j hj => by omega, by rw [Nat.sub_self]⟩ ?_ ?_
  · obtain ⟨x, e, rfl⟩ := L; exact e
  · rintro n t ⟨rfl, hn, g, e⟩
    obtain ⟨c1, c0⟩ := hv_X_row H f N hN f1 f2 (i := W - (n + 1)) (by omega) g
    have B : b_X_judge_18 (hI N) (hI W) (hI (W - (n + 1))) σ = (f_X_canBeInRow (hI (W - (n + 1))) σ).bind (fun p1 => if p1.1 = 0 then some (.inr (hI (W - (n + 1)), p1.2)) else some (.inl (hI N, hI W, hI (W - (n + 1)) + 1, p1.2))) := by
      unfold b_X_judge_18
      rw [if_neg (hI_nle (by omega) (by omega) (by omega))]
    by_cases q : hv_goodJ h f (W - (n + 1))
    · rw [c1 q] at B
      rw [hv_jf_y _ _ q] at e
      refine .inl ⟨_, B, ?_, by omega, fun j hj => ?_, by rw [← e, show W - (n + 1) + 1 = W - n by omega]⟩
      · rw [hI_add1, show W - (n + 1) + 1 = W - n by omega]
      · by_cases cj : j = W - (n + 1)
        · rw [cj]; exact q
        · exact g j (by omega)
    · rw [c0 q] at B
      rw [hv_jf_n _ _ q] at e
      exact .inr ⟨_, B, by rw [← e]⟩
  · rintro t ⟨rfl, hn, g, e⟩
    rw [hv_jf_0] at e
    refine ⟨_, ?_, by rw [← e]⟩
    show b_X_judge_18 (hI N) (hI W) (hI (W - 0)) σ = _
    unfold b_X_judge_18
    rw [Nat.sub_zero, if_pos (Int32.le_refl _)]
    by_cases c : W = N
    · rw [if_pos (by rw [c]), if_pos c]
    · rw [if_neg (hI_ne (by omega) (by omega) c), if_neg c]
theorem hv_M_judge {h : hv} {σ : am_St} (H : hv_at h σ) (f : Nat → Nat) (N W : Nat) (hN : N ≤ 12) (hW : W * 3 ≤ N ∧ N < W * 3 + 3) (f1 : ∀ i, i < N → f i < 10) (f2 : ∀ i, i < N → σ.1 94 i = hI (f i)) : f_M_judge_17 (hI N) 0 σ = some (hv_jf (hv_goodJ h f) (if W * 3 = N then -9 else hI (W * 3)) (W * 3) 0, σ) := by
  have kC := H.ok.C
  unfold f_M_judge_17
  have L := hv_lp (body := fun s : Int32 × Int32 × am_St => b_M_judge_17 s.1 s.2.1 s.2.2) (P := fun x => x = (hv_jf (hv_goodJ h f) (if W * 3 = N then -9 else hI (W * 3)) (W * 3) 0, σ)) (fun n t => t = (hI N, hI ((W - n) * 3), σ) ∧ n ≤ W ∧ hv_jf (hv_goodJ h f) (if W * 3 = N then -9 else hI (W * 3)) (n * 3) ((W - n) * 3) = hv_jf (hv_goodJ h f) (if W * 3 = N then -9 else hI (W * 3)) (W * 3) 0) W (hI N, 0, σ) ⟨by rw [Nat.sub_self]; rfl, Nat.le_refl _, by rw [Nat.sub_self, Nat.zero_mul]⟩ ?_ ?_
  · obtain ⟨x, e, rfl⟩ := L; exact e
  · rintro n t ⟨rfl, hn, e⟩
    generalize hk : (W - (n + 1)) * 3 = k at e
    have k3 : k + 3 ≤ N := by omega
    have ks : (W - n) * 3 = k + 3 := by omega
    have q0 := f1 k (by omega)
    have q1 := f1 (k + 1) (by omega)
    have q2 := f1 (k + 2) (by omega)
    have a2 : hI k + 2 = hI (k + 2) := hI_add k 2
    have a3 : hI k + 3 = hI (k + 3) := hI_add k 3
    have B0 : b_M_judge_17 (hI N) (hI k) σ = if hv_rng (hI (f k)) h.C = 0 then some (.inr (hI k, σ)) else if hv_rng (hI (f (k + 1))) h.C = 0 then some (.inr (hI (k + 1), σ)) else f_M_judge_58 (hI N) (hI k) σ := by
      unfold b_M_judge_17
      rw [a2, hI_add1, if_neg (hI_nle (by omega) (by omega) (by omega)), if_pos (hI_ix (show k < 12 by omega) (by decide)), hI_clamp (by omega), f2 k (by omega), H.isChild]
      simp only [Option.bind_some]
      by_cases c : hv_rng (hI (f k)) h.C = 0
      · rw [if_pos c, if_pos c]
      · rw [if_neg c, if_neg c, if_pos (hI_ix (show k + 1 < 12 by omega) (by decide)), hI_clamp (by omega), f2 (k + 1) (by omega), H.isChild]
        simp only [Option.bind_some]
        by_cases c2 : hv_rng (hI (f (k + 1))) h.C = 0
        · rw [if_pos c2, if_pos c2, eq_M_judge_54]
          unfold g_M_judge_54
          rw [hI_add1]; rfl
        · rw [if_neg c2, if_neg c2]
    have m0 : k % 3 = 0 := by omega
    have e' : hv_jf (hv_goodJ h f) (if W * 3 = N then -9 else hI (W * 3)) (n * 3 + 1 + 1 + 1) k = hv_jf (hv_goodJ h f) (if W * 3 = N then -9 else hI (W * 3)) (W * 3) 0 := by rw [← e, show (n + 1) * 3 = n * 3 + 1 + 1 + 1 by omega]
    by_cases g0 : f k < h.C
    · have G0 : hv_goodJ h f k := by unfold hv_goodJ; rw [if_pos (by omega)]; exact g0
      rw [hv_rng_lt (by omega) g0, if_neg (by decide)] at B0
      rw [hv_jf_y _ _ G0] at e'
      by_cases g1 : f (k + 1) < h.C
      · have G1 : hv_goodJ h f (k + 1) := by unfold hv_goodJ; rw [if_pos (by omega)]; exact g1
        rw [hv_rng_lt (by omega) g1, if_neg (by decide)] at B0
        rw [hv_jf_y _ _ G1] at e'
        have t4 := hv_told4 H.ok (p := f k) g1 H.ok.dm
        have G2 : hv_goodJ h f (k + 2) ↔ f (k + 2) = hv_told h (f k) (f (k + 1)) h.dm := by
          unfold hv_goodJ
          rw [if_neg (by omega)]
          exact Iff.rfl
        have A : ∀ y, f_M_judge_99 (hI N) (hI k) (hI (f (k + 2))) (hI y) σ = if hI (f (k + 2)) = hI y then some (.inl (hI N, hI (k + 3), σ)) else some (.inr (hI (k + 2), σ)) := fun y => by
          rw [eq_M_judge_99]; unfold g_M_judge_99
          rw [a3, a2]
        have B1 : f_M_judge_58 (hI N) (hI k) σ = f_M_judge_99 (hI N) (hI k) (hI (f (k + 2))) (hI (hv_told h (f k) (f (k + 1)) h.dm)) σ := by
          rw [eq_M_judge_58]; unfold g_M_judge_58
          rw [if_pos (hI_ix (show k < 12 by omega) (by decide)), hI_add1, if_pos (hI_ix (show k + 1 < 12 by omega) (by decide)), hI_clamp (by omega), hI_clamp (by omega), f2 k (by omega), f2 (k + 1) (by omega), H.m.dm, H.m.saysOf H.ok g0 g1 H.ok.dm]
          simp only [Option.bind_some]
          rw [a2, if_pos (hI_ix (show k + 2 < 12 by omega) (by decide)), hI_clamp (by omega), f2 (k + 2) (by omega)]
          rcases t4 with t | t
          · rw [hv_tI_lt (by omega), if_pos (show (0 : Int32) ≤ hI _ from (hI_le (n := 0) (by decide) (by omega)).mpr (Nat.zero_le _))]
          · rw [t, hv_tI_9, if_neg (by decide)]; rfl
        rw [B1, A] at B0
        by_cases g2 : f (k + 2) = hv_told h (f k) (f (k + 1)) h.dm
        · rw [hv_jf_y _ _ (G2.mpr g2)] at e'
          rw [if_pos (by rw [g2])] at B0
          exact .inl ⟨_, B0, by rw [ks], by omega, by rw [ks]; exact e'⟩
        · rw [hv_jf_n _ _ (fun q => g2 (G2.mp q))] at e'
          rw [if_neg (hI_ne (by omega) (by omega) g2)] at B0
          exact .inr ⟨_, B0, by rw [← e']⟩
      · have G1 : ¬ hv_goodJ h f (k + 1) := by unfold hv_goodJ; rw [if_pos (by omega)]; exact g1
        rw [hv_rng_not (by omega) (by omega) (by omega), if_pos rfl] at B0
        rw [hv_jf_n _ _ G1] at e'
        exact .inr ⟨_, B0, by rw [← e']⟩
    · have G0 : ¬ hv_goodJ h f k := by unfold hv_goodJ; rw [if_pos (by omega)]; exact g0
      rw [hv_rng_not (by omega) (by omega) (by omega), if_pos rfl] at B0
      rw [hv_jf_n _ _ G0] at e'
      exact .inr ⟨_, B0, by rw [← e']⟩
  · rintro t ⟨rfl, hn, e⟩
    rw [Nat.zero_mul, hv_jf_0] at e
    refine ⟨_, ?_, by rw [← e]⟩
    show b_M_judge_17 (hI N) (hI ((W - 0) * 3)) σ = _
    unfold b_M_judge_17
    rw [Nat.sub_zero, show hI (W * 3) + 2 = hI (W * 3 + 2) from hI_add _ 2, if_pos ((hI_le (by omega) (by omega)).mpr (by omega))]
    by_cases c : W * 3 = N
    · rw [if_pos c, if_pos (by rw [c]; exact Int32.le_refl _)]
    · rw [if_neg c, if_neg (hI_nle (by omega) (by omega) (by omega))]
theorem hv_st_judge : st_judge hv_inv := by
  intro σ hi
  obtain ⟨h, H⟩ := hi.at
  obtain ⟨-, im, ⟨n, hn, l1, l2, l3⟩, ⟨N, hN, r1, r2, r3⟩, rf⟩ := id hi
  have f1 : ∀ i, i < N → (σ.1 64 i).toNatClampNeg < 10 ∧ σ.1 64 i = hI (σ.1 64 i).toNatClampNeg ∧ σ.1 94 i = hI (σ.1 64 i).toNatClampNeg := fun i hi => by
    obtain ⟨k, k1, k2, k3⟩ := r3 i hi
    rw [k2, hI_clamp (by omega)]
    exact ⟨k1, rfl, k3⟩
  have eW : hI N - am_rem (hI N) 3 = hI (N / 3 * 3) := by
    rw [show (3 : Int32) = hI 3 from rfl, hI_rem (by omega) (by decide), hI_sub (by omega)]
    congr 1
    omega
  have T1 : hv_at h (am_sI σ 0 7 0) := hv_at.mk H.ok H.so (H.d.frame fun i k a b => by rw [hv_g2 _ (by omega)]) (H.m.frame (fun k hk => by rw [hv_g2 _ (by decide)]) (fun i k a b => by rw [hv_g2 _ (by omega)]))
  have T2 : hv_at h (am_sI (am_sI (am_sI σ 0 7 0) 66 22 0) 66 46 0) := hv_at.mk H.ok H.so (T1.thrown.d.frame fun i k a b => by rw [hv_g2 _ (by omega)]) (T1.thrown.m.frame (fun k hk => by rw [hv_g3 _ _ (by omega)]) (fun i k a b => by rw [hv_g2 _ (by omega)]))
  have eE : (if N / 3 * 3 = N then (-9 : Int32) else hI (N / 3 * 3)) = if N / 3 * 3 = N then -9 else hI (N / 3 * 3) := rfl
  refine ⟨hv_jf (hv_goodJ h fun i => (σ.1 64 i).toNatClampNeg) (if N / 3 * 3 = N then -9 else hI (N / 3 * 3)) (N / 3 * 3) 0, am_sI σ 0 7 0, am_sI (am_sI (am_sI σ 0 7 0) 66 22 0) 66 46 0, ?_, ?_, ?_⟩
  · rw [eq_X_judge]; unfold g_X_judge
    dsimp only
    rw [r1, eW, hv_X_judge T1 (fun i => (σ.1 64 i).toNatClampNeg) N (N / 3 * 3) hN (by omega) (fun i hi => (f1 i hi).1) (fun i hi => by rw [hv_g2 _ (by decide)]; exact (f1 i hi).2.1)]
  · rw [eq_M_judge]; unfold g_M_judge
    dsimp only
    rw [hv_g3 _ _ (show (46 : Nat) ≠ 22 by decide), hv_g2 _ (show (66 : Nat) ≠ 0 by decide), r2, hv_M_judge T2 (fun i => (σ.1 64 i).toNatClampNeg) N (N / 3) hN (by omega) (fun i hi => (f1 i hi).1) (fun i hi => by rw [hv_g2 _ (by decide), hv_g2 _ (by decide), hv_g2 _ (by decide)]; exact (f1 i hi).2.2)]
  · have F : ∀ i j, ¬ (i = 0 ∧ j = 7) → ¬ (i = 66 ∧ (j = 22 ∨ j = 46)) → (am_sI (am_sI (am_sI σ 0 7 0) 66 22 0) 66 46 0).1 i j = σ.1 i j := fun i j a b => by
      by_cases c6 : i = 66
      · subst c6; rw [hv_g3 _ _ (by omega), hv_g3 _ _ (by omega), hv_g2 _ (by decide)]
      · rw [hv_g2 _ c6, hv_g2 _ c6]
        by_cases c0 : i = 0
        · subst c0; rw [hv_g3 _ _ (by omega)]
        · rw [hv_g2 _ c0]
    refine ⟨⟨h, T2.ok, T2.so, T2.d, T2.m⟩, ?_, ⟨n, hn, (F 35 1 (by omega) (by omega)).trans l1, (F 66 28 (by omega) (by omega)).trans l2, fun i hi => ?_⟩, ⟨0, by decide, ?_, ?_, fun i hi => absurd hi (Nat.not_lt_zero i)⟩, fun i hi => ?_⟩
    · rw [F 0 2 (by omega) (by omega), F 66 38 (by omega) (by omega)]
      rcases im with im | ⟨i1, i2, g, g1, g2, g3, g4⟩
      · exact .inl im
      · exact .inr ⟨i1, i2, g, g1, g2, g3.frame fun i j b1 b2 => F i j (by omega) (by omega), g4.frame fun j => F 91 j (by omega) (by omega)⟩
    · rw [F 36 i (by omega) (by omega), F 86 i (by omega) (by omega)]; exact l3 i hi
    · rw [hv_g2 _ (by decide), hv_g2 _ (by decide), hv_g1]; rfl
    · rw [hv_g1]; rfl
    · rw [F 65 i (by omega) (by omega), F 82 i (by omega) (by omega)]; exact rf i hi
