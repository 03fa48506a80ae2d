/-! PURE: refusals; feed -/
theorem hv_X_refuse {n : Nat} (h : n = 1 ∨ n = 2 ∨ n = 3 ∨ n = 4 ∨ n = 6) (σ : am_St) : f_X_refuse (-(hI n)) σ = some (-(hI n), am_sI σ 65 n (σ.1 65 n + 1)) := by
  rw [eq_X_refuse]
  rcases h with rfl | rfl | rfl | rfl | rfl <;> rfl
theorem hv_M_refuse {n : Nat} (h : n = 1 ∨ n = 2 ∨ n = 3 ∨ n = 4 ∨ n = 6) (σ : am_St) : f_M_refuse (-(hI n)) σ = some (-(hI n), am_sI σ 82 n (σ.1 82 n + 1)) := by
  rw [eq_M_refuse]
  rcases h with rfl | rfl | rfl | rfl | rfl <;> rfl
/-- both refuse, one behind the other, with what they may change between -/
theorem hv_inv_refuse {σ τ υ : am_St} {n : Nat} (x : hv_inv σ) (h1 : hv_Sm σ τ) (h2 : hv_Sm (am_sI τ 65 n (τ.1 65 n + 1)) υ) : hv_inv (am_sI υ 82 n (υ.1 82 n + 1)) := by
  rw [hv_inv_iff] at x ⊢
  have e1 : ∀ i k, hv_scr i k = false → i ≠ 65 → υ.1 i k = σ.1 i k := fun i k a b => by
    rw [h2 i k a, hv_g2 _ b]; exact h1 i k a
  refine ⟨x.1.frame fun i k a b c => ?_, fun i hi => ?_⟩
  · rw [hv_g2 _ c]; exact e1 i k a b
  · rw [hv_g2 _ (show (65 : Nat) ≠ 82 by decide), h2 65 i rfl]
    by_cases hin : i = n
    · subst hin
      rw [hv_g1, hv_g1, e1 82 i rfl (by decide), h1 65 i rfl, x.2 i hi]
    · rw [hv_g3 _ _ hin, hv_g3 _ _ hin, e1 82 i rfl (by decide), h1 65 i rfl, x.2 i hi]
theorem hv_T_isFull {n : Nat} {σ : am_St} (h : σ.1 35 1 = hI n) (hn : n ≤ 96) : f_T_isFull σ = some (if n < 96 then 0 else 1, σ) := by
  rw [eq_T_isFull]
  unfold g_T_isFull
  rw [h]
  by_cases c : n < 96
  · rw [if_pos (show hI n < 96 from (hI_lt (m := 96) (by omega) (by decide)).mpr c), if_pos c]
  · rw [if_neg (show ¬ hI n < 96 from fun e => c ((hI_lt (m := 96) (by omega) (by decide)).mp e)), if_neg c]
theorem hv_T_add {n : Nat} {σ : am_St} (h : σ.1 35 1 = hI n) (hn : n < 96) (x : Int32) : f_T_add x σ = some (hI (n + 1), am_sI (am_sI σ 36 n x) 35 1 (hI (n + 1))) := by
  rw [eq_T_add]
  unfold g_T_add
  rw [h]
  have c1 : ¬ hI n < 0 := fun e => Nat.not_lt_zero n ((hI_lt (m := 0) (by omega) (by decide)).mp e)
  have c2 : ¬ (96 : Int32) ≤ hI n := fun e => by have := (hI_le (n := 96) (by decide) (show n < 2 ^ 31 by omega)).mp e; omega
  rw [if_neg c1, if_neg c2, if_pos (hI_ix hn (by decide))]
  show f_T_add_36 _ = _
  rw [eq_T_add_36]
  unfold g_T_add_36
  rw [hI_clamp (by omega), hv_g2 σ (show (35 : Nat) ≠ 36 by decide), h, hI_add1, hv_g1]
theorem hv_st_feed : st_feed hv_inv := by
  intro σ hi a
  obtain ⟨-, -, ⟨n, hn, l1, l2, l3⟩, -⟩ := id hi
  have s1 : hv_Sm σ (am_sI σ 66 22 0) := (hv_Sm.rfl' σ).set 0 rfl
  have s2 : ∀ x : am_St, hv_Sm x (am_sI x 66 22 0) := fun x => (hv_Sm.rfl' x).set 0 rfl
  rw [show (∃ (r : Int32) (τ1 τ2 : am_St), f_X_feed a σ = some (r, τ1) ∧ f_M_feed a τ1 = some (r, τ2) ∧ hv_inv τ2) ↔ (∃ (r : Int32) (τ1 τ2 : am_St), g_X_feed a σ = some (r, τ1) ∧ g_M_feed a τ1 = some (r, τ2) ∧ hv_inv τ2) by simp only [eq_X_feed, eq_M_feed]]
  unfold g_X_feed g_M_feed
  have R6 : ∀ x : am_St, f_X_feed_28 x = some (-6, am_sI x 65 6 (x.1 65 6 + 1)) := fun x => by
    rw [eq_X_feed_28]; unfold g_X_feed_28; rw [show (-6 : Int32) = -(hI 6) from rfl, hv_X_refuse (by decide)]; rfl
  have R7 : ∀ x : am_St, f_M_feed_32 x = some (-6, am_sI x 82 6 (x.1 82 6 + 1)) := fun x => by
    rw [eq_M_feed_32]; unfold g_M_feed_32; rw [show (-6 : Int32) = -(hI 6) from rfl, hv_M_refuse (by decide)]; rfl
  by_cases h0 : 0 ≤ a
  · simp only [if_pos h0]
    by_cases h1 : 255 < a
    · simp only [if_pos h1]
      exact ⟨_, _, _, R6 σ, R7 _, hv_inv_refuse (n := 6) hi (hv_Sm.rfl' σ) (s2 _)⟩
    · simp only [if_neg h1]
      rw [hv_T_isFull l1 hn]
      by_cases c : n < 96
      · refine ⟨hI (n + 1), am_sI (am_sI σ 36 n a) 35 1 (hI (n + 1)), am_sI (am_sI (am_sI (am_sI (am_sI σ 36 n a) 35 1 (hI (n + 1))) 66 22 0) 86 n a) 66 28 (hI (n + 1)), ?_, ?_, ?_⟩
        · rw [if_pos c]
          show ((f_T_add a σ).bind _) = _
          rw [hv_T_add l1 c]; rfl
        · have e : (am_sI (am_sI (am_sI σ 36 n a) 35 1 (hI (n + 1))) 66 22 0).1 66 28 = hI n := by
            rw [hv_g3 _ _ (show (28 : Nat) ≠ 22 by decide), hv_g2 _ (show (66 : Nat) ≠ 35 by decide), hv_g2 _ (show (66 : Nat) ≠ 36 by decide)]; exact l2
          rw [e, if_neg (fun q => by have := (hI_inj (m := 96) (by omega) (by decide)).mp q; omega), if_pos (hI_ix c (by decide))]
          show f_M_feed_59 _ = _
          rw [eq_M_feed_59]
          unfold g_M_feed_59
          rw [hI_clamp (by omega), hv_g2 _ (show (66 : Nat) ≠ 86 by decide), e, hI_add1, hv_g1]
        · obtain ⟨k, hk, rfl⟩ := hI_of h0
          have hk2 : k < 256 := by
            have : ¬ 255 < k := fun q => h1 ((hI_lt (n := 255) (by decide) hk).mpr q)
            omega
          obtain ⟨⟨h, ok, so, d, m⟩, im, -, ⟨q, hq, r1, r2, r3⟩, rf⟩ := hi
          have G : ∀ i j, i ≠ 36 → i ≠ 35 → i ≠ 66 → i ≠ 86 → (am_sI (am_sI (am_sI (am_sI (am_sI σ 36 n (hI k)) 35 1 (hI (n + 1))) 66 22 0) 86 n (hI k)) 66 28 (hI (n + 1))).1 i j = σ.1 i j := fun i j a1 a2 a3 a4 => by
            rw [hv_g2 _ a3, hv_g2 _ a4, hv_g2 _ a3, hv_g2 _ a2, hv_g2 _ a1]
          have G6 : ∀ j, j ≠ 22 → j ≠ 28 → (am_sI (am_sI (am_sI (am_sI (am_sI σ 36 n (hI k)) 35 1 (hI (n + 1))) 66 22 0) 86 n (hI k)) 66 28 (hI (n + 1))).1 66 j = σ.1 66 j := fun j a1 a2 => by
            rw [hv_g3 _ _ a2, hv_g2 _ (show (66 : Nat) ≠ 86 by decide), hv_g3 _ _ a1, hv_g2 _ (show (66 : Nat) ≠ 35 by decide), hv_g2 _ (show (66 : Nat) ≠ 36 by decide)]
          refine ⟨⟨h, ok, so, d.frame fun i j b1 b2 => G i j (by omega) (by omega) (by omega) (by omega), m.frame (fun j hj => G6 j (by omega) (by omega)) (fun i j b1 b2 => G i j (by omega) (by omega) (by omega) (by omega))⟩, ?_, ⟨n + 1, by omega, ?_, ?_, fun i hi => ?_⟩, ⟨q, hq, (G 0 7 (by decide) (by decide) (by decide) (by decide)).trans r1, (G6 46 (by decide) (by decide)).trans r2, fun i hi => ?_⟩, fun i hi => ?_⟩
          · rw [G 0 2 (by decide) (by decide) (by decide) (by decide), G6 38 (by decide) (by decide)]
            rcases im with im | ⟨i1, i2, g, g1, g2, g3, g4⟩
            · exact .inl im
            · exact .inr ⟨i1, i2, g, g1, g2, g3.frame fun i j b1 b2 => G i j (by omega) (by omega) (by omega) (by omega), g4.frame fun j => G 91 j (by decide) (by decide) (by decide) (by decide)⟩
          · rw [hv_g2 _ (show (35 : Nat) ≠ 66 by decide), hv_g2 _ (show (35 : Nat) ≠ 86 by decide), hv_g2 _ (show (35 : Nat) ≠ 66 by decide), hv_g1]
          · rw [hv_g1]
          · rw [hv_g2 _ (show (36 : Nat) ≠ 66 by decide), hv_g2 _ (show (36 : Nat) ≠ 86 by decide), hv_g2 _ (show (36 : Nat) ≠ 66 by decide), hv_g2 _ (show (36 : Nat) ≠ 35 by decide), hv_g2 _ (show (86 : Nat) ≠ 66 by decide)]
            by_cases hin : i = n
            · subst hin
              rw [hv_g1, hv_g1]; exact ⟨k, hk2, rfl, rfl⟩
            · rw [hv_g3 _ _ hin, hv_g3 _ _ hin, hv_g2 _ (show (86 : Nat) ≠ 66 by decide), hv_g2 _ (show (86 : Nat) ≠ 35 by decide), hv_g2 _ (show (86 : Nat) ≠ 36 by decide)]; exact l3 i (by omega)
          · rw [G 64 i (by decide) (by decide) (by decide) (by decide), G 94 i (by decide) (by decide) (by decide) (by decide)]; exact r3 i hi
          · rw [G 65 i (by decide) (by decide) (by decide) (by decide), G 82 i (by decide) (by decide) (by decide) (by decide)]; exact rf i hi
      · refine ⟨-6, am_sI σ 65 6 (σ.1 65 6 + 1), _, ?_, ?_, hv_inv_refuse (n := 6) hi (hv_Sm.rfl' σ) (s2 _)⟩
        · rw [if_neg c]
          exact R6 σ
        · have e : (am_sI (am_sI σ 65 6 (σ.1 65 6 + 1)) 66 22 0).1 66 28 = 96 := by
            rw [hv_g3 _ _ (show (28 : Nat) ≠ 22 by decide), hv_g2 _ (show (66 : Nat) ≠ 65 by decide), l2, show n = 96 by omega]; rfl
          rw [if_pos e]
          exact R7 _
  · simp only [if_neg h0]
    refine ⟨-4, am_sI σ 65 4 (σ.1 65 4 + 1), _, ?_, ?_, hv_inv_refuse (n := 4) hi (hv_Sm.rfl' σ) (s2 _)⟩
    · rw [show (-4 : Int32) = -(hI 4) from rfl, hv_X_refuse (by decide)]; rfl
    · rw [show (-4 : Int32) = -(hI 4) from rfl, hv_M_refuse (by decide)]; rfl
