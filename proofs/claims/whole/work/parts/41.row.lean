/-! PURE: row -/
theorem hv_st_row : st_row hv_inv := by
  intro σ hi a
  obtain ⟨-, -, -, ⟨n, hn, l1, l2, l3⟩, -⟩ := id hi
  have s2 : ∀ x : am_St, hv_Sm x (am_sI x 66 22 0) := fun x => (hv_Sm.rfl' x).set 0 rfl
  rw [eq_X_row]
  simp only [eq_M_row]
  unfold g_X_row g_M_row
  have R6 : ∀ x : am_St, f_X_row_26 x = some (-6, am_sI x 65 6 (x.1 65 6 + 1)) := fun x => by
    rw [eq_X_row_26]; unfold g_X_row_26; rw [show (-6 : Int32) = -(hI 6) from rfl, hv_X_refuse (by decide)]; rfl
  have R7 : ∀ x : am_St, f_M_row_31 x = some (-6, am_sI x 82 6 (x.1 82 6 + 1)) := fun x => by
    rw [eq_M_row_31]; unfold g_M_row_31; rw [show (-6 : Int32) = -(hI 6) from rfl, hv_M_refuse (by decide)]; rfl
  by_cases h0 : 0 ≤ a
  · simp only [if_pos h0]
    by_cases h1 : 9 < a
    · simp only [if_pos h1]
      exact ⟨_, _, _, R6 σ, R7 _, hv_inv_refuse (n := 6) hi (hv_Sm.rfl' σ) (s2 _)⟩
    · simp only [if_neg h1]
      by_cases c : n < 12
      · refine ⟨hI (n + 1), am_sI (am_sI σ 64 n a) 0 7 (hI (n + 1)), am_sI (am_sI (am_sI (am_sI (am_sI σ 64 n a) 0 7 (hI (n + 1))) 66 22 0) 94 n a) 66 46 (hI (n + 1)), ?_, ?_, ?_⟩
        · rw [l1, if_pos (show hI n < 12 from (hI_lt (m := 12) (by omega) (by decide)).mpr c), if_pos (hI_ix c (by decide)), hI_clamp (by omega)]
          rw [hv_g2 _ (show (0 : Nat) ≠ 64 by decide), l1, hI_add1, hv_g1]
        · have e : (am_sI (am_sI (am_sI σ 64 n a) 0 7 (hI (n + 1))) 66 22 0).1 66 46 = hI n := by
            rw [hv_g3 _ _ (show (46 : Nat) ≠ 22 by decide), hv_g2 _ (show (66 : Nat) ≠ 0 by decide), hv_g2 _ (show (66 : Nat) ≠ 64 by decide)]; exact l2
          rw [e, if_neg (fun q => by have := (hI_inj (m := 12) (by omega) (by decide)).mp q; omega), if_pos (hI_ix c (by decide))]
          show f_M_row_58 _ = _
          rw [eq_M_row_58]
          unfold g_M_row_58
          rw [hI_clamp (by omega), hv_g2 _ (show (66 : Nat) ≠ 94 by decide), e, hI_add1, hv_g1]
        · obtain ⟨k, hk, rfl⟩ := hI_of h0
          have hk2 : k < 10 := by
            have : ¬ 9 < k := fun q => h1 ((hI_lt (n := 9) (by decide) hk).mpr q)
            omega
          obtain ⟨⟨h, ok, so, d, m⟩, im, ⟨q, hq, r1, r2, r3⟩, -, rf⟩ := hi
          have G : ∀ i j, i ≠ 64 → i ≠ 0 → i ≠ 66 → i ≠ 94 → (am_sI (am_sI (am_sI (am_sI (am_sI σ 64 n (hI k)) 0 7 (hI (n + 1))) 66 22 0) 94 n (hI k)) 66 46 (hI (n + 1))).1 i j = σ.1 i j := fun i j a1 a2 a3 a4 => by
            rw [hv_g2 _ a3, hv_g2 _ a4, hv_g2 _ a3, hv_g2 _ a2, hv_g2 _ a1]
          have G6 : ∀ j, j ≠ 22 → j ≠ 46 → (am_sI (am_sI (am_sI (am_sI (am_sI σ 64 n (hI k)) 0 7 (hI (n + 1))) 66 22 0) 94 n (hI k)) 66 46 (hI (n + 1))).1 66 j = σ.1 66 j := fun j a1 a2 => by
            rw [hv_g3 _ _ a2, hv_g2 _ (show (66 : Nat) ≠ 94 by decide), hv_g3 _ _ a1, hv_g2 _ (show (66 : Nat) ≠ 0 by decide), hv_g2 _ (show (66 : Nat) ≠ 64 by decide)]
          have G0 : (am_sI (am_sI (am_sI (am_sI (am_sI σ 64 n (hI k)) 0 7 (hI (n + 1))) 66 22 0) 94 n (hI k)) 66 46 (hI (n + 1))).1 0 2 = σ.1 0 2 := by
            rw [hv_g2 _ (show (0 : Nat) ≠ 66 by decide), hv_g2 _ (show (0 : Nat) ≠ 94 by decide), hv_g2 _ (show (0 : Nat) ≠ 66 by decide), hv_g3 _ _ (show (2 : Nat) ≠ 7 by decide), hv_g2 _ (show (0 : Nat) ≠ 64 by decide)]
          refine ⟨⟨h, ok, so, d.frame fun i j b1 b2 => G i j (by omega) (by omega) (by omega) (by omega), m.frame (fun j hj => G6 j (by omega) (by omega)) (fun i j b1 b2 => G i j (by omega) (by omega) (by omega) (by omega))⟩, ?_, ⟨q, hq, (G 35 1 (by decide) (by decide) (by decide) (by decide)).trans r1, (G6 28 (by decide) (by decide)).trans r2, fun i hi => ?_⟩, ⟨n + 1, by omega, ?_, ?_, fun i hi => ?_⟩, fun i hi => ?_⟩
          · rw [G0, G6 38 (by decide) (by decide)]
            rcases im with im | ⟨i1, i2, g, g1, g2, g3, g4⟩
            · exact .inl im
            · exact .inr ⟨i1, i2, g, g1, g2, g3.frame fun i j b1 b2 => G i j (by omega) (by omega) (by omega) (by omega), g4.frame fun j => G 91 j (by decide) (by decide) (by decide) (by decide)⟩
          · rw [G 36 i (by decide) (by decide) (by decide) (by decide), G 86 i (by decide) (by decide) (by decide) (by decide)]; exact r3 i hi
          · rw [hv_g2 _ (show (0 : Nat) ≠ 66 by decide), hv_g2 _ (show (0 : Nat) ≠ 94 by decide), hv_g2 _ (show (0 : Nat) ≠ 66 by decide), hv_g1]
          · rw [hv_g1]
          · rw [hv_g2 _ (show (64 : Nat) ≠ 66 by decide), hv_g2 _ (show (64 : Nat) ≠ 94 by decide), hv_g2 _ (show (64 : Nat) ≠ 66 by decide), hv_g2 _ (show (64 : Nat) ≠ 0 by decide), hv_g2 _ (show (94 : Nat) ≠ 66 by decide)]
            by_cases hin : i = n
            · subst hin
              rw [hv_g1, hv_g1]; exact ⟨k, hk2, rfl, rfl⟩
            · rw [hv_g3 _ _ hin, hv_g3 _ _ hin, hv_g2 _ (show (94 : Nat) ≠ 66 by decide), hv_g2 _ (show (94 : Nat) ≠ 0 by decide), hv_g2 _ (show (94 : Nat) ≠ 64 by decide)]; exact l3 i (by omega)
          · rw [G 65 i (by decide) (by decide) (by decide) (by decide), G 82 i (by decide) (by decide) (by decide) (by decide)]; exact rf i hi
      · refine ⟨-6, am_sI σ 65 6 (σ.1 65 6 + 1), _, ?_, ?_, hv_inv_refuse (n := 6) hi (hv_Sm.rfl' σ) (s2 _)⟩
        · rw [l1, if_neg (show ¬ hI n < 12 from fun e => c ((hI_lt (m := 12) (by omega) (by decide)).mp e))]
          exact R6 σ
        · have e : (am_sI (am_sI σ 65 6 (σ.1 65 6 + 1)) 66 22 0).1 66 46 = 12 := by
            rw [hv_g3 _ _ (show (46 : Nat) ≠ 22 by decide), hv_g2 _ (show (66 : Nat) ≠ 65 by decide), l2, show n = 12 by omega]; rfl
          rw [if_pos e]
          exact R7 _
  · simp only [if_neg h0]
    refine ⟨-4, am_sI σ 65 4 (σ.1 65 4 + 1), _, ?_, ?_, hv_inv_refuse (n := 4) hi (hv_Sm.rfl' σ) (s2 _)⟩
    · rw [show (-4 : Int32) = -(hI 4) from rfl, hv_X_refuse (by decide)]; rfl
    · rw [show (-4 : Int32) = -(hI 4) from rfl, hv_M_refuse (by decide)]; rfl
