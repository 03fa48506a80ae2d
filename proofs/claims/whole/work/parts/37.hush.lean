/-! PURE: ranges; hush -/
/-- is a in 0 .. n - 1, as a number of the class -/
def hv_rng (a : Int32) (n : Nat) : Int32 := if 0 ≤ a ∧ a < hI n then 1 else 0
theorem hv_rng_01 (a : Int32) (n : Nat) : hv_rng a n &&& 1 = hv_rng a n := by unfold hv_rng; split <;> rfl
theorem hv_rng_eq (a : Int32) (n : Nat) (σ : am_St) : (if a < 0 then some ((0 : Int32), σ) else if hI n ≤ a then some (0, σ) else some (1, σ)) = some (hv_rng a n, σ) := by
  unfold hv_rng
  by_cases h : a < 0
  · rw [if_pos h, if_neg (fun e => Int32.not_le.mpr h e.1)]
  · rw [if_neg h]
    by_cases h2 : hI n ≤ a
    · rw [if_pos h2, if_neg (fun e => Int32.not_le.mpr e.2 h2)]
    · rw [if_neg h2, if_pos ⟨Int32.not_lt.mp h, Int32.not_le.mp h2⟩]
theorem hv_rng_in {a : Int32} {n : Nat} (hn : n < 2 ^ 31) (h : ¬ hv_rng a n = 0) : ∃ k, k < n ∧ a = hI k := by
  unfold hv_rng at h
  split at h
  · rename_i q
    obtain ⟨k, hk, rfl⟩ := hI_of q.1
    exact ⟨k, (hI_lt hk hn).mp q.2, rfl⟩
  · exact absurd rfl h
theorem hv_dev.hasRoom {h : hv} {σ : am_St} (d : hv_dev 1 h σ) (x : Int32) : f_H_hasRoom_1 x σ = some (hv_rng x h.R, σ) := by
  rw [eq_H_hasRoom_1]; unfold g_H_hasRoom_1; rw [d.R]; exact hv_rng_eq _ _ _
theorem hv_dev.hasMinute {h : hv} {σ : am_St} (d : hv_dev 1 h σ) (x : Int32) : f_H_hasMinute_1 x σ = some (hv_rng x h.M, σ) := by
  rw [eq_H_hasMinute_1]; unfold g_H_hasMinute_1; rw [d.M]; exact hv_rng_eq _ _ _
theorem hv_dev.hasChild {h : hv} {σ : am_St} (d : hv_dev 1 h σ) (x : Int32) : f_H_hasChild_1 x σ = some (hv_rng x h.C, σ) := by
  rw [eq_H_hasChild_1]; unfold g_H_hasChild_1; rw [d.C]; exact hv_rng_eq _ _ _
theorem hv_cnt_same {g h : hv} (may : Nat → Nat → Bool) (eR : g.R = h.R) (eD : g.door = h.door) : ∀ m r, hv_cnt g may m r = hv_cnt h may m r := by
  have es : ∀ r q, hv_step g r q = hv_step h r q := fun r q => by unfold hv_step; rw [eD]
  intro m
  induction m with
  | zero => intro r; rw [hv_cnt, hv_cnt]
  | succ m ih => intro r; rw [hv_cnt, hv_cnt, eR]; simp only [es, ih]
theorem hv_some_same {g h : hv} (eR : g.R = h.R) (eM : g.M = h.M) (eC : g.C = h.C) (eD : g.door = h.door) (eF : g.F = h.F) (e1 : g.fc = h.fc) (e2 : g.fm = h.fm) (e3 : g.fr = h.fr) (e4 : g.fi = h.fi) (x : hv_some h) : hv_some g := by
  intro c hc
  have em : hv_may g c = hv_may h c := by funext m r; unfold hv_may; rw [eF, e1, e2, e3, e4]
  have := x c (eC ▸ hc)
  unfold hv_all at this ⊢
  rw [eR, eM, em]
  simp only [hv_cnt_same (hv_may h c) eR eD]
  exact this
/-- the house with nothing said -/
def hv_quiet (h : hv) : hv := hv.mk h.R h.M h.C h.dr h.dm h.F 0 h.door h.kind h.fig h.tie h.skill h.place h.chance h.fc h.fm h.fr h.fi h.sp h.sc h.sm h.sr
theorem hv_quiet_ok {h : hv} (x : hv_ok h) : hv_ok (hv_quiet h) := hv_ok.mk
  (fR := x.R)
  (fM := x.M)
  (fC := x.C)
  (fdr := x.dr)
  (fdm := x.dm)
  (fF := x.F)
  (fS := Nat.zero_le _)
  (fdoor := x.door)
  (fsym := x.sym)
  (fkind := x.kind)
  (fplace := x.place)
  (fchance := x.chance)
  (ffact := x.fact)
  (fsay := fun i hi => absurd hi (Nat.not_lt_zero i))
theorem hv_st_hush : st_hush hv_inv := by
  intro σ hi
  obtain ⟨⟨h, ok, so, d, m⟩, im, ⟨n, hn, l1, l2, l3⟩, ⟨q, hq, r1, r2, r3⟩, rf⟩ := hi
  rw [eq_X_hush]
  refine ⟨hI h.S, am_sI σ 1 6 0, am_sI (am_sI (am_sI σ 1 6 0) 66 22 0) 66 4 0, ?_, ?_, ?_⟩
  · show some (σ.1 1 6, am_sI σ 1 6 0) = _
    rw [d.S]
  · rw [eq_M_hush]
    show some ((am_sI (am_sI σ 1 6 0) 66 22 0).1 66 4, _) = _
    rw [hv_g3 _ _ (show (4 : Nat) ≠ 22 by decide), hv_g2 _ (show (66 : Nat) ≠ 1 by decide), m.S]
  · have G : ∀ i j, i ≠ 1 → i ≠ 66 → (am_sI (am_sI (am_sI σ 1 6 0) 66 22 0) 66 4 0).1 i j = σ.1 i j := fun i j a1 a2 => by
      rw [hv_g2 _ a2, hv_g2 _ a2, hv_g2 _ a1]
    have G6 : ∀ j, j ≠ 22 → j ≠ 4 → (am_sI (am_sI (am_sI σ 1 6 0) 66 22 0) 66 4 0).1 66 j = σ.1 66 j := fun j a1 a2 => by
      rw [hv_g3 _ _ a2, hv_g3 _ _ a1, hv_g2 _ (show (66 : Nat) ≠ 1 by decide)]
    have G1 : ∀ j, j ≠ 6 → (am_sI (am_sI (am_sI σ 1 6 0) 66 22 0) 66 4 0).1 1 j = σ.1 1 j := fun j a1 => by
      rw [hv_g2 _ (show (1 : Nat) ≠ 66 by decide), hv_g2 _ (show (1 : Nat) ≠ 66 by decide), hv_g3 _ _ a1]
    refine ⟨⟨hv_quiet h, hv_quiet_ok ok, hv_some_same (g := hv_quiet h) (h := h) rfl rfl rfl rfl rfl rfl rfl rfl rfl so, ?_, ?_⟩, ?_, ⟨n, hn, (G 35 1 (by decide) (by decide)).trans l1, (G6 28 (by decide) (by decide)).trans l2, fun i hi => ?_⟩, ⟨q, hq, (G 0 7 (by decide) (by decide)).trans r1, (G6 46 (by decide) (by decide)).trans r2, fun i hi => ?_⟩, fun i hi => ?_⟩
    · exact hv_dev.mk (fR := (G1 0 (by decide)).trans d.R) (fM := (G1 1 (by decide)).trans d.M) (fC := (G1 2 (by decide)).trans d.C) (fdr := (G1 3 (by decide)).trans d.dr) (fdm := (G1 4 (by decide)).trans d.dm) (fF := (G1 5 (by decide)).trans d.F) (fS := by rw [hv_g2 _ (show (1 : Nat) ≠ 66 by decide), hv_g2 _ (show (1 : Nat) ≠ 66 by decide), hv_g1]; rfl) (fdoor := fun r hr => (G _ _ (by decide) (by decide)).trans (d.door r hr)) (fkind := fun r hr => (G _ _ (by decide) (by decide)).trans (d.kind r hr)) (ffig := fun r hr => (G _ _ (by decide) (by decide)).trans (d.fig r hr)) (ftie := fun r hr => (G _ _ (by decide) (by decide)).trans (d.tie r hr)) (fskill := fun r hr => (G _ _ (by decide) (by decide)).trans (d.skill r hr)) (fplace := fun r hr k hk => (G _ _ (by decide) (by decide)).trans (d.place r hr k hk)) (fchance := fun r hr => (G _ _ (by decide) (by decide)).trans (d.chance r hr)) (ffact := fun r hr => (G _ _ (by decide) (by decide)).trans (d.fact r hr)) (fsay := fun r hr => absurd hr (Nat.not_lt_zero r))
    · exact hv_mod.mk (fR := (G6 0 (by decide) (by decide)).trans m.R) (fM := (G6 1 (by decide) (by decide)).trans m.M) (fC := (G6 2 (by decide) (by decide)).trans m.C) (fF := (G6 3 (by decide) (by decide)).trans m.F) (fS := by rw [hv_g1]; rfl) (fdr := (G6 5 (by decide) (by decide)).trans m.dr) (fdm := (G6 6 (by decide) (by decide)).trans m.dm) (fdoor := fun r hr => (G _ _ (by decide) (by decide)).trans (m.door r hr)) (fkind := fun r hr => (G _ _ (by decide) (by decide)).trans (m.kind r hr)) (ffig := fun r hr => (G _ _ (by decide) (by decide)).trans (m.fig r hr)) (ftie := fun r hr => (G _ _ (by decide) (by decide)).trans (m.tie r hr)) (fskill := fun r hr => (G _ _ (by decide) (by decide)).trans (m.skill r hr)) (fplace := fun r hr k hk => (G _ _ (by decide) (by decide)).trans (m.place r hr k hk)) (fchance := fun r hr => (G _ _ (by decide) (by decide)).trans (m.chance r hr)) (ffc := fun r hr => (G _ _ (by decide) (by decide)).trans (m.fc r hr)) (ffm := fun r hr => (G _ _ (by decide) (by decide)).trans (m.fm r hr)) (ffr := fun r hr => (G _ _ (by decide) (by decide)).trans (m.fr r hr)) (ffi := fun r hr => (G _ _ (by decide) (by decide)).trans (m.fi r hr)) (fsp := fun r hr => absurd hr (Nat.not_lt_zero r)) (fsc := fun r hr => absurd hr (Nat.not_lt_zero r)) (fsm := fun r hr => absurd hr (Nat.not_lt_zero r)) (fsr := fun r hr => absurd hr (Nat.not_lt_zero r))
    · rw [G 0 2 (by decide) (by decide), G6 38 (by decide) (by decide)]
      rcases im with im | ⟨i1, i2, g, g1, g2, g3, g4⟩
      · exact .inl im
      · exact .inr ⟨i1, i2, g, g1, g2, g3.frame fun i j b1 b2 => G i j (by omega) (by omega), g4.frame fun j => G 91 j (by decide) (by decide)⟩
    · rw [G 36 i (by decide) (by decide), G 86 i (by decide) (by decide)]; exact l3 i hi
    · rw [G 64 i (by decide) (by decide), G 94 i (by decide) (by decide)]; exact r3 i hi
    · rw [G 65 i (by decide) (by decide), G 82 i (by decide) (by decide)]; exact rf i hi
