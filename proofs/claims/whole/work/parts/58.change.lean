/-! PURE: deed, unfact, chance, says -/
def hv_Fd (σ τ : am_St) : Prop := ∀ i j, hv_scr i j = false → hv_hd i = false → τ.1 i j = σ.1 i j
def hv_Fm (σ τ : am_St) : Prop := ∀ i j, hv_scr i j = false → hv_hm i j = false → τ.1 i j = σ.1 i j
theorem hv_Fd.rfl' (σ : am_St) : hv_Fd σ σ := fun _ _ _ _ => rfl
theorem hv_Fm.rfl' (σ : am_St) : hv_Fm σ σ := fun _ _ _ _ => rfl
theorem hv_Fd.set {σ τ : am_St} (h : hv_Fd σ τ) {a b : Nat} (x : Int32) (e : hv_scr a b = true ∨ hv_hd a = true) : hv_Fd σ (am_sI τ a b x) := by
  intro i j h1 h2
  by_cases c : i = a
  · subst c
    by_cases c2 : j = b
    · subst c2
      rcases e with e | e
      · rw [h1] at e; cases e
      · rw [h2] at e; cases e
    · rw [hv_g3 _ _ c2]; exact h i j h1 h2
  · rw [hv_g2 _ c]; exact h i j h1 h2
theorem hv_Fm.set {σ τ : am_St} (h : hv_Fm σ τ) {a b : Nat} (x : Int32) (e : hv_scr a b = true ∨ hv_hm a b = true) : hv_Fm σ (am_sI τ a b x) := by
  intro i j h1 h2
  by_cases c : i = a
  · subst c
    by_cases c2 : j = b
    · subst c2
      rcases e with e | e
      · rw [h1] at e; cases e
      · rw [h2] at e; cases e
    · rw [hv_g3 _ _ c2]; exact h i j h1 h2
  · rw [hv_g2 _ c]; exact h i j h1 h2
theorem hv_Fd.mod {h : hv} {σ τ : am_St} (f : hv_Fd σ τ) (m : hv_mod h σ) : hv_mod h τ := m.hd f
def hv_deedTo (h : hv) (r m : Nat) : hv := hv.mk h.R h.M h.C r m h.F h.S h.door h.kind h.fig h.tie h.skill h.place h.chance h.fc h.fm h.fr h.fi h.sp h.sc h.sm h.sr
theorem hv_deedTo_ok {h : hv} (ok : hv_ok h) {r m : Nat} (hr : r < h.R) (hm : m < h.M) : hv_ok (hv_deedTo h r m) := hv_ok.mk (fR := ok.R) (fM := ok.M) (fC := ok.C) (fdr := hr) (fdm := hm) (fF := ok.F) (fS := ok.S) (fdoor := ok.door) (fsym := ok.sym) (fkind := ok.kind) (fplace := ok.place) (fchance := ok.chance) (ffact := ok.fact) (fsay := ok.say)
theorem hv_deedTo_some {h : hv} (so : hv_some h) (r m : Nat) : hv_some (hv_deedTo h r m) := hv_some_same (g := hv_deedTo h r m) (h := h) rfl rfl rfl rfl rfl rfl rfl rfl rfl so
theorem hv_deedTo_dev {b : Nat} {h : hv} {σ : am_St} (d : hv_dev b h σ) (r m : Nat) : hv_dev b (hv_deedTo h r m) (am_sI (am_sI σ b 3 (hI r)) b 4 (hI m)) := by
  have G : ∀ i j, (i = b → j ≠ 3 ∧ j ≠ 4) → (am_sI (am_sI σ b 3 (hI r)) b 4 (hI m)).1 i j = σ.1 i j := fun i j e => by
    by_cases c : i = b
    · subst c; rw [hv_g3 _ _ (e rfl).2, hv_g3 _ _ (e rfl).1]
    · rw [hv_g2 _ c, hv_g2 _ c]
  exact hv_dev.mk (fR := (G _ _ (by omega)).trans d.R) (fM := (G _ _ (by omega)).trans d.M) (fC := (G _ _ (by omega)).trans d.C) (fdr := by rw [hv_g3 _ _ (by decide), hv_g1]; rfl) (fdm := by rw [hv_g1]; rfl) (fF := (G _ _ (by omega)).trans d.F) (fS := (G _ _ (by omega)).trans d.S) (fdoor := fun r hr => (G _ _ (by omega)).trans (d.door r hr)) (fkind := fun r hr => (G _ _ (by omega)).trans (d.kind r hr)) (ffig := fun r hr => (G _ _ (by omega)).trans (d.fig r hr)) (ftie := fun r hr => (G _ _ (by omega)).trans (d.tie r hr)) (fskill := fun r hr => (G _ _ (by omega)).trans (d.skill r hr)) (fplace := fun r hr k hk => (G _ _ (by omega)).trans (d.place r hr k hk)) (fchance := fun r hr => (G _ _ (by omega)).trans (d.chance r hr)) (ffact := fun r hr => (G _ _ (by omega)).trans (d.fact r hr)) (fsay := fun r hr => (G _ _ (by omega)).trans (d.say r hr))
theorem hv_deedTo_mod {h : hv} {σ : am_St} (d : hv_mod h σ) (r m : Nat) : hv_mod (hv_deedTo h r m) (am_sI (am_sI σ 66 5 (hI r)) 66 6 (hI m)) := by
  have G : ∀ i j, (i = 66 → j ≠ 5 ∧ j ≠ 6) → (am_sI (am_sI σ 66 5 (hI r)) 66 6 (hI m)).1 i j = σ.1 i j := fun i j e => by
    by_cases c : i = 66
    · subst c; rw [hv_g3 _ _ (e rfl).2, hv_g3 _ _ (e rfl).1]
    · rw [hv_g2 _ c, hv_g2 _ c]
  exact hv_mod.mk (fR := (G _ _ (by omega)).trans d.R) (fM := (G _ _ (by omega)).trans d.M) (fC := (G _ _ (by omega)).trans d.C) (fF := (G _ _ (by omega)).trans d.F) (fS := (G _ _ (by omega)).trans d.S) (fdr := by rw [hv_g3 _ _ (by decide), hv_g1]; rfl) (fdm := by rw [hv_g1]; rfl) (fdoor := fun r hr => (G _ _ (by omega)).trans (d.door r hr)) (fkind := fun r hr => (G _ _ (by omega)).trans (d.kind r hr)) (ffig := fun r hr => (G _ _ (by omega)).trans (d.fig r hr)) (ftie := fun r hr => (G _ _ (by omega)).trans (d.tie r hr)) (fskill := fun r hr => (G _ _ (by omega)).trans (d.skill r hr)) (fplace := fun r hr k hk => (G _ _ (by omega)).trans (d.place r hr k hk)) (fchance := fun r hr => (G _ _ (by omega)).trans (d.chance r hr)) (ffc := fun r hr => (G _ _ (by omega)).trans (d.fc r hr)) (ffm := fun r hr => (G _ _ (by omega)).trans (d.fm r hr)) (ffr := fun r hr => (G _ _ (by omega)).trans (d.fr r hr)) (ffi := fun r hr => (G _ _ (by omega)).trans (d.fi r hr)) (fsp := fun r hr => (G _ _ (by omega)).trans (d.sp r hr)) (fsc := fun r hr => (G _ _ (by omega)).trans (d.sc r hr)) (fsm := fun r hr => (G _ _ (by omega)).trans (d.sm r hr)) (fsr := fun r hr => (G _ _ (by omega)).trans (d.sr r hr))
theorem hv_st_deed : st_deed hv_inv := by
  intro σ hi a b
  obtain ⟨h, H⟩ := hi.at
  have kR := H.ok.R
  have kM := H.ok.M
  rcases hv_rng_cases a H.R31 with c1 | ⟨r, hr, rfl, c1⟩
  · refine hv_qry hi H 1 (-1) (hv_refX (by decide) ?_) (fun τ T _ => ?_)
    · simp only [eq_X_deed, g_X_deed, eq_X_deed_22, g_X_deed_22, eq_X_deed_36, g_X_deed_36, H.hasRoom, c1, Option.bind_some, ↓reduceIte, hv_10, hv_01, hI_00, hI_10, hv_X_r1, hv_X_r2, hv_X_r3, hv_X_r4, hv_X_r6, hv_M_r1, hv_M_r2, hv_M_r3, hv_M_r4, hv_M_r6]
    · refine hv_thr ?_
      rw [eq_M_deed]; unfold g_M_deed
      replace T := T.thrown
      generalize am_sI τ 66 22 0 = τ at T ⊢
      dsimp only
      refine hv_refM (by decide) ?_
      simp only [eq_M_deedComes, g_M_deedComes, T.isRoom, c1, eq_M_deedComes_20, g_M_deedComes_20, eq_M_deedComes_21, g_M_deedComes_21, show ((0 : Int32) &&& 1 = 0) = True from eq_true rfl, Option.bind_some, ↓reduceIte, hv_10, hv_01, hI_00, hI_10, hv_X_r1, hv_X_r2, hv_X_r3, hv_X_r4, hv_X_r6, hv_M_r1, hv_M_r2, hv_M_r3, hv_M_r4, hv_M_r6]
  rcases hv_rng_cases b H.M31 with c2 | ⟨m, hm, rfl, c2⟩
  · refine hv_qry hi H 1 (-1) (hv_refX (by decide) ?_) (fun τ T _ => ?_)
    · simp only [eq_X_deed, g_X_deed, eq_X_deed_22, g_X_deed_22, eq_X_deed_36, g_X_deed_36, H.hasRoom, H.hasMinute, c1, c2, Option.bind_some, ↓reduceIte, hv_10, hv_01, hI_00, hI_10, hv_X_r1, hv_X_r2, hv_X_r3, hv_X_r4, hv_X_r6, hv_M_r1, hv_M_r2, hv_M_r3, hv_M_r4, hv_M_r6]
    · refine hv_thr ?_
      rw [eq_M_deed]; unfold g_M_deed
      replace T := T.thrown
      generalize am_sI τ 66 22 0 = τ at T ⊢
      dsimp only
      refine hv_refM (by decide) ?_
      simp only [eq_M_deedComes, g_M_deedComes, T.isRoom, T.isMinute, c1, c2, eq_M_deedComes_20, g_M_deedComes_20, eq_M_deedComes_21, g_M_deedComes_21, show ((0 : Int32) &&& 1 = 0) = True from eq_true rfl, Option.bind_some, ↓reduceIte, hv_10, hv_01, hI_00, hI_10, hv_X_r1, hv_X_r2, hv_X_r3, hv_X_r4, hv_X_r6, hv_M_r1, hv_M_r2, hv_M_r3, hv_M_r4, hv_M_r6]
  · refine hv_chg hi (hv_deedTo_ok H.ok hr hm) (hv_deedTo_some H.so r m) (10 * hI h.dr + hI h.dm) ⟨_, ?_, hv_deedTo_dev H.d r m, ((hv_Fd.rfl' σ).set _ (.inr rfl)).set _ (.inr rfl)⟩ (fun τ F => ?_)
    · simp only [eq_X_deed, g_X_deed, H.hasRoom, H.hasMinute, c1, c2, eq_H_deedInOne_1, g_H_deedInOne_1, eq_X_deed_36, g_X_deed_36, eq_H_putDeed_1, g_H_putDeed_1, Option.bind_some, ↓reduceIte, hv_10, hv_01, hI_00, hI_10, hv_X_r1, hv_X_r2, hv_X_r3, hv_X_r4, hv_X_r6, hv_M_r1, hv_M_r2, hv_M_r3, hv_M_r4, hv_M_r6]
      rw [show σ.1 1 3 = hI h.dr from H.d.dr, show σ.1 1 4 = hI h.dm from H.d.dm]
    · have m1 := (hv_Fd.mod F H.m).thrown
      refine ⟨am_sI (am_sI (am_sI τ 66 22 0) 66 5 (hI r)) 66 6 (hI m), ?_, hv_deedTo_mod m1 r m, (((hv_Fm.rfl' τ).set _ (.inl rfl)).set _ (.inr rfl)).set _ (.inr rfl)⟩
      simp only [eq_M_deed, g_M_deed, eq_M_deedComes, g_M_deedComes, m1.isRoom H.ok, m1.isMinute H.ok, c1, c2, eq_M_deedComes_21, g_M_deedComes_21, show ((1 : Int32) &&& 1 = 1) = True from eq_true rfl, Option.bind_some, ↓reduceIte, hv_10, hv_01, hI_00, hI_10, hv_X_r1, hv_X_r2, hv_X_r3, hv_X_r4, hv_X_r6, hv_M_r1, hv_M_r2, hv_M_r3, hv_M_r4, hv_M_r6]
      rw [m1.dr, m1.dm]
def hv_setF (h : hv) (n : Nat) : hv := hv.mk h.R h.M h.C h.dr h.dm n h.S h.door h.kind h.fig h.tie h.skill h.place h.chance h.fc h.fm h.fr h.fi h.sp h.sc h.sm h.sr
theorem hv_setF_ok {h : hv} (ok : hv_ok h) {n : Nat} (hn : n ≤ h.F) : hv_ok (hv_setF h n) := hv_ok.mk (fR := ok.R) (fM := ok.M) (fC := ok.C) (fdr := ok.dr) (fdm := ok.dm) (fF := Nat.le_trans hn ok.F) (fS := ok.S) (fdoor := ok.door) (fsym := ok.sym) (fkind := ok.kind) (fplace := ok.place) (fchance := ok.chance) (ffact := fun i hi => ok.fact i (Nat.lt_of_lt_of_le hi hn)) (fsay := ok.say)
theorem hv_setF_some {h : hv} (so : hv_some h) {n : Nat} (hn : n ≤ h.F) : hv_some (hv_setF h n) := by
  intro c hc
  have k := so c hc
  have e : hv_all h (hv_may h c) ≤ hv_all h (hv_may (hv_setF h n) c) := hv_all_mono fun m r q => by
    unfold hv_may at q ⊢
    rw [List.all_eq_true] at q ⊢
    intro i hi
    exact q i (List.mem_range.mpr (Nat.lt_of_lt_of_le (List.mem_range.mp hi) hn))
  have e2 : hv_all (hv_setF h n) (hv_may (hv_setF h n) c) = hv_all h (hv_may (hv_setF h n) c) := by
    rw [hv_all_eq, hv_all_eq]
    exact hv_sum_congr fun r _ => hv_cnt_same (g := hv_setF h n) (h := h) _ rfl rfl _ r
  omega
theorem hv_setF_dev {b : Nat} {h : hv} {σ : am_St} (d : hv_dev b h σ) {n : Nat} (hn : n ≤ h.F) : hv_dev b (hv_setF h n) (am_sI σ b 5 (hI n)) := by
  have G : ∀ i j, (i = b → j ≠ 5) → (am_sI σ b 5 (hI n)).1 i j = σ.1 i j := fun i j e => by
    by_cases c : i = b
    · subst c; rw [hv_g3 _ _ (e rfl)]
    · rw [hv_g2 _ c]
  exact hv_dev.mk (fR := (G _ _ (by omega)).trans d.R) (fM := (G _ _ (by omega)).trans d.M) (fC := (G _ _ (by omega)).trans d.C) (fdr := (G _ _ (by omega)).trans d.dr) (fdm := (G _ _ (by omega)).trans d.dm) (fF := by rw [hv_g1]; rfl) (fS := (G _ _ (by omega)).trans d.S) (fdoor := fun r hr => (G _ _ (by omega)).trans (d.door r hr)) (fkind := fun r hr => (G _ _ (by omega)).trans (d.kind r hr)) (ffig := fun r hr => (G _ _ (by omega)).trans (d.fig r hr)) (ftie := fun r hr => (G _ _ (by omega)).trans (d.tie r hr)) (fskill := fun r hr => (G _ _ (by omega)).trans (d.skill r hr)) (fplace := fun r hr k hk => (G _ _ (by omega)).trans (d.place r hr k hk)) (fchance := fun r hr => (G _ _ (by omega)).trans (d.chance r hr)) (ffact := fun i hi => (G _ _ (by omega)).trans (d.fact i (Nat.lt_of_lt_of_le hi hn))) (fsay := fun r hr => (G _ _ (by omega)).trans (d.say r hr))
theorem hv_setF_mod {h : hv} {σ : am_St} (d : hv_mod h σ) {n : Nat} (hn : n ≤ h.F) : hv_mod (hv_setF h n) (am_sI σ 66 3 (hI n)) := by
  have G : ∀ i j, (i = 66 → j ≠ 3) → (am_sI σ 66 3 (hI n)).1 i j = σ.1 i j := fun i j e => by
    by_cases c : i = 66
    · subst c; rw [hv_g3 _ _ (e rfl)]
    · rw [hv_g2 _ c]
  exact hv_mod.mk (fR := (G _ _ (by omega)).trans d.R) (fM := (G _ _ (by omega)).trans d.M) (fC := (G _ _ (by omega)).trans d.C) (fF := by rw [hv_g1]; rfl) (fS := (G _ _ (by omega)).trans d.S) (fdr := (G _ _ (by omega)).trans d.dr) (fdm := (G _ _ (by omega)).trans d.dm) (fdoor := fun r hr => (G _ _ (by omega)).trans (d.door r hr)) (fkind := fun r hr => (G _ _ (by omega)).trans (d.kind r hr)) (ffig := fun r hr => (G _ _ (by omega)).trans (d.fig r hr)) (ftie := fun r hr => (G _ _ (by omega)).trans (d.tie r hr)) (fskill := fun r hr => (G _ _ (by omega)).trans (d.skill r hr)) (fplace := fun r hr k hk => (G _ _ (by omega)).trans (d.place r hr k hk)) (fchance := fun r hr => (G _ _ (by omega)).trans (d.chance r hr)) (ffc := fun i hi => (G _ _ (by omega)).trans (d.fc i (Nat.lt_of_lt_of_le hi hn))) (ffm := fun i hi => (G _ _ (by omega)).trans (d.fm i (Nat.lt_of_lt_of_le hi hn))) (ffr := fun i hi => (G _ _ (by omega)).trans (d.fr i (Nat.lt_of_lt_of_le hi hn))) (ffi := fun i hi => (G _ _ (by omega)).trans (d.fi i (Nat.lt_of_lt_of_le hi hn))) (fsp := fun r hr => (G _ _ (by omega)).trans (d.sp r hr)) (fsc := fun r hr => (G _ _ (by omega)).trans (d.sc r hr)) (fsm := fun r hr => (G _ _ (by omega)).trans (d.sm r hr)) (fsr := fun r hr => (G _ _ (by omega)).trans (d.sr r hr))
theorem hv_dropFact {h : hv} {σ : am_St} (d : hv_dev 1 h σ) (ok : hv_ok h) (hF : 0 < h.F) : f_H_dropFact_1 σ = some (am_sI σ 1 5 (hI (h.F - 1))) := by
  have kF := ok.F
  rw [eq_H_dropFact_1]; unfold g_H_dropFact_1
  rw [d.F, show hI h.F - 1 = hI (h.F - 1) from hI_sub (m := 1) hF, hv_mmax0 (by omega)]
theorem hv_st_unfact : st_unfact hv_inv := by
  intro σ hi
  obtain ⟨h, H⟩ := hi.at
  have kF := H.ok.F
  have D1 : σ.1 1 5 = hI h.F := H.d.F
  by_cases c : h.F = 0
  · refine hv_qry hi H 3 (-3) (hv_refX (by decide) ?_) (fun τ T _ => ?_)
    · simp only [eq_X_unfact, g_X_unfact, D1, c, Option.bind_some, ↓reduceIte, hv_10, hv_01, hI_00, hI_10, hv_X_r1, hv_X_r2, hv_X_r3, hv_X_r4, hv_X_r6, hv_M_r1, hv_M_r2, hv_M_r3, hv_M_r4, hv_M_r6]
    · refine hv_thr ?_
      rw [eq_M_unfact]; unfold g_M_unfact
      replace T := T.thrown
      generalize am_sI τ 66 22 0 = τ at T ⊢
      dsimp only
      refine hv_refM (by decide) ?_
      rw [T.m.F, c]
      simp only [Option.bind_some, ↓reduceIte, hv_10, hv_01, hI_00, hI_10, hv_X_r1, hv_X_r2, hv_X_r3, hv_X_r4, hv_X_r6, hv_M_r1, hv_M_r2, hv_M_r3, hv_M_r4, hv_M_r6]
  · refine hv_chg hi (hv_setF_ok H.ok (n := h.F - 1) (by omega)) (hv_setF_some H.so (by omega)) (hI (h.F - 1)) ⟨am_sI σ 1 5 (hI (h.F - 1)), ?_, hv_setF_dev H.d (by omega), (hv_Fd.rfl' σ).set _ (.inr rfl)⟩ (fun τ F => ?_)
    · rw [eq_X_unfact]; unfold g_X_unfact
      rw [D1, if_neg (hI_ne0 (by omega) c), hv_dropFact H.d H.ok (by omega)]
      simp only [Option.bind_some, hv_g1]
    · have m1 := (hv_Fd.mod F H.m).thrown
      refine ⟨am_sI (am_sI τ 66 22 0) 66 3 (hI (h.F - 1)), ?_, hv_setF_mod m1 (by omega), ((hv_Fm.rfl' τ).set _ (.inl rfl)).set _ (.inr rfl)⟩
      rw [eq_M_unfact]; unfold g_M_unfact
      dsimp only
      rw [m1.F, if_neg (hI_ne0 (by omega) c), show hI h.F - 1 = hI (h.F - 1) from hI_sub (m := 1) (by omega), hv_g1]
def hv_setC (h : hv) (k v : Nat) : hv := hv.mk h.R h.M h.C h.dr h.dm h.F h.S h.door h.kind h.fig h.tie h.skill h.place (fun i => if i = k then v else h.chance i) h.fc h.fm h.fr h.fi h.sp h.sc h.sm h.sr
theorem hv_setC_ok {h : hv} (ok : hv_ok h) (k : Nat) {v : Nat} (hv' : v < 100) : hv_ok (hv_setC h k v) := hv_ok.mk (fR := ok.R) (fM := ok.M) (fC := ok.C) (fdr := ok.dr) (fdm := ok.dm) (fF := ok.F) (fS := ok.S) (fdoor := ok.door) (fsym := ok.sym) (fkind := ok.kind) (fplace := ok.place) (fchance := fun i hi => by show (if i = k then v else h.chance i) < 100; split; exact hv'; exact ok.chance i hi) (ffact := ok.fact) (fsay := ok.say)
theorem hv_setC_some {h : hv} (so : hv_some h) (k v : Nat) : hv_some (hv_setC h k v) := hv_some_same (g := hv_setC h k v) (h := h) rfl rfl rfl rfl rfl rfl rfl rfl rfl so
theorem hv_setC_dev {h : hv} {σ : am_St} (d : hv_dev 1 h σ) (k v : Nat) : hv_dev 1 (hv_setC h k v) (am_sI σ 8 k (hI v)) := by
  have G : ∀ i j, i ≠ 8 → (am_sI σ 8 k (hI v)).1 i j = σ.1 i j := fun i j e => by rw [hv_g2 _ e]
  exact hv_dev.mk (fR := (G _ _ (by omega)).trans d.R) (fM := (G _ _ (by omega)).trans d.M) (fC := (G _ _ (by omega)).trans d.C) (fdr := (G _ _ (by omega)).trans d.dr) (fdm := (G _ _ (by omega)).trans d.dm) (fF := (G _ _ (by omega)).trans d.F) (fS := (G _ _ (by omega)).trans d.S) (fdoor := fun r hr => (G _ _ (by omega)).trans (d.door r hr)) (fkind := fun r hr => (G _ _ (by omega)).trans (d.kind r hr)) (ffig := fun r hr => (G _ _ (by omega)).trans (d.fig r hr)) (ftie := fun r hr => (G _ _ (by omega)).trans (d.tie r hr)) (fskill := fun r hr => (G _ _ (by omega)).trans (d.skill r hr)) (fplace := fun r hr k hk => (G _ _ (by omega)).trans (d.place r hr k hk)) (fchance := fun i hi => by show (am_sI σ 8 k (hI v)).1 8 i = hI (if i = k then v else h.chance i); by_cases c : i = k; rw [c, hv_g1, if_pos rfl]; rw [hv_g3 _ _ c, if_neg c]; exact d.chance i hi) (ffact := fun r hr => (G _ _ (by omega)).trans (d.fact r hr)) (fsay := fun r hr => (G _ _ (by omega)).trans (d.say r hr))
theorem hv_setC_mod {h : hv} {σ : am_St} (d : hv_mod h σ) (k v : Nat) : hv_mod (hv_setC h k v) (am_sI σ 77 k (hI v)) := by
  have G : ∀ i j, i ≠ 77 → (am_sI σ 77 k (hI v)).1 i j = σ.1 i j := fun i j e => by rw [hv_g2 _ e]
  exact hv_mod.mk (fR := (G _ _ (by omega)).trans d.R) (fM := (G _ _ (by omega)).trans d.M) (fC := (G _ _ (by omega)).trans d.C) (fF := (G _ _ (by omega)).trans d.F) (fS := (G _ _ (by omega)).trans d.S) (fdr := (G _ _ (by omega)).trans d.dr) (fdm := (G _ _ (by omega)).trans d.dm) (fdoor := fun r hr => (G _ _ (by omega)).trans (d.door r hr)) (fkind := fun r hr => (G _ _ (by omega)).trans (d.kind r hr)) (ffig := fun r hr => (G _ _ (by omega)).trans (d.fig r hr)) (ftie := fun r hr => (G _ _ (by omega)).trans (d.tie r hr)) (fskill := fun r hr => (G _ _ (by omega)).trans (d.skill r hr)) (fplace := fun r hr k hk => (G _ _ (by omega)).trans (d.place r hr k hk)) (fchance := fun i hi => by show (am_sI σ 77 k (hI v)).1 77 i = hI (if i = k then v else h.chance i); by_cases c : i = k; rw [c, hv_g1, if_pos rfl]; rw [hv_g3 _ _ c, if_neg c]; exact d.chance i hi) (ffc := fun r hr => (G _ _ (by omega)).trans (d.fc r hr)) (ffm := fun r hr => (G _ _ (by omega)).trans (d.fm r hr)) (ffr := fun r hr => (G _ _ (by omega)).trans (d.fr r hr)) (ffi := fun r hr => (G _ _ (by omega)).trans (d.fi r hr)) (fsp := fun r hr => (G _ _ (by omega)).trans (d.sp r hr)) (fsc := fun r hr => (G _ _ (by omega)).trans (d.sc r hr)) (fsm := fun r hr => (G _ _ (by omega)).trans (d.sm r hr)) (fsr := fun r hr => (G _ _ (by omega)).trans (d.sr r hr))
theorem hv_st_chance : st_chance hv_inv := by
  intro σ hi x v
  obtain ⟨h, H⟩ := hi.at
  by_cases c4 : 4 ≤ x ∧ x ≤ 6
  · obtain ⟨k, hk, rfl⟩ := hI_of (Int32.le_trans (show (0 : Int32) ≤ 4 by decide) c4.1)
    have k4 : 4 ≤ k := (hI_le (n := 4) (by decide) hk).mp c4.1
    have k6 : k ≤ 6 := (hI_le (m := 6) hk (by decide)).mp c4.2
    have l4 : ¬ hI k < 4 := hI_nlt (m := 4) (by omega) (by decide) k4
    have l7 : hI k < 7 := (hI_lt (m := 7) hk (by decide)).mpr (by omega)
    have l7' : ¬ (7 : Int32) ≤ hI k := hI_nge7 (by omega)
    have ds : hI k - 4 = hI (k - 4) := hI_sub (m := 4) k4
    have ix : am_ix (hI (k - 4)) 3 = true := hI_ix (by omega) (by decide)
    have cl : (hI (k - 4)).toNatClampNeg = k - 4 := hI_clamp (by omega)
    have D1 : σ.1 8 (k - 4) = hI (h.chance (k - 4)) := H.d.chance _ (by omega)
    rcases hv_num v 99 (by decide) 99 rfl with ⟨n1, n2⟩ | ⟨n1, n2, n3, n4⟩ | ⟨y, hy, rfl, n1, n2, n3, n4⟩
    · refine hv_qry hi H 4 (-4) (hv_refX (by decide) ?_) (fun τ T _ => ?_)
      · simp only [eq_X_chance, g_X_chance, eq_X_chance_11, g_X_chance_11, l4, l7, n1, Option.bind_some, ↓reduceIte, hv_10, hv_01, hI_00, hI_10, hv_X_r1, hv_X_r2, hv_X_r3, hv_X_r4, hv_X_r6, hv_M_r1, hv_M_r2, hv_M_r3, hv_M_r4, hv_M_r6]
      · refine hv_thr ?_
        rw [eq_M_chance]; unfold g_M_chance
        replace T := T.thrown
        generalize am_sI τ 66 22 0 = τ at T ⊢
        dsimp only
        refine hv_refM (by decide) ?_
        simp only [eq_M_chance, g_M_chance, eq_M_chance_30, g_M_chance_30, hv_M_46, c4, and_self, n1, eq_M_wrongNumber, g_M_wrongNumber, Option.bind_some, ↓reduceIte, hv_10, hv_01, hI_00, hI_10, hv_X_r1, hv_X_r2, hv_X_r3, hv_X_r4, hv_X_r6, hv_M_r1, hv_M_r2, hv_M_r3, hv_M_r4, hv_M_r6, show ¬ ((0 : Int32) ≤ -4) by decide]
    · refine hv_qry hi H 6 (-6) (hv_refX (by decide) ?_) (fun τ T _ => ?_)
      · simp only [eq_X_chance, g_X_chance, eq_X_chance_11, g_X_chance_11, l4, l7, n1, n3, Option.bind_some, ↓reduceIte, hv_10, hv_01, hI_00, hI_10, hv_X_r1, hv_X_r2, hv_X_r3, hv_X_r4, hv_X_r6, hv_M_r1, hv_M_r2, hv_M_r3, hv_M_r4, hv_M_r6]
      · refine hv_thr ?_
        rw [eq_M_chance]; unfold g_M_chance
        replace T := T.thrown
        generalize am_sI τ 66 22 0 = τ at T ⊢
        dsimp only
        refine hv_refM (by decide) ?_
        simp only [eq_M_chance, g_M_chance, eq_M_chance_30, g_M_chance_30, hv_M_46, c4, and_self, n1, n3, eq_M_wrongNumber, g_M_wrongNumber, Option.bind_some, ↓reduceIte, hv_10, hv_01, hI_00, hI_10, hv_X_r1, hv_X_r2, hv_X_r3, hv_X_r4, hv_X_r6, hv_M_r1, hv_M_r2, hv_M_r3, hv_M_r4, hv_M_r6, show ¬ ((0 : Int32) ≤ -6) by decide]
    · refine hv_chg hi (hv_setC_ok H.ok (k - 4) (v := y) (by omega)) (hv_setC_some H.so _ _) (hI (h.chance (k - 4))) ⟨_, ?_, hv_setC_dev H.d (k - 4) y, (hv_Fd.rfl' σ).set _ (.inr rfl)⟩ (fun τ F => ?_)
      · simp only [eq_X_chance, g_X_chance, eq_X_chance_11, g_X_chance_11, l4, l7, n1, n3, eq_H_chanceOf_1, g_H_chanceOf_1, eq_H_putChance_1, g_H_putChance_1, l7', ds, ix, cl, D1, Option.bind_some, ↓reduceIte, hv_10, hv_01, hI_00, hI_10, hv_X_r1, hv_X_r2, hv_X_r3, hv_X_r4, hv_X_r6, hv_M_r1, hv_M_r2, hv_M_r3, hv_M_r4, hv_M_r6]
      · have m1 := (hv_Fd.mod F H.m).thrown
        refine ⟨am_sI (am_sI τ 66 22 0) 77 (k - 4) (hI y), ?_, hv_setC_mod m1 (k - 4) y, ((hv_Fm.rfl' τ).set _ (.inl rfl)).set _ (.inr rfl)⟩
        simp only [eq_M_chance, g_M_chance, eq_M_chance_30, g_M_chance_30, hv_M_46, c4, and_self, n1, n3, eq_M_wrongNumber, g_M_wrongNumber, ds, ix, cl, show ((0 : Int32) ≤ 0) = True from eq_true (by decide), Option.bind_some, ↓reduceIte, hv_10, hv_01, hI_00, hI_10, hv_X_r1, hv_X_r2, hv_X_r3, hv_X_r4, hv_X_r6, hv_M_r1, hv_M_r2, hv_M_r3, hv_M_r4, hv_M_r6]
        rw [m1.chance _ (by omega)]
  · refine hv_qry hi H 1 (-1) (hv_refX (by decide) ?_) (fun τ T _ => ?_)
    · by_cases l4 : x < 4
      · simp only [eq_X_chance, g_X_chance, eq_X_chance_11, g_X_chance_11, l4, Option.bind_some, ↓reduceIte, hv_10, hv_01, hI_00, hI_10, hv_X_r1, hv_X_r2, hv_X_r3, hv_X_r4, hv_X_r6, hv_M_r1, hv_M_r2, hv_M_r3, hv_M_r4, hv_M_r6]
      · have l7 : ¬ x < 7 := fun e => c4 ⟨Int32.not_lt.mp l4, by
          obtain ⟨k, hk, rfl⟩ := hI_of (Int32.le_trans (show (0 : Int32) ≤ 4 by decide) (Int32.not_lt.mp l4))
          have := (hI_lt (m := 7) hk (by decide)).mp e
          exact (hI_le (m := 6) hk (by decide)).mpr (by omega)⟩
        simp only [eq_X_chance, g_X_chance, eq_X_chance_11, g_X_chance_11, l4, l7, Option.bind_some, ↓reduceIte, hv_10, hv_01, hI_00, hI_10, hv_X_r1, hv_X_r2, hv_X_r3, hv_X_r4, hv_X_r6, hv_M_r1, hv_M_r2, hv_M_r3, hv_M_r4, hv_M_r6]
    · refine hv_thr ?_
      rw [eq_M_chance]; unfold g_M_chance
      replace T := T.thrown
      generalize am_sI τ 66 22 0 = τ at T ⊢
      dsimp only
      refine hv_refM (by decide) ?_
      simp only [eq_M_chance, g_M_chance, eq_M_chance_30, g_M_chance_30, hv_M_46, c4, Option.bind_some, ↓reduceIte, hv_10, hv_01, hI_00, hI_10, hv_X_r1, hv_X_r2, hv_X_r3, hv_X_r4, hv_X_r6, hv_M_r1, hv_M_r2, hv_M_r3, hv_M_r4, hv_M_r6, show ¬ ((0 : Int32) ≤ -1) by decide]
def hv_addS (h : hv) (p c m r : Nat) : hv := hv.mk h.R h.M h.C h.dr h.dm h.F (h.S + 1) h.door h.kind h.fig h.tie h.skill h.place h.chance h.fc h.fm h.fr h.fi (fun i => if i = h.S then p else h.sp i) (fun i => if i = h.S then c else h.sc i) (fun i => if i = h.S then m else h.sm i) (fun i => if i = h.S then r else h.sr i)
theorem hv_addS_ok {h : hv} (ok : hv_ok h) {p c m r : Nat} (hS : h.S < 8) (hp : p < h.C) (hc : c < h.C) (hm : m < h.M) (hr : r < h.R) : hv_ok (hv_addS h p c m r) := hv_ok.mk (fR := ok.R) (fM := ok.M) (fC := ok.C) (fdr := ok.dr) (fdm := ok.dm) (fF := ok.F) (fS := hS) (fdoor := ok.door) (fsym := ok.sym) (fkind := ok.kind) (fplace := ok.place) (fchance := ok.chance) (ffact := ok.fact) (fsay := fun i hi => by
  show (if i = h.S then p else h.sp i) < h.C ∧ (if i = h.S then c else h.sc i) < h.C ∧ (if i = h.S then m else h.sm i) < h.M ∧ (if i = h.S then r else h.sr i) < h.R
  by_cases q : i = h.S
  · rw [if_pos q, if_pos q, if_pos q, if_pos q]; exact ⟨hp, hc, hm, hr⟩
  · rw [if_neg q, if_neg q, if_neg q, if_neg q]; exact ok.say i (by have : i < h.S + 1 := hi; omega))
theorem hv_addS_dev {h : hv} {σ : am_St} (d : hv_dev 1 h σ) (p c m r : Nat) : hv_dev 1 (hv_addS h p c m r) (am_sI (am_sI σ 10 h.S (hI (hv_mark c m r p))) 1 6 (hI (h.S + 1))) := by
  have G : ∀ i j, i ≠ 10 → (i = 1 → j ≠ 6) → (am_sI (am_sI σ 10 h.S (hI (hv_mark c m r p))) 1 6 (hI (h.S + 1))).1 i j = σ.1 i j := fun i j e e2 => by
    by_cases q : i = 1
    · subst q; rw [hv_g3 _ _ (e2 rfl), hv_g2 _ e]
    · rw [hv_g2 _ q, hv_g2 _ e]
  have G' : ∀ i j, i ≠ 10 ∧ (i = 1 → j ≠ 6) → (am_sI (am_sI σ 10 h.S (hI (hv_mark c m r p))) 1 6 (hI (h.S + 1))).1 i j = σ.1 i j := fun i j e => G i j e.1 e.2
  exact hv_dev.mk (fR := (G' _ _ (by omega)).trans d.R) (fM := (G' _ _ (by omega)).trans d.M) (fC := (G' _ _ (by omega)).trans d.C) (fdr := (G' _ _ (by omega)).trans d.dr) (fdm := (G' _ _ (by omega)).trans d.dm) (fF := (G' _ _ (by omega)).trans d.F) (fS := by rw [hv_g1]; rfl) (fdoor := fun r hr => (G' _ _ (by omega)).trans (d.door r hr)) (fkind := fun r hr => (G' _ _ (by omega)).trans (d.kind r hr)) (ffig := fun r hr => (G' _ _ (by omega)).trans (d.fig r hr)) (ftie := fun r hr => (G' _ _ (by omega)).trans (d.tie r hr)) (fskill := fun r hr => (G' _ _ (by omega)).trans (d.skill r hr)) (fplace := fun r hr k hk => (G' _ _ (by omega)).trans (d.place r hr k hk)) (fchance := fun r hr => (G' _ _ (by omega)).trans (d.chance r hr)) (ffact := fun r hr => (G' _ _ (by omega)).trans (d.fact r hr)) (fsay := fun i hi => by
    show (am_sI (am_sI σ 10 h.S (hI (hv_mark c m r p))) 1 6 (hI (h.S + 1))).1 10 i = hI (hv_mark (if i = h.S then c else h.sc i) (if i = h.S then m else h.sm i) (if i = h.S then r else h.sr i) (if i = h.S then p else h.sp i))
    rw [hv_g2 _ (show (10 : Nat) ≠ 1 by decide)]
    by_cases q : i = h.S
    · rw [if_pos q, if_pos q, if_pos q, if_pos q, q, hv_g1]
    · rw [if_neg q, if_neg q, if_neg q, if_neg q, hv_g3 _ _ q]; exact d.say i (by have : i < h.S + 1 := hi; omega))
theorem hv_addS_mod {h : hv} {σ : am_St} (d : hv_mod h σ) (p c m r : Nat) : hv_mod (hv_addS h p c m r) (am_sI (am_sI (am_sI (am_sI (am_sI σ 78 h.S (hI p)) 79 h.S (hI c)) 80 h.S (hI m)) 81 h.S (hI r)) 66 4 (hI (h.S + 1))) := by
  have G : ∀ i j, i ≠ 78 ∧ i ≠ 79 ∧ i ≠ 80 ∧ i ≠ 81 ∧ (i = 66 → j ≠ 4) → (am_sI (am_sI (am_sI (am_sI (am_sI σ 78 h.S (hI p)) 79 h.S (hI c)) 80 h.S (hI m)) 81 h.S (hI r)) 66 4 (hI (h.S + 1))).1 i j = σ.1 i j := fun i j ⟨e1, e2, e3, e4, e5⟩ => by
    by_cases q : i = 66
    · subst q; rw [hv_g3 _ _ (e5 rfl), hv_g2 _ e4, hv_g2 _ e3, hv_g2 _ e2, hv_g2 _ e1]
    · rw [hv_g2 _ q, hv_g2 _ e4, hv_g2 _ e3, hv_g2 _ e2, hv_g2 _ e1]
  refine hv_mod.mk (fR := (G _ _ (by omega)).trans d.R) (fM := (G _ _ (by omega)).trans d.M) (fC := (G _ _ (by omega)).trans d.C) (fF := (G _ _ (by omega)).trans d.F) (fS := by rw [hv_g1]; rfl) (fdr := (G _ _ (by omega)).trans d.dr) (fdm := (G _ _ (by omega)).trans d.dm) (fdoor := fun r hr => (G _ _ (by omega)).trans (d.door r hr)) (fkind := fun r hr => (G _ _ (by omega)).trans (d.kind r hr)) (ffig := fun r hr => (G _ _ (by omega)).trans (d.fig r hr)) (ftie := fun r hr => (G _ _ (by omega)).trans (d.tie r hr)) (fskill := fun r hr => (G _ _ (by omega)).trans (d.skill r hr)) (fplace := fun r hr k hk => (G _ _ (by omega)).trans (d.place r hr k hk)) (fchance := fun r hr => (G _ _ (by omega)).trans (d.chance r hr)) (ffc := fun r hr => (G _ _ (by omega)).trans (d.fc r hr)) (ffm := fun r hr => (G _ _ (by omega)).trans (d.fm r hr)) (ffr := fun r hr => (G _ _ (by omega)).trans (d.fr r hr)) (ffi := fun r hr => (G _ _ (by omega)).trans (d.fi r hr)) (fsp := fun i hi => ?_) (fsc := fun i hi => ?_) (fsm := fun i hi => ?_) (fsr := fun i hi => ?_)
  · show _ = hI (if i = h.S then p else h.sp i)
    rw [hv_g2 _ (show (78 : Nat) ≠ 66 by decide), hv_g2 _ (show (78 : Nat) ≠ 81 by decide), hv_g2 _ (show (78 : Nat) ≠ 80 by decide), hv_g2 _ (show (78 : Nat) ≠ 79 by decide)]
    by_cases q : i = h.S
    · rw [if_pos q, q, hv_g1]
    · rw [if_neg q, hv_g3 _ _ q]; exact d.sp i (by have : i < h.S + 1 := hi; omega)
  · show _ = hI (if i = h.S then c else h.sc i)
    rw [hv_g2 _ (show (79 : Nat) ≠ 66 by decide), hv_g2 _ (show (79 : Nat) ≠ 81 by decide), hv_g2 _ (show (79 : Nat) ≠ 80 by decide)]
    by_cases q : i = h.S
    · rw [if_pos q, q, hv_g1]
    · rw [if_neg q, hv_g3 _ _ q, hv_g2 _ (show (79 : Nat) ≠ 78 by decide)]; exact d.sc i (by have : i < h.S + 1 := hi; omega)
  · show _ = hI (if i = h.S then m else h.sm i)
    rw [hv_g2 _ (show (80 : Nat) ≠ 66 by decide), hv_g2 _ (show (80 : Nat) ≠ 81 by decide)]
    by_cases q : i = h.S
    · rw [if_pos q, q, hv_g1]
    · rw [if_neg q, hv_g3 _ _ q, hv_g2 _ (show (80 : Nat) ≠ 79 by decide), hv_g2 _ (show (80 : Nat) ≠ 78 by decide)]; exact d.sm i (by have : i < h.S + 1 := hi; omega)
  · show _ = hI (if i = h.S then r else h.sr i)
    rw [hv_g2 _ (show (81 : Nat) ≠ 66 by decide)]
    by_cases q : i = h.S
    · rw [if_pos q, q, hv_g1]
    · rw [if_neg q, hv_g3 _ _ q, hv_g2 _ (show (81 : Nat) ≠ 80 by decide), hv_g2 _ (show (81 : Nat) ≠ 79 by decide), hv_g2 _ (show (81 : Nat) ≠ 78 by decide)]; exact d.sr i (by have : i < h.S + 1 := hi; omega)
theorem hv_H_mark {c m r x : Nat} (hc : c < 4) (hm : m < 6) (hr : r < 4) (hx : x < 4) (σ : am_St) : f_H_mark (hI c) (hI m) (hI r) (hI x) σ = some (hI (hv_mark c m r x), σ) := by
  rw [eq_H_mark]; unfold g_H_mark
  rw [show (9 : Int32) &&& 31 = 9 from rfl, show (6 : Int32) &&& 31 = 6 from rfl, show (3 : Int32) &&& 31 = 3 from rfl, hv_mark_mark c hc m hm r hr x hx]
theorem hv_st_says : st_says hv_inv := by
  intro σ hi p c m r
  obtain ⟨h, H⟩ := hi.at
  have kC := H.ok.C
  have kR := H.ok.R
  have kM := H.ok.M
  have kS := H.ok.S
  rcases hv_rng_cases p H.C31 with c1 | ⟨p, hp, rfl, c1⟩
  · refine hv_qry hi H 1 (-1) (hv_refX (by decide) ?_) (fun τ T _ => ?_)
    · simp only [eq_X_says, g_X_says, eq_X_says_32, g_X_says_32, eq_X_says_38, g_X_says_38, H.hasChild, c1, Option.bind_some, ↓reduceIte, hv_10, hv_01, hI_00, hI_10, hv_X_r1, hv_X_r2, hv_X_r3, hv_X_r4, hv_X_r6, hv_M_r1, hv_M_r2, hv_M_r3, hv_M_r4, hv_M_r6]
    · refine hv_thr ?_
      rw [eq_M_says]; unfold g_M_says
      replace T := T.thrown
      generalize am_sI τ 66 22 0 = τ at T ⊢
      dsimp only
      refine hv_refM (by decide) ?_
      simp only [eq_M_says, g_M_says, eq_M_says_101, g_M_says_101, eq_M_says_21, g_M_says_21, eq_M_says_38, g_M_says_38, eq_M_says_53, g_M_says_53, eq_M_says_60, g_M_says_60, T.isChild, c1, Option.bind_some, ↓reduceIte, hv_10, hv_01, hI_00, hI_10, hv_X_r1, hv_X_r2, hv_X_r3, hv_X_r4, hv_X_r6, hv_M_r1, hv_M_r2, hv_M_r3, hv_M_r4, hv_M_r6]
  rcases hv_rng_cases c H.C31 with c2 | ⟨c, hc, rfl, c2⟩
  · refine hv_qry hi H 1 (-1) (hv_refX (by decide) ?_) (fun τ T _ => ?_)
    · simp only [eq_X_says, g_X_says, eq_X_says_32, g_X_says_32, eq_X_says_38, g_X_says_38, H.hasChild, hv_X_point H, c1, c2, Option.bind_some, ↓reduceIte, hv_10, hv_01, hI_00, hI_10, hv_X_r1, hv_X_r2, hv_X_r3, hv_X_r4, hv_X_r6, hv_M_r1, hv_M_r2, hv_M_r3, hv_M_r4, hv_M_r6]
    · refine hv_thr ?_
      rw [eq_M_says]; unfold g_M_says
      replace T := T.thrown
      generalize am_sI τ 66 22 0 = τ at T ⊢
      dsimp only
      refine hv_refM (by decide) ?_
      simp only [eq_M_says, g_M_says, eq_M_says_101, g_M_says_101, eq_M_says_21, g_M_says_21, eq_M_says_38, g_M_says_38, eq_M_says_53, g_M_says_53, eq_M_says_60, g_M_says_60, T.isChild, c1, c2, Option.bind_some, ↓reduceIte, hv_10, hv_01, hI_00, hI_10, hv_X_r1, hv_X_r2, hv_X_r3, hv_X_r4, hv_X_r6, hv_M_r1, hv_M_r2, hv_M_r3, hv_M_r4, hv_M_r6]
  rcases hv_rng_cases m H.M31 with c3 | ⟨m, hm, rfl, c3⟩
  · refine hv_qry hi H 1 (-1) (hv_refX (by decide) ?_) (fun τ T _ => ?_)
    · simp only [eq_X_says, g_X_says, eq_X_says_32, g_X_says_32, eq_X_says_38, g_X_says_38, H.hasChild, hv_X_point H, c1, c2, c3, Option.bind_some, ↓reduceIte, hv_10, hv_01, hI_00, hI_10, hv_X_r1, hv_X_r2, hv_X_r3, hv_X_r4, hv_X_r6, hv_M_r1, hv_M_r2, hv_M_r3, hv_M_r4, hv_M_r6]
    · refine hv_thr ?_
      rw [eq_M_says]; unfold g_M_says
      replace T := T.thrown
      generalize am_sI τ 66 22 0 = τ at T ⊢
      dsimp only
      refine hv_refM (by decide) ?_
      simp only [eq_M_says, g_M_says, eq_M_says_101, g_M_says_101, eq_M_says_21, g_M_says_21, eq_M_says_38, g_M_says_38, eq_M_says_53, g_M_says_53, eq_M_says_60, g_M_says_60, T.isChild, T.isMinute, c1, c2, c3, Option.bind_some, ↓reduceIte, hv_10, hv_01, hI_00, hI_10, hv_X_r1, hv_X_r2, hv_X_r3, hv_X_r4, hv_X_r6, hv_M_r1, hv_M_r2, hv_M_r3, hv_M_r4, hv_M_r6]
  rcases hv_rng_cases r H.R31 with c4 | ⟨r, hr, rfl, c4⟩
  · refine hv_qry hi H 1 (-1) (hv_refX (by decide) ?_) (fun τ T _ => ?_)
    · simp only [eq_X_says, g_X_says, eq_X_says_32, g_X_says_32, eq_X_says_38, g_X_says_38, H.hasChild, hv_X_point H, H.hasRoom, c1, c2, c3, c4, Option.bind_some, ↓reduceIte, hv_10, hv_01, hI_00, hI_10, hv_X_r1, hv_X_r2, hv_X_r3, hv_X_r4, hv_X_r6, hv_M_r1, hv_M_r2, hv_M_r3, hv_M_r4, hv_M_r6]
    · refine hv_thr ?_
      rw [eq_M_says]; unfold g_M_says
      replace T := T.thrown
      generalize am_sI τ 66 22 0 = τ at T ⊢
      dsimp only
      refine hv_refM (by decide) ?_
      simp only [eq_M_says, g_M_says, eq_M_says_101, g_M_says_101, eq_M_says_21, g_M_says_21, eq_M_says_38, g_M_says_38, eq_M_says_53, g_M_says_53, eq_M_says_60, g_M_says_60, T.isChild, T.isMinute, T.isRoom, c1, c2, c3, c4, Option.bind_some, ↓reduceIte, hv_10, hv_01, hI_00, hI_10, hv_X_r1, hv_X_r2, hv_X_r3, hv_X_r4, hv_X_r6, hv_M_r1, hv_M_r2, hv_M_r3, hv_M_r4, hv_M_r6]
  by_cases f : h.S = 8
  · have n8 : ¬ hI h.S < 8 := hI_nlt (m := 8) (by omega) (by decide) (by omega)
    refine hv_qry hi H 6 (-6) (hv_refX (by decide) ?_) (fun τ T _ => ?_)
    · simp only [eq_X_says, g_X_says, eq_X_says_32, g_X_says_32, eq_X_says_38, g_X_says_38, H.hasChild, hv_X_point H, H.hasRoom, c1, c2, c3, c4, show σ.1 1 6 = hI h.S from H.d.S, n8, Option.bind_some, ↓reduceIte, hv_10, hv_01, hI_00, hI_10, hv_X_r1, hv_X_r2, hv_X_r3, hv_X_r4, hv_X_r6, hv_M_r1, hv_M_r2, hv_M_r3, hv_M_r4, hv_M_r6]
    · refine hv_thr ?_
      rw [eq_M_says]; unfold g_M_says
      replace T := T.thrown
      generalize am_sI τ 66 22 0 = τ at T ⊢
      dsimp only
      refine hv_refM (by decide) ?_
      simp only [eq_M_says, g_M_says, eq_M_says_101, g_M_says_101, eq_M_says_21, g_M_says_21, eq_M_says_38, g_M_says_38, eq_M_says_53, g_M_says_53, eq_M_says_60, g_M_says_60, T.isChild, T.isMinute, T.isRoom, c1, c2, c3, c4, show τ.1 66 4 = 8 by rw [T.m.S, f]; rfl, Option.bind_some, ↓reduceIte, hv_10, hv_01, hI_00, hI_10, hv_X_r1, hv_X_r2, hv_X_r3, hv_X_r4, hv_X_r6, hv_M_r1, hv_M_r2, hv_M_r3, hv_M_r4, hv_M_r6]
  · have n8 : hI h.S < 8 := (hI_lt (m := 8) (by omega) (by decide)).mpr (by omega)
    refine hv_chg hi (hv_addS_ok H.ok (by omega) hp hc hm hr) (hv_some_same (g := hv_addS h p c m r) (h := h) rfl rfl rfl rfl rfl rfl rfl rfl rfl H.so) (hI h.S) ⟨_, ?_, hv_addS_dev H.d p c m r, ((hv_Fd.rfl' σ).set _ (.inr rfl)).set _ (.inr rfl)⟩ (fun τ F => ?_)
    · simp only [eq_X_says, g_X_says, eq_X_says_32, g_X_says_32, eq_X_says_38, g_X_says_38, H.hasChild, hv_X_point H, H.hasRoom, c1, c2, c3, c4, show σ.1 1 6 = hI h.S from H.d.S, n8, Option.bind_some, ↓reduceIte, hv_10, hv_01, hI_00, hI_10, hv_X_r1, hv_X_r2, hv_X_r3, hv_X_r4, hv_X_r6, hv_M_r1, hv_M_r2, hv_M_r3, hv_M_r4, hv_M_r6]
      rw [eq_H_addSaying_1]; unfold g_H_addSaying_1
      rw [show σ.1 1 6 = hI h.S from H.d.S, if_neg (hI_lt0 (by omega)), if_neg (hI_nge8 (by omega)), hv_H_mark (by omega) (by omega) (by omega) (by omega)]
      simp only [Option.bind_some]
      rw [if_pos (hI_ix (by omega) (by decide)), hI_clamp (by omega), hv_g2 _ (show (1 : Nat) ≠ 10 by decide), show σ.1 1 6 = hI h.S from H.d.S, hI_add1]
      simp only [Option.bind_some]
      rw [hv_g1, show hI (h.S + 1) - 1 = hI h.S from hI_sub (n := h.S + 1) (m := 1) (by omega)]
    · have m1 := (hv_Fd.mod F H.m).thrown
      have n8' : ¬ hI h.S = 8 := hI_ne8 (by omega) f
      refine ⟨am_sI (am_sI (am_sI (am_sI (am_sI (am_sI τ 66 22 0) 78 h.S (hI p)) 79 h.S (hI c)) 80 h.S (hI m)) 81 h.S (hI r)) 66 4 (hI (h.S + 1)), ?_, hv_addS_mod m1 p c m r, ((((((hv_Fm.rfl' τ).set _ (.inl rfl)).set _ (.inr rfl)).set _ (.inr rfl)).set _ (.inr rfl)).set _ (.inr rfl)).set _ (.inr rfl)⟩
      have ix : am_ix (hI h.S) 8 = true := hI_ix (by omega) (by decide)
      have cl : (hI h.S).toNatClampNeg = h.S := hI_clamp (by omega)
      simp only [eq_M_says, g_M_says, eq_M_says_21, g_M_says_21, m1.isChild H.ok, m1.isMinute H.ok, m1.isRoom H.ok, c1, c2, c3, c4, m1.S, n8', Option.bind_some, ↓reduceIte, hv_10, hv_01, hI_00, hI_10, hv_X_r1, hv_X_r2, hv_X_r3, hv_X_r4, hv_X_r6, hv_M_r1, hv_M_r2, hv_M_r3, hv_M_r4, hv_M_r6]
      rw [eq_M_says_60]; unfold g_M_says_60
      rw [m1.S, if_pos ix, cl]
      dsimp only
      rw [hv_g2 _ (show (66 : Nat) ≠ 78 by decide), m1.S, if_pos ix, cl, hv_g2 _ (show (66 : Nat) ≠ 79 by decide), hv_g2 _ (show (66 : Nat) ≠ 78 by decide), m1.S, if_pos ix, cl, hv_g2 _ (show (66 : Nat) ≠ 80 by decide), hv_g2 _ (show (66 : Nat) ≠ 79 by decide), hv_g2 _ (show (66 : Nat) ≠ 78 by decide), m1.S, if_pos ix, cl, eq_M_says_101]
      unfold g_M_says_101
      dsimp only
      rw [hv_g2 _ (show (66 : Nat) ≠ 81 by decide), hv_g2 _ (show (66 : Nat) ≠ 80 by decide), hv_g2 _ (show (66 : Nat) ≠ 79 by decide), hv_g2 _ (show (66 : Nat) ≠ 78 by decide), m1.S, hI_add1, hv_g1, show hI (h.S + 1) - 1 = hI h.S from hI_sub (n := h.S + 1) (m := 1) (by omega)]
