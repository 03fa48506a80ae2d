/-! PURE: the model's house -/
theorem hv_Fq.tl {L : Nat → Nat} {mt j : Nat} {σ τ : am_St} (f : hv_Fq σ τ) (t : hv_tl L mt j σ) : hv_tl L mt j τ := ⟨by rw [f 87 j (by omega) (by omega) (by omega)]; exact t.1, by rw [f 88 j (by omega) (by omega) (by omega)]; exact t.2.1, fun i hi => by rw [f 89 _ (by omega) (by omega) (by omega)]; exact t.2.2.1 i hi, fun e => by rw [f 89 _ (by omega) (by omega) (by omega)]; exact t.2.2.2 e⟩
/-- the model does its statements -/
theorem hv_M_does {g0 : hv} {σ : am_St} {n : Nat} {L : Nat → Nat} (hn : n ≤ 96) (d : hv_mox g0 σ) (ok : hv_ok g0) (so : hv_some g0) (S0 : g0.S = 0) {K : Nat} (r : ∀ j, j < K → hv_rt L n (hv_pos L g0.M j).1 (hv_pos L g0.M j).2) (s32 : σ.1 66 32 = hI K) (tt : ∀ j, j < K → hv_tl L g0.M j σ) : ∀ k, k ≤ K → ∀ g, hv_run L g0.M g0 k = some g → ∃ τ, f_M_house_92 0 σ = am_lp (fun s : Int32 × am_St => b_M_house_92 s.1 s.2) (hI k, τ) ∧ hv_Fq σ τ ∧ hv_mox g τ ∧ (k < K → hv_MS τ (f_M_comes (hI k) τ) (hv_do g (L (hv_pos L g0.M k).1) (hv_dg L (hv_pos L g0.M k).1) (hv_sg L (hv_pos L g0.M k).1))) := by
  have kM := ok.M
  have geK := hv_pos_ge (L := L) (n := n) ok.M K r
  have K32 : K < 32 := by
    rcases geK.2 with q | q
    · omega
    · omega
  intro k
  induction k with
  | zero =>
    intro _ g e
    rw [hv_run_0] at e
    cases e
    refine ⟨σ, rfl, hv_Fq.rfl' _, d, fun hk => ?_⟩
    have t := tt 0 hk
    rw [hv_pos_0]
    have r0 := r 0 hk
    rw [hv_pos_0] at r0
    unfold hv_tl at t
    rw [hv_pos_0] at t
    exact hv_M_comes d ok (k := 0) (by decide) (hv_len_let r0.1) (hv_dg_10 L 0) (hv_sg_2 L 0) t.2.1 t.2.2.1 t.2.2.2
  | succ k ih =>
    intro hk g e
    rw [hv_run_s] at e
    obtain ⟨a, ea, e2⟩ := Option.bind_eq_some_iff.mp e
    obtain ⟨τ, e3, f, m, c⟩ := ih (by omega) a ea
    obtain ⟨υ, e4, f2, m2⟩ := c (by omega)
    rw [e2] at e4
    obtain ⟨o1, o2, o3, o4⟩ := hv_run_ok ok so S0 k (fun j hj => r j (by omega)) a ea
    have e5 : hv_run L g0.M g0 (k + 1) = some g := by rw [hv_run_s, ea]; exact e2
    obtain ⟨p1, p2, p3, p4⟩ := hv_run_ok ok so S0 (k + 1) (fun j hj => r j (by omega)) g e5
    have F := f.trans f2
    have mg := m2 g e2
    refine ⟨υ, ?_, F, mg, fun hk2 => ?_⟩
    · rw [e3]
      refine am_lp_inl ?_
      show b_M_house_92 (hI k) τ = _
      unfold b_M_house_92
      rw [f 66 32 (by omega) (by omega) (by omega), s32, if_neg (hI_nle (by omega) (by omega) (by omega)), e4]
      simp only [Option.bind_some]
      rw [if_neg (show ¬ (if (some g).isSome = true then (1 : Int32) else 0) = 0 from fun q => absurd (show (1 : Int32) = 0 from q) (by decide)), hI_add1]
    · have t := F.tl (tt (k + 1) hk2)
      have rk := r (k + 1) hk2
      unfold hv_tl at t
      rw [← p4] at t rk
      exact hv_M_comes mg p1 (k := k + 1) (by omega) (hv_len_let rk.1) (hv_dg_10 L _) (hv_sg_2 L _) t.2.1 t.2.2.1 t.2.2.2
theorem hv_no3 {i j : Nat} (a : hv_scr i j = false) (b : hv_hm i j = false) : (¬ (i = 66 ∧ (j < 7 ∨ j = 22 ∨ (29 ≤ j ∧ j ≤ 32) ∨ j = 39 ∨ j = 40))) ∧ ¬ (67 ≤ i ∧ i ≤ 81) ∧ ¬ (83 ≤ i ∧ i ≤ 85) ∧ i ≠ 87 ∧ i ≠ 88 ∧ i ≠ 89 ∧ i ≠ 90 := by
  refine ⟨?_, ?_, ?_, ?_, ?_, ?_, ?_⟩
  · rintro ⟨rfl, e⟩
    have e2 : j = 0 ∨ j = 1 ∨ j = 2 ∨ j = 3 ∨ j = 4 ∨ j = 5 ∨ j = 6 ∨ j = 22 ∨ j = 29 ∨ j = 30 ∨ j = 31 ∨ j = 32 ∨ j = 39 ∨ j = 40 := by omega
    rcases e2 with rfl | rfl | rfl | rfl | rfl | rfl | rfl | rfl | rfl | rfl | rfl | rfl | rfl | rfl
    · cases b
    · cases b
    · cases b
    · cases b
    · cases b
    · cases b
    · cases b
    · cases a
    · cases a
    · cases a
    · cases a
    · cases a
    · cases a
    · cases a
  · intro e
    have e2 : i = 67 ∨ i = 68 ∨ i = 69 ∨ i = 70 ∨ i = 71 ∨ i = 72 ∨ i = 73 ∨ i = 74 ∨ i = 75 ∨ i = 76 ∨ i = 77 ∨ i = 78 ∨ i = 79 ∨ i = 80 ∨ i = 81 := by omega
    rcases e2 with rfl | rfl | rfl | rfl | rfl | rfl | rfl | rfl | rfl | rfl | rfl | rfl | rfl | rfl | rfl <;> cases b
  · intro e
    have e2 : i = 83 ∨ i = 84 ∨ i = 85 := by omega
    rcases e2 with rfl | rfl | rfl <;> cases a
  · rintro rfl; cases a
  · rintro rfl; cases a
  · rintro rfl; cases a
  · rintro rfl; cases a
/-- the model's frame of house -/
def hv_FH (σ τ : am_St) : Prop := (∀ i j, hv_scr i j = false → hv_hm i j = false → ¬ (i = 66 ∧ j = 28) → τ.1 i j = σ.1 i j) ∧ τ.1 66 28 = 0
/-- house, read to the end -/
theorem hv_M_60 {h : hv} {σ : am_St} {n : Nat} {L : Nat → Nat} (hn : n ≤ 96) (m : hv_mod h σ) (ok : hv_ok h) (so : hv_some h) {K : Nat} (r : ∀ j, j < K → hv_rt L n (hv_pos L h.M j).1 (hv_pos L h.M j).2) (s30 : σ.1 66 30 = 0) (s32 : σ.1 66 32 = hI K) (tt : ∀ j, j < K → hv_tl L h.M j σ) : (∀ g, hv_run L h.M (hv_quiet h) K = some g → ∃ τ, f_M_house_60 σ = some (hI K, τ) ∧ hv_mod g τ ∧ hv_FH σ τ) ∧ (∀ k g, k < K → hv_run L h.M (hv_quiet h) k = some g → hv_do g (L (hv_pos L h.M k).1) (hv_dg L (hv_pos L h.M k).1) (hv_sg L (hv_pos L h.M k).1) = none → ∃ τ, f_M_house_60 σ = some (-2000 - hI (hv_pos L h.M k).1, τ) ∧ hv_mod h τ ∧ hv_FH σ τ) := by
  have okq := hv_quiet_ok ok
  have soq : hv_some (hv_quiet h) := hv_some_same (g := hv_quiet h) (h := h) rfl rfl rfl rfl rfl rfl rfl rfl rfl so
  have geK := hv_pos_ge (L := L) (n := n) ok.M K r
  have K32 : K < 32 := by
    rcases geK.2 with q | q
    · omega
    · omega
  have m1 : hv_mod h (am_sI σ 66 28 0) := m.frame (fun k hk => hv_g3 _ _ (by omega) _) (fun i k a b => by rw [hv_g2 _ (show i ≠ 66 by omega)])
  obtain ⟨σ1, e1, I⟩ := hv_carryAll_90 true (am_sI σ 66 28 0)
  have im := I.img ok m1
  have Y := I.yes rfl
  have m2 : hv_mod h σ1 := m1.frame (fun k hk => Y.1 66 k (by
      have e : k = 0 ∨ k = 1 ∨ k = 2 ∨ k = 3 ∨ k = 4 ∨ k = 5 ∨ k = 6 := by omega
      rcases e with rfl | rfl | rfl | rfl | rfl | rfl | rfl <;> rfl)) (fun i k a b => Y.1 i k (by
      have e : i = 67 ∨ i = 68 ∨ i = 69 ∨ i = 70 ∨ i = 71 ∨ i = 72 ∨ i = 73 ∨ i = 74 ∨ i = 75 ∨ i = 76 ∨ i = 77 ∨ i = 78 ∨ i = 79 ∨ i = 80 ∨ i = 81 := by omega
      rcases e with rfl | rfl | rfl | rfl | rfl | rfl | rfl | rfl | rfl | rfl | rfl | rfl | rfl | rfl | rfl <;> rfl))
  have mx : hv_mox (hv_quiet h) σ1 := hv_mox.mk m2.R m2.M m2.C m2.F m2.dr m2.dm m2.door m2.kind m2.fig m2.tie m2.skill m2.place m2.chance m2.fc m2.fm m2.fr m2.fi
  have G : ∀ i j, hv_hm i j = false → i ≠ 90 → ¬ (i = 66 ∧ (j = 28 ∨ j = 39 ∨ j = 40)) → σ1.1 i j = σ.1 i j := fun i j a b c => by
    rw [I.fr i j b (fun q => c ⟨q.1, by omega⟩) a]
    by_cases q : i = 66
    · subst q; rw [hv_g3 _ _ (by omega)]
    · rw [hv_g2 _ q]
  have t32 : σ1.1 66 32 = hI K := by rw [G 66 32 rfl (by decide) (by omega)]; exact s32
  have t28 : σ1.1 66 28 = 0 := by rw [I.fr 66 28 (by decide) (by omega) rfl, hv_g1]
  have tl1 : ∀ j, j < K → hv_tl L (hv_quiet h).M j σ1 := fun j hj => by
    have t := tt j hj
    have w : ∀ i k, i = 87 ∨ i = 88 ∨ i = 89 → σ1.1 i k = σ.1 i k := fun i k q => G i k (by rcases q with rfl | rfl | rfl <;> rfl) (by omega) (by omega)
    exact ⟨by rw [w 87 j (by omega)]; exact t.1, by rw [w 88 j (by omega)]; exact t.2.1, fun i hi => by rw [w 89 _ (by omega)]; exact t.2.2.1 i hi, fun e => by rw [w 89 _ (by omega)]; exact t.2.2.2 e⟩
  have ST : f_M_house_60 σ = f_M_house_92 0 σ1 := by
    rw [eq_M_house_60]; unfold g_M_house_60
    dsimp only
    rw [hv_g3 _ _ (show (30 : Nat) ≠ 28 by decide), s30, if_pos rfl]
    have : f_M_carryAll_90 1 (am_sI σ 66 28 0) = some σ1 := e1
    rw [this]; rfl
  have FH1 : ∀ i j, hv_scr i j = false → hv_hm i j = false → ¬ (i = 66 ∧ j = 28) → σ1.1 i j = σ.1 i j := fun i j a b c => by
    obtain ⟨z1, z2, z3, z4, z5, z6, z7⟩ := hv_no3 a b
    exact G i j b z7 (by omega)
  have FQ : ∀ {τ}, hv_Fq σ1 τ → ∀ i j, hv_scr i j = false → hv_hm i j = false → τ.1 i j = σ1.1 i j := fun {τ} f i j a b => by
    obtain ⟨z1, z2, z3, z4, z5, z6, z7⟩ := hv_no3 a b
    exact f i j (by omega) (fun q => z2 ⟨q.1, by omega⟩) (by omega)
  refine ⟨fun g eg => ?_, fun k g hk eg en => ?_⟩
  · obtain ⟨τ, e, f, mg, -⟩ := hv_M_does (g0 := hv_quiet h) hn mx okq soq rfl r t32 tl1 K (Nat.le_refl _) g eg
    obtain ⟨p1, p2, p3, p4⟩ := hv_run_ok (g0 := hv_quiet h) okq soq rfl K r g eg
    refine ⟨am_sI τ 66 4 0, ?_, ?_, fun i j a b c => ?_, ?_⟩
    · rw [ST, e]
      refine am_lp_inr (x := some (hI K, am_sI τ 66 4 0)) ?_
      show b_M_house_92 (hI K) τ = _
      unfold b_M_house_92
      rw [f 66 32 (by omega) (by omega) (by omega), t32, if_pos (Int32.le_refl _)]
      dsimp only
      rw [hv_g3 _ _ (show (32 : Nat) ≠ 4 by decide), f 66 32 (by omega) (by omega) (by omega), t32]; rfl
    · have A : ∀ k, k ≠ 4 → (am_sI τ 66 4 0).1 66 k = τ.1 66 k := fun k hk => hv_g3 _ _ hk _
      have B : ∀ i k, i ≠ 66 → (am_sI τ 66 4 0).1 i k = τ.1 i k := fun i k hi => by rw [hv_g2 _ hi]
      exact hv_mod.mk ((A _ (by decide)).trans mg.R) ((A _ (by decide)).trans mg.M) ((A _ (by decide)).trans mg.C) ((A _ (by decide)).trans mg.F) (by rw [hv_g1, p3]; rfl) ((A _ (by decide)).trans mg.dr) ((A _ (by decide)).trans mg.dm)
        (fun r hr => (B _ _ (by decide)).trans (mg.door r hr)) (fun r hr => (B _ _ (by decide)).trans (mg.kind r hr)) (fun r hr => (B _ _ (by decide)).trans (mg.fig r hr)) (fun r hr => (B _ _ (by decide)).trans (mg.tie r hr)) (fun r hr => (B _ _ (by decide)).trans (mg.skill r hr)) (fun r hr q hq => (B _ _ (by decide)).trans (mg.place r hr q hq)) (fun r hr => (B _ _ (by decide)).trans (mg.chance r hr)) (fun r hr => (B _ _ (by decide)).trans (mg.fc r hr)) (fun r hr => (B _ _ (by decide)).trans (mg.fm r hr)) (fun r hr => (B _ _ (by decide)).trans (mg.fr r hr)) (fun r hr => (B _ _ (by decide)).trans (mg.fi r hr))
        (fun r hr => absurd hr (by rw [p3]; omega)) (fun r hr => absurd hr (by rw [p3]; omega)) (fun r hr => absurd hr (by rw [p3]; omega)) (fun r hr => absurd hr (by rw [p3]; omega))
    · have z := (hv_no3 a b).1
      have e4 : (am_sI τ 66 4 0).1 i j = τ.1 i j := by
        by_cases q : i = 66
        · subst q; rw [hv_g3 _ _ (by omega)]
        · rw [hv_g2 _ q]
      rw [e4, FQ f i j a b, FH1 i j a b c]
    · rw [hv_g3 _ _ (by decide), f 66 28 (by omega) (by omega) (by omega)]; exact t28
  · obtain ⟨τ, e, f, mg, c⟩ := hv_M_does (g0 := hv_quiet h) hn mx okq soq rfl r t32 tl1 k (by omega) g eg
    obtain ⟨υ, e4, f2, -⟩ := c hk
    rw [show hv_do g (L (hv_pos L (hv_quiet h).M k).1) (hv_dg L (hv_pos L (hv_quiet h).M k).1) (hv_sg L (hv_pos L (hv_quiet h).M k).1) = none from en] at e4
    have F := f.trans f2
    obtain ⟨ω, e5, J⟩ := hv_carryAll_90 false υ
    have md := J.mod ok (im.frame fun k => F 90 k (by omega) (by omega) (by omega))
    have N := J.no rfl
    have r87 : ω.1 87 k = hI (hv_pos L h.M k).1 := by
      rw [J.fr 87 k (by decide) (by omega) rfl]
      exact (F.tl (tl1 k hk)).1
    refine ⟨ω, ?_, md, fun i j a b c => ?_, ?_⟩
    · rw [ST, e]
      refine am_lp_inr (x := some (-2000 - hI (hv_pos L h.M k).1, ω)) ?_
      show b_M_house_92 (hI k) τ = _
      unfold b_M_house_92
      rw [f 66 32 (by omega) (by omega) (by omega), t32, if_neg (hI_nle (by omega) (by omega) hk), e4]
      simp only [Option.bind_some]
      have e6 : f_M_carryAll_90 0 υ = some ω := e5
      have e7 : f_M_house_117 (hI k) ω = some (-2000 - hI (hv_pos L h.M k).1, ω) := by
        rw [eq_M_house_117]; unfold g_M_house_117
        rw [if_pos (hI_ix (by omega) (by decide)), hI_clamp (by omega), r87]
      rw [if_pos (by rfl), e6]
      simp only [Option.bind_some]
      rw [e7]
    · obtain ⟨z1, z2, z3, z4, z5, z6, z7⟩ := hv_no3 a b
      rw [J.fr i j z7 (by omega) b, FQ F i j a b, FH1 i j a b c]
    · rw [J.fr 66 28 (by decide) (by omega) rfl, F 66 28 (by omega) (by omega) (by omega)]; exact t28
