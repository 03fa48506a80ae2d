/-! PURE: house -/
theorem hv_neg_1000 : ∀ m, m < 200 → ((-1000 : Int32) - hI m ≤ 0) ∧ ((-2000 : Int32) - hI m ≤ 0) := by decide +kernel
theorem hv_X_34 (x : Int32) (σ : am_St) : f_X_house_34 x σ = some (x, am_sI σ 35 1 0) := by
  rw [eq_X_house_34]; unfold g_X_house_34
  rw [eq_T_clear]; rfl
theorem hv_X_no {v : Int32} {σ τ : am_St} (E : f_T_readOnto_1 σ = some (v, τ)) (h : v ≤ 0) : f_X_house σ = some (v, am_sI τ 35 1 0) := by
  rw [eq_X_house]; unfold g_X_house
  rw [E]
  simp only [Option.bind_some]
  rw [if_pos h, hv_X_34]
/-- the draft begins as the house, with nothing said -/
theorem hv_draft {h : hv} {σ : am_St} (ok : hv_ok h) (d : hv_dev 1 h σ) : ∃ τ, f_H_copyFrom_37_1 σ = some τ ∧ hv_dev 37 (hv_quiet h) (am_sI τ 37 6 0) ∧ hv_fr hv_pd σ (am_sI τ 37 6 0) := by
  obtain ⟨τ, e, d2, t2, fr⟩ := hv_copy_37_1 ok d
  have G : ∀ i j, i ≠ 37 ∨ j ≠ 6 → (am_sI τ 37 6 0).1 i j = τ.1 i j := fun i j a => by
    by_cases c : i = 37
    · subst c; rw [hv_g3 _ _ (a.resolve_left (fun q => q rfl))]
    · rw [hv_g2 _ c]
  have d' : hv_dev 37 h τ := d2
  refine ⟨τ, e, hv_dev.mk (fR := (G _ _ (by omega)).trans d'.R) (fM := (G _ _ (by omega)).trans d'.M) (fC := (G _ _ (by omega)).trans d'.C) (fdr := (G _ _ (by omega)).trans d'.dr) (fdm := (G _ _ (by omega)).trans d'.dm) (fF := (G _ _ (by omega)).trans d'.F) (fS := hv_g1 _ _ _ _) (fdoor := fun r hr => (G _ _ (by omega)).trans (d'.door r hr)) (fkind := fun r hr => (G _ _ (by omega)).trans (d'.kind r hr)) (ffig := fun r hr => (G _ _ (by omega)).trans (d'.fig r hr)) (ftie := fun r hr => (G _ _ (by omega)).trans (d'.tie r hr)) (fskill := fun r hr => (G _ _ (by omega)).trans (d'.skill r hr)) (fplace := fun r hr k hk => (G _ _ (by omega)).trans (d'.place r hr k hk)) (fchance := fun r hr => (G _ _ (by omega)).trans (d'.chance r hr)) (ffact := fun r hr => (G _ _ (by omega)).trans (d'.fact r hr)) (fsay := fun i hi => absurd hi (by show ¬ i < 0; omega)), t2, fun i hi => ?_⟩
  have n37 : ¬ (37 ≤ i ∧ i ≤ 46) := fun q => by rw [hv_pd_37 q.1 q.2] at hi; cases hi
  rw [hv_g2 _ (show i ≠ 37 by omega), fr i (by omega)]
/-- the class's house -/
theorem hv_X_house {h : hv} {σ : am_St} {n : Nat} {L : Nat → Nat} (lt : hv_ltr n L σ) (d : hv_dev 1 h σ) (ok : hv_ok h) (so : hv_some h) {K : Nat} (r : ∀ j, j < K → hv_rt L n (hv_pos L h.M j).1 (hv_pos L h.M j).2) : (1 ≤ K → (hv_pos L h.M K).1 = n → (∀ g, hv_run L h.M (hv_quiet h) K = some g → ∃ τ, f_X_house σ = some (hI K, am_sI τ 35 1 0) ∧ hv_dev 1 g τ ∧ ∀ i, hv_pd i = false → hv_hd i = false → τ.1 i = σ.1 i) ∧ (∀ k g, k < K → hv_run L h.M (hv_quiet h) k = some g → hv_do g (L (hv_pos L h.M k).1) (hv_dg L (hv_pos L h.M k).1) (hv_sg L (hv_pos L h.M k).1) = none → ∃ τ, f_X_house σ = some (-2000 - hI (hv_pos L h.M k).1, am_sI τ 35 1 0) ∧ hv_fr hv_pd σ τ)) ∧ (∀ w, (K = 0 ∨ (hv_pos L h.M K).1 < n) → ¬ hv_gp L n (hv_pos L h.M K).1 (hv_len (L (hv_pos L h.M K).1) (hv_pos L h.M K).2) w → (∀ p, p < w → hv_gp L n (hv_pos L h.M K).1 (hv_len (L (hv_pos L h.M K).1) (hv_pos L h.M K).2) p) → (w = 0 ∨ w < hv_len (L (hv_pos L h.M K).1) (hv_pos L h.M K).2) → f_X_house σ = some (-1000 - hI ((hv_pos L h.M K).1 + w), am_sI σ 35 1 0)) := by
  have kn := lt.1
  have kM := ok.M
  have okq := hv_quiet_ok ok
  have soq : hv_some (hv_quiet h) := hv_some_same (g := hv_quiet h) (h := h) rfl rfl rfl rfl rfl rfl rfl rfl rfl so
  obtain ⟨g0, hq⟩ : ∃ g0, g0 = hv_quiet h := ⟨_, rfl⟩
  have hM : g0.M = h.M := by rw [hq]; rfl
  have hS : g0.S = 0 := by rw [hq]; rfl
  rw [← hq] at okq soq ⊢
  have geK := hv_pos_ge (L := L) (n := n) ok.M K r
  have K32 : K < 32 := by
    rcases geK.2 with q | q
    · omega
    · omega
  have FW := hv_X_fw lt ok.M r
  have dM : σ.1 1 1 = hI h.M := d.M
  obtain ⟨σ1, c1, d1, f1⟩ := hv_draft ok d
  rw [← hq] at d1
  refine ⟨fun K1 en => ?_, fun w hK g0 g1 hw => ?_⟩
  · have RD : f_T_readOnto_1 σ = f_T_readOnto_1_44 0 0 0 (am_sI σ1 37 6 0) := by
      rw [eq_T_readOnto_1]; unfold g_T_readOnto_1
      rw [dM, FW.1 K1 en]
      simp only [Option.bind_some]
      rw [if_pos (by decide), c1]
      simp only [Option.bind_some]
      rw [eq_T_readOnto_1_35]; unfold g_T_readOnto_1_35; rfl
    have RUN := hv_X_run (g0 := g0) (lt.fr f1) d1 okq soq hS (K := K) (by rw [hM]; exact r)
    have ROK := hv_run_ok (g0 := g0) (L := L) (n := n) okq soq hS
    rw [hM] at RUN ROK
    refine ⟨fun g eg => ?_, fun k g hk eg eno => ?_⟩
    · obtain ⟨τ, e, f, dg, -⟩ := RUN K (Nat.le_refl _) g eg
      obtain ⟨p1, p2, p3, p4⟩ := ROK K r g eg
      have lt2 := lt.fr (f1.trans f)
      have E : f_T_readOnto_1 σ = some (hI K, τ) := by
        rw [RD, e]
        refine am_lp_inr (x := some (hI K, τ)) ?_
        show b_T_readOnto_1_44 (hI (hv_pos L h.M K).1) (hI K) (hI (hv_pos L h.M K).1) τ = _
        unfold b_T_readOnto_1_44
        rw [lt2.2.1, en, if_pos (Int32.le_refl _)]; rfl
      obtain ⟨υ, c2, d2, t2, fr2⟩ := hv_copy_1_37 p1 dg
      refine ⟨υ, ?_, d2, fun i a b => ?_⟩
      · rw [eq_X_house]; unfold g_X_house
        rw [E]
        simp only [Option.bind_some]
        rw [if_neg (hI_le0 (by omega) (by omega)), eq_T_read]
        unfold g_T_read
        simp only [Option.bind_some]
        rw [if_pos trivial, c2]
        simp only [Option.bind_some]
        rw [hv_X_34]
      · have n1 : ¬ (1 ≤ i ∧ i ≤ 10) := fun q => by
          have e : i = 1 ∨ i = 2 ∨ i = 3 ∨ i = 4 ∨ i = 5 ∨ i = 6 ∨ i = 7 ∨ i = 8 ∨ i = 9 ∨ i = 10 := by omega
          rcases e with rfl | rfl | rfl | rfl | rfl | rfl | rfl | rfl | rfl | rfl <;> cases b
        rw [fr2 i (by omega), (f1.trans f).2 i a]
    · obtain ⟨τ, e0, f, dg, c⟩ := RUN k (by omega) g eg
      obtain ⟨e, υ, e5, f2, -⟩ := c hk
      rw [eno] at e5
      have lt2 := lt.fr (f1.trans f)
      have rk := r k hk
      have hmk := hv_pos_mt (L := L) ok.M k
      have le := hv_len_in rk.1 hmk
      have eN := hv_rt_end rk
      have gl := (rk.2 (hv_len (L (hv_pos L h.M k).1) (hv_pos L h.M k).2 - 1) (by omega)).2
      rw [if_neg (by omega), if_pos rfl] at gl
      have E : f_T_readOnto_1 σ = some (-2000 - hI (hv_pos L h.M k).1, υ) := by
        rw [RD, e]
        refine am_lp_inr (x := some (-2000 - hI (hv_pos L h.M k).1, υ)) ?_
        show b_T_readOnto_1_44 (hI (hv_pos L h.M k).1) (hI k) (hI ((hv_pos L h.M k).1 + (hv_len (L (hv_pos L h.M k).1) (hv_pos L h.M k).2 - 1))) τ = _
        have e5' : f_T_comes (hI (hv_pos L h.M k).1) τ = some (0, υ) := e5
        unfold b_T_readOnto_1_44
        rw [lt2.2.1, if_neg (hI_nle (by omega) (by omega) (by omega)), if_pos (hI_ix (by omega) (by decide)), hI_clamp (by omega), (lt2.2.2 _ (by omega)).1, gl, if_pos (by rfl), e5']
        simp only [Option.bind_some]
        rw [if_pos trivial]; rfl
      refine ⟨υ, ?_, f1.trans (f.trans f2)⟩
      exact hv_X_no E (hv_neg_1000 _ (by omega)).2
  · have bn : (hv_pos L h.M K).1 ≤ n := by
      rcases hK with q | q
      · subst q; rw [hv_pos_0]; exact Nat.zero_le _
      · omega
    have w10 : w < 10 := by
      rcases hw with q | q
      · omega
      · have := hv_len_in (show 0 < hv_len (L (hv_pos L h.M K).1) (hv_pos L h.M K).2 by omega) (hv_pos_mt (L := L) ok.M K); omega
    have E : f_T_readOnto_1 σ = some (-1000 - hI ((hv_pos L h.M K).1 + w), σ) := by
      rw [eq_T_readOnto_1]; unfold g_T_readOnto_1
      rw [dM, FW.2 w hK g0 g1 hw]
      simp only [Option.bind_some]
      rw [if_neg (hI_lt0 (by omega))]
    exact hv_X_no E (hv_neg_1000 _ (by omega)).1
/-- the invariant behind a house told in letters -/
theorem hv_inv_house {g : hv} {σ τ υ : am_St} (hi : hv_inv σ) (ok : hv_ok g) (so : hv_some g) (d : hv_dev 1 g τ) (F1 : ∀ i j, hv_scr i j = false → hv_hd i = false → ¬ (i = 35 ∧ j = 1) → τ.1 i j = σ.1 i j) (z1 : τ.1 35 1 = 0) (m : hv_mod g υ) (F2 : hv_FH τ υ) : hv_inv υ := by
  have F : ∀ i j, hv_scr i j = false → hv_hd i = false → hv_hm i j = false → ¬ (i = 35 ∧ j = 1) → ¬ (i = 66 ∧ j = 28) → υ.1 i j = σ.1 i j := fun i j a b c e1 e2 => by rw [F2.1 i j a c e2, F1 i j a b e1]
  obtain ⟨-, im, ⟨n, hn, l1, l2, l3⟩, ⟨q, hq, r1, r2, r3⟩, rf⟩ := hi
  refine ⟨⟨g, ok, so, d.frame fun i j a b => F2.1 i j (hv_scr_dev (.inl rfl) a b) ?_ (by omega), m⟩, ?_, ⟨0, Nat.zero_le _, (F2.1 35 1 rfl rfl (by omega)).trans z1, F2.2, fun i hi => absurd hi (Nat.not_lt_zero i)⟩, ⟨q, hq, (F 0 7 rfl rfl rfl (by omega) (by omega)).trans r1, (F 66 46 rfl rfl rfl (by omega) (by omega)).trans r2, fun i hi => ?_⟩, fun i hi => ?_⟩
  · have e : i = 1 ∨ i = 2 ∨ i = 3 ∨ i = 4 ∨ i = 5 ∨ i = 6 ∨ i = 7 ∨ i = 8 ∨ i = 9 ∨ i = 10 := by omega
    rcases e with rfl | rfl | rfl | rfl | rfl | rfl | rfl | rfl | rfl | rfl <;> rfl
  · rw [F 0 2 rfl rfl rfl (by omega) (by omega), F 66 38 rfl rfl rfl (by omega) (by omega)]
    rcases im with im | ⟨i1, i2, g', g1, g2, g3, g4⟩
    · exact .inl im
    · refine .inr ⟨i1, i2, g', g1, g2, g3.frame fun i j b1 b2 => ?_, g4.frame fun j => F 91 j rfl rfl rfl (by omega) (by omega)⟩
      have e : i = 18 ∨ i = 19 ∨ i = 20 ∨ i = 21 ∨ i = 22 ∨ i = 23 ∨ i = 24 ∨ i = 25 ∨ i = 26 ∨ i = 27 := by omega
      rcases e with rfl | rfl | rfl | rfl | rfl | rfl | rfl | rfl | rfl | rfl <;> exact F _ j rfl rfl rfl (by omega) (by omega)
  · rw [F 64 i rfl rfl rfl (by omega) (by omega), F 94 i rfl rfl rfl (by omega) (by omega)]; exact r3 i hi
  · rw [F 65 i rfl rfl rfl (by omega) (by omega), F 82 i (hv_scr_mod (by decide) (by decide)) rfl rfl (by omega) (by omega)]; exact rf i hi
/-- house -/
theorem hv_st_house : st_house hv_inv := by
  intro σ hi
  obtain ⟨⟨h, ok, so, d, m⟩, -, ⟨n, hn, l1, l2, l3⟩, -, -⟩ := id hi
  have okq := hv_quiet_ok ok
  have soq : hv_some (hv_quiet h) := hv_some_same (g := hv_quiet h) (h := h) rfl rfl rfl rfl rfl rfl rfl rfl rfl so
  obtain ⟨L, hL⟩ : ∃ L : Nat → Nat, ∀ i, i < n → L i < 256 ∧ σ.1 36 i = hI (L i) ∧ σ.1 86 i = hI (L i) := by
    refine ⟨fun i => if hi : i < n then (l3 i hi).choose else 0, fun i hi => ?_⟩
    have e : (fun i => if hi : i < n then (l3 i hi).choose else 0) i = (l3 i hi).choose := dif_pos hi
    rw [e]
    exact (l3 i hi).choose_spec
  have lx : hv_ltr n L σ := ⟨hn, l1, fun i hi => ⟨(hL i hi).2.1, (hL i hi).1⟩⟩
  have LM : ∀ τ : am_St, (∀ i j, hv_scr i j = false → hv_hd i = false → ¬ (i = 35 ∧ j = 1) → τ.1 i j = σ.1 i j) → hv_ltm n L τ ∧ hv_mod h τ := fun τ F => by
    refine ⟨⟨hn, by rw [F 66 28 rfl rfl (by omega)]; exact l2, fun i hi => ⟨by rw [F 86 i rfl rfl (by omega)]; exact (hL i hi).2.2, (hL i hi).1⟩⟩, m.frame (fun k hk => F 66 k (hv_scr_66 hk) rfl (by omega)) (fun i k h1 h2 => F i k (hv_scr_mod h1 (by omega)) ?_ (by omega))⟩
    have e : i = 67 ∨ i = 68 ∨ i = 69 ∨ i = 70 ∨ i = 71 ∨ i = 72 ∨ i = 73 ∨ i = 74 ∨ i = 75 ∨ i = 76 ∨ i = 77 ∨ i = 78 ∨ i = 79 ∨ i = 80 ∨ i = 81 := by omega
    rcases e with rfl | rfl | rfl | rfl | rfl | rfl | rfl | rfl | rfl | rfl | rfl | rfl | rfl | rfl | rfl <;> rfl
  have FC : ∀ τ : am_St, (∀ i, hv_pd i = false → hv_hd i = false → τ.1 i = σ.1 i) → ∀ i j, hv_scr i j = false → hv_hd i = false → ¬ (i = 35 ∧ j = 1) → (am_sI τ 35 1 0).1 i j = σ.1 i j := fun τ f i j a b c => by
    have e : (am_sI τ 35 1 0).1 i j = τ.1 i j := by
      by_cases q : i = 35
      · subst q; rw [hv_g3 _ _ (by omega)]
      · rw [hv_g2 _ q]
    have pd : hv_pd i = false := by
      cases p : hv_pd i
      · rfl
      · rw [hv_pd_scr i p j] at a; cases a
    rw [e, f i pd b]
  have DC : ∀ {g : hv} {τ : am_St}, hv_dev 1 g τ → hv_dev 1 g (am_sI τ 35 1 0) := fun {g τ} x => x.frame fun i j a b => by rw [hv_g2 _ (show i ≠ 35 by omega)]
  have DH : ∀ {τ : am_St}, hv_fr hv_pd σ τ → hv_dev 1 h τ := fun {τ} f => d.frame fun i j a b => by rw [f.2 i (hv_pd_no (by omega))]
  obtain ⟨K, r, c⟩ := hv_text L n h.M ok.M
  have X := hv_X_house lx d ok so r
  rcases c with ⟨K1, en⟩ | ⟨hK, nr⟩
  · have X1 := X.1 K1 en
    rcases hv_run_end L h.M (hv_quiet h) K with ⟨g, eg⟩ | ⟨k, g, hk, eg, eno⟩
    · obtain ⟨τ, e1, d1, f1⟩ := X1.1 g eg
      obtain ⟨p1, p2, p3, p4⟩ := hv_run_ok (g0 := hv_quiet h) okq soq rfl K r g eg
      have F1 := FC τ f1
      obtain ⟨a1, a2⟩ := LM _ F1
      obtain ⟨υ, e2, m2, f2⟩ := ((hv_M_house a1 a2 ok so r).1 K1 en).1 g eg
      exact ⟨_, _, υ, e1, e2, hv_inv_house hi p1 p2 (DC d1) F1 (hv_g1 _ _ _ _) m2 f2⟩
    · obtain ⟨τ, e1, f1⟩ := X1.2 k g hk eg eno
      have F1 := FC τ (fun i a _ => f1.2 i a)
      obtain ⟨a1, a2⟩ := LM _ F1
      obtain ⟨υ, e2, m2, f2⟩ := ((hv_M_house a1 a2 ok so r).1 K1 en).2 k g hk eg eno
      exact ⟨_, _, υ, e1, e2, hv_inv_house hi ok so (DC (DH f1)) F1 (hv_g1 _ _ _ _) m2 f2⟩
  · obtain ⟨w, w1, w2, w3⟩ := hv_wrong nr
    have e1 := X.2 w hK w1 w2 w3
    have F1 := FC σ (fun _ _ _ => rfl)
    obtain ⟨a1, a2⟩ := LM _ F1
    obtain ⟨υ, e2, m2, f2⟩ := (hv_M_house a1 a2 ok so r).2 w hK w1 w2 w3
    exact ⟨_, _, υ, e1, e2, hv_inv_house hi ok so (DC d) F1 (hv_g1 _ _ _ _) m2 f2⟩
