/-! PURE: house, of the model whole, and of the class -/
theorem hv_F8.mod {h : hv} {σ τ : am_St} (f : hv_F8 σ τ) (m : hv_mod h σ) : hv_mod h τ := m.frame (fun k hk => f 66 k (by omega) (by decide) (by decide) (by decide)) (fun i k a b => f i k (by omega) (by omega) (by omega) (by omega))
theorem hv_M_house {h : hv} {σ : am_St} {n : Nat} {L : Nat → Nat} (lt : hv_ltm n L σ) (m : hv_mod h σ) (ok : hv_ok h) (so : hv_some h) {K : Nat} (r : ∀ j, j < K → hv_rt L n (hv_pos L h.M j).1 (hv_pos L h.M j).2) : (1 ≤ K → (hv_pos L h.M K).1 = n → (∀ g, hv_run L h.M (hv_quiet h) K = some g → ∃ τ, f_M_house σ = some (hI K, τ) ∧ hv_mod g τ ∧ hv_FH σ τ) ∧ (∀ k g, k < K → hv_run L h.M (hv_quiet h) k = some g → hv_do g (L (hv_pos L h.M k).1) (hv_dg L (hv_pos L h.M k).1) (hv_sg L (hv_pos L h.M k).1) = none → ∃ τ, f_M_house σ = some (-2000 - hI (hv_pos L h.M k).1, τ) ∧ hv_mod h τ ∧ hv_FH σ τ)) ∧ (∀ w, (K = 0 ∨ (hv_pos L h.M K).1 < n) → ¬ hv_gp L n (hv_pos L h.M K).1 (hv_len (L (hv_pos L h.M K).1) (hv_pos L h.M K).2) w → (∀ p, p < w → hv_gp L n (hv_pos L h.M K).1 (hv_len (L (hv_pos L h.M K).1) (hv_pos L h.M K).2) p) → (w = 0 ∨ w < hv_len (L (hv_pos L h.M K).1) (hv_pos L h.M K).2) → ∃ τ, f_M_house σ = some (-1000 - hI ((hv_pos L h.M K).1 + w), τ) ∧ hv_mod h τ ∧ hv_FH σ τ) := by
  have kn := lt.1
  have kM := ok.M
  have geK := hv_pos_ge (L := L) (n := n) ok.M K r
  have K32 : K < 32 := by
    rcases geK.2 with q | q
    · omega
    · omega
  generalize hσ0 : am_sI (am_sI (am_sI (am_sI (am_sI σ 66 22 0) 66 29 0) 66 30 0) 66 32 0) 66 31 (hI h.M) = σ0
  have F0 : ∀ i j, ¬ (i = 66 ∧ (j = 22 ∨ j = 29 ∨ j = 30 ∨ j = 31 ∨ j = 32)) → σ0.1 i j = σ.1 i j := fun i j e => by
    rw [← hσ0]
    by_cases c : i = 66
    · subst c; rw [hv_g3 _ _ (by omega), hv_g3 _ _ (by omega), hv_g3 _ _ (by omega), hv_g3 _ _ (by omega), hv_g3 _ _ (by omega)]
    · rw [hv_g2 _ c, hv_g2 _ c, hv_g2 _ c, hv_g2 _ c, hv_g2 _ c]
  have z29 : σ0.1 66 29 = 0 := by rw [← hσ0, hv_g3 _ _ (by decide), hv_g3 _ _ (by decide), hv_g3 _ _ (by decide), hv_g1]
  have z30 : σ0.1 66 30 = 0 := by rw [← hσ0, hv_g3 _ _ (by decide), hv_g3 _ _ (by decide), hv_g1]
  have z32 : σ0.1 66 32 = 0 := by rw [← hσ0, hv_g3 _ _ (by decide), hv_g1]
  have z31 : σ0.1 66 31 = hI h.M := by rw [← hσ0, hv_g1]
  have lt0 : hv_ltm n L σ0 := ⟨kn, by rw [F0 66 28 (by omega)]; exact lt.2.1, fun i hi => by rw [F0 86 i (by omega)]; exact lt.2.2 i hi⟩
  have m0 : hv_mod h σ0 := m.frame (fun k hk => F0 66 k (by omega)) (fun i k a b => F0 i k (by omega))
  have ST : f_M_house σ = am_lp (fun s : am_St => b_M_house_28 s) σ0 := by
    rw [eq_M_house]; unfold g_M_house
    dsimp only
    rw [hv_g3 _ _ (show (1 : Nat) ≠ 32 by decide), hv_g3 _ _ (show (1 : Nat) ≠ 30 by decide), hv_g3 _ _ (show (1 : Nat) ≠ 29 by decide), hv_g3 _ _ (show (1 : Nat) ≠ 22 by decide), m.M, hσ0]
    rfl
  obtain ⟨τ, e, f, t29, t30, t31, t32, tt⟩ := hv_M_read lt0 ok.M r z29 z30 z31 z32 K (Nat.le_refl _)
  have mt : hv_mod h τ := f.mod m0
  have FF : ∀ {υ ω : am_St}, hv_F8 σ0 υ → hv_FH υ ω → hv_FH σ ω := fun {υ ω} a b => ⟨fun i j c1 c2 c3 => by
    obtain ⟨z1, z2, z3, z4, z5, z6, z7⟩ := hv_no3 c1 c2
    rw [b.1 i j c1 c2 c3, a i j (by omega) z4 z5 z6, F0 i j (by omega)], b.2⟩
  refine ⟨fun K1 en => ?_, fun w hK g0 g1 hw => ?_⟩
  · have GO : ∀ {v : Int32} {ω : am_St}, f_M_house_60 τ = some (v, ω) → f_M_house σ = some (v, ω) := fun {v ω} q => by
      rw [ST, e]
      refine am_lp_inr (x := some (v, ω)) ?_
      show b_M_house_28 τ = _
      unfold b_M_house_28
      rw [if_pos t30, t32, if_neg (hI_ne0 (by omega) (by omega)), (f.ltm lt0).2.1, t29, en, if_pos (Int32.le_refl _), q]
    have Q := hv_M_60 kn mt ok so r t30 t32 tt
    refine ⟨fun g eg => ?_, fun k g hk eg eno => ?_⟩
    · obtain ⟨ω, e1, m1, f1⟩ := Q.1 g eg
      exact ⟨ω, GO e1, m1, FF f f1⟩
    · obtain ⟨ω, e1, m1, f1⟩ := Q.2 k g hk eg eno
      exact ⟨ω, GO e1, m1, FF f f1⟩
  · have bn : (hv_pos L h.M K).1 ≤ n := by
      rcases hK with q | q
      · subst q; rw [hv_pos_0]; exact Nat.zero_le _
      · omega
    obtain ⟨υ, e2, f2, u32, -, ww⟩ := hv_M_stmt (f.ltm lt0) (b := (hv_pos L h.M K).1) (k := K) bn (by omega) (hv_pos_mt (L := L) ok.M K) t29 t30 t31 t32
    obtain ⟨u29, u30⟩ := ww w g0 g1 hw
    have f3 : hv_F8 σ0 υ := f.trans f2.F8
    have mu : hv_mod h υ := f3.mod m0
    refine ⟨am_sI υ 66 28 0, ?_, mu.frame (fun k hk => by rw [hv_g3 _ _ (by omega)]) (fun i k a b => by rw [hv_g2 _ (by omega)]), FF f3 ⟨fun i j c1 c2 c3 => ?_, hv_g1 _ _ _ _⟩⟩
    · rw [ST, e]
      have step : b_M_house_28 τ = some (.inl υ) := by
        have H : f_M_house_53 τ = some (.inl υ) := by
          rw [eq_M_house_53]; unfold g_M_house_53
          rw [e2]; rfl
        unfold b_M_house_28
        rw [if_pos t30, H]
        by_cases z : τ.1 66 32 = 0
        · rw [if_pos z]
        · rw [if_neg z]
          have : ¬ K = 0 := fun q => z (by rw [t32, q]; rfl)
          have lt2 : (hv_pos L h.M K).1 < n := hK.resolve_left this
          rw [(f.ltm lt0).2.1, t29, if_neg (hI_nle (by omega) (by omega) lt2)]
      rw [am_lp_inl (s2 := υ) step]
      refine am_lp_inr (x := some (-1000 - hI ((hv_pos L h.M K).1 + w), am_sI υ 66 28 0)) ?_
      show b_M_house_28 υ = _
      unfold b_M_house_28
      rw [u30, if_neg (by decide), eq_M_house_60]
      unfold g_M_house_60
      dsimp only
      rw [hv_g3 _ _ (show (30 : Nat) ≠ 28 by decide), u30, if_neg (by decide), hv_g3 _ _ (show (29 : Nat) ≠ 28 by decide), u29]
    · by_cases q : i = 66
      · subst q; rw [hv_g3 _ _ (by omega)]
      · rw [hv_g2 _ q]
/-! the class -/
theorem hv_X_run {g0 : hv} {σ : am_St} {n : Nat} {L : Nat → Nat} (lt : hv_ltr n L σ) (d : hv_dev 37 g0 σ) (ok : hv_ok g0) (so : hv_some g0) (S0 : g0.S = 0) {K : Nat} (r : ∀ j, j < K → hv_rt L n (hv_pos L g0.M j).1 (hv_pos L g0.M j).2) : ∀ k, k ≤ K → ∀ g, hv_run L g0.M g0 k = some g → ∃ τ, f_T_readOnto_1_44 0 0 0 σ = am_lp (fun s : Int32 × Int32 × Int32 × am_St => b_T_readOnto_1_44 s.1 s.2.1 s.2.2.1 s.2.2.2) (hI (hv_pos L g0.M k).1, hI k, hI (hv_pos L g0.M k).1, τ) ∧ hv_fr hv_pd σ τ ∧ hv_dev 37 g τ ∧ (k < K → f_T_readOnto_1_44 0 0 0 σ = am_lp (fun s : Int32 × Int32 × Int32 × am_St => b_T_readOnto_1_44 s.1 s.2.1 s.2.2.1 s.2.2.2) (hI (hv_pos L g0.M k).1, hI k, hI ((hv_pos L g0.M k).1 + (hv_len (L (hv_pos L g0.M k).1) (hv_pos L g0.M k).2 - 1)), τ) ∧ hv_XS τ (f_T_comes (hI (hv_pos L g0.M k).1) τ) (hv_do g (L (hv_pos L g0.M k).1) (hv_dg L (hv_pos L g0.M k).1) (hv_sg L (hv_pos L g0.M k).1))) := by
  have kn := lt.1
  have kM := ok.M
  -- along a statement to its last letter, and what it does
  have ALONG : ∀ k g τ, k < K → hv_run L g0.M g0 k = some g → f_T_readOnto_1_44 0 0 0 σ = am_lp (fun s : Int32 × Int32 × Int32 × am_St => b_T_readOnto_1_44 s.1 s.2.1 s.2.2.1 s.2.2.2) (hI (hv_pos L g0.M k).1, hI k, hI (hv_pos L g0.M k).1, τ) → hv_fr hv_pd σ τ → hv_dev 37 g τ → f_T_readOnto_1_44 0 0 0 σ = am_lp (fun s : Int32 × Int32 × Int32 × am_St => b_T_readOnto_1_44 s.1 s.2.1 s.2.2.1 s.2.2.2) (hI (hv_pos L g0.M k).1, hI k, hI ((hv_pos L g0.M k).1 + (hv_len (L (hv_pos L g0.M k).1) (hv_pos L g0.M k).2 - 1)), τ) ∧ hv_XS τ (f_T_comes (hI (hv_pos L g0.M k).1) τ) (hv_do g (L (hv_pos L g0.M k).1) (hv_dg L (hv_pos L g0.M k).1) (hv_sg L (hv_pos L g0.M k).1)) := by
    intro k g τ hk eg e f dg
    obtain ⟨p1, p2, p3, p4⟩ := hv_run_ok ok so S0 k (fun j hj => r j (by omega)) g eg
    have rk := r k hk
    have hmk := hv_pos_mt (L := L) ok.M k
    have le := hv_len_in rk.1 hmk
    have en := hv_rt_end rk
    have dgs := hv_rt_dg rk
    have lm := hv_len_many (mt := (hv_pos L g0.M k).2) (hv_len_let rk.1)
    have lt2 := lt.fr f
    refine ⟨?_, ?_⟩
    · rw [e]
      have := am_lp_count (body := fun s : Int32 × Int32 × Int32 × am_St => b_T_readOnto_1_44 s.1 s.2.1 s.2.2.1 s.2.2.2) (fun i => (hI (hv_pos L g0.M k).1, hI k, hI ((hv_pos L g0.M k).1 + i), τ)) (hv_len (L (hv_pos L g0.M k).1) (hv_pos L g0.M k).2 - 1) (fun i hi => by
        have gi := (rk.2 i (by omega)).2
        have hin : (hv_pos L g0.M k).1 + i < n := (rk.2 i (by omega)).1
        have l256 := (lt.2.2 _ hin).2
        have n59 : L ((hv_pos L g0.M k).1 + i) ≠ 59 := by
          by_cases i0 : i = 0
          · subst i0
            have := hv_len_let rk.1
            unfold hv_let at this
            show L (hv_pos L g0.M k).1 ≠ 59
            omega
          · rw [if_neg i0, if_neg (by omega)] at gi
            split at gi <;> omega
        show b_T_readOnto_1_44 (hI (hv_pos L g0.M k).1) (hI k) (hI ((hv_pos L g0.M k).1 + i)) τ = _
        unfold b_T_readOnto_1_44
        rw [lt2.2.1, if_neg (hI_nle (by omega) (by omega) hin), if_pos (hI_ix (by omega) (by decide)), hI_clamp (by omega), (lt2.2.2 _ hin).1, if_neg (show ¬ hI (L ((hv_pos L g0.M k).1 + i)) = 59 from hI_ne (m := 59) (by omega) (by decide) n59), eq_T_readOnto_1_91]
        unfold g_T_readOnto_1_91
        dsimp only
        rw [hI_add1]; rfl)
      exact this
    · rw [← p4] at dgs lm le en
      refine hv_X_comes dg p1 lt2 (hv_len_let rk.1) ?_ (fun q => ?_) (fun i hi => ?_)
      · split at lm <;> omega
      · rw [if_pos q] at lm
        have : hv_many (L (hv_pos L g0.M k).1) g.M = 3 := by rw [q]; rfl
        omega
      · have := dgs i hi
        rw [show (hv_pos L g0.M k).1 + (1 + i) = (hv_pos L g0.M k).1 + 1 + i by omega] at this
        exact this
  intro k
  induction k with
  | zero =>
    intro _ g e
    rw [hv_run_0] at e
    cases e
    have e0 : f_T_readOnto_1_44 0 0 0 σ = am_lp (fun s : Int32 × Int32 × Int32 × am_St => b_T_readOnto_1_44 s.1 s.2.1 s.2.2.1 s.2.2.2) (hI (hv_pos L g0.M 0).1, hI 0, hI (hv_pos L g0.M 0).1, σ) := by rw [hv_pos_0]; rfl
    exact ⟨σ, e0, hv_fr.rfl' _ _, d, fun hk => ALONG 0 g0 σ hk (hv_run_0 _ _ _) e0 (hv_fr.rfl' _ _) d⟩
  | succ k ih =>
    intro hk g eg
    have eg2 := eg
    rw [hv_run_s] at eg
    obtain ⟨a, ea, e2⟩ := Option.bind_eq_some_iff.mp eg
    obtain ⟨τ, e3, f, m, c⟩ := ih (by omega) a ea
    obtain ⟨e4, υ, e5, f2, m2⟩ := c (by omega)
    rw [e2] at e5
    have rk := r k (by omega)
    have hmk := hv_pos_mt (L := L) ok.M k
    have le := hv_len_in rk.1 hmk
    have en := hv_rt_end rk
    have gl := (rk.2 (hv_len (L (hv_pos L g0.M k).1) (hv_pos L g0.M k).2 - 1) (by omega)).2
    rw [if_neg (by omega), if_pos rfl] at gl
    have lt2 := lt.fr f
    have F := f.trans f2
    have dg := m2 g e2
    have E : f_T_readOnto_1_44 0 0 0 σ = am_lp (fun s : Int32 × Int32 × Int32 × am_St => b_T_readOnto_1_44 s.1 s.2.1 s.2.2.1 s.2.2.2) (hI (hv_pos L g0.M (k + 1)).1, hI (k + 1), hI (hv_pos L g0.M (k + 1)).1, υ) := by
      rw [e4]
      refine am_lp_inl ?_
      show b_T_readOnto_1_44 (hI (hv_pos L g0.M k).1) (hI k) (hI ((hv_pos L g0.M k).1 + (hv_len (L (hv_pos L g0.M k).1) (hv_pos L g0.M k).2 - 1))) τ = _
      unfold b_T_readOnto_1_44
      rw [lt2.2.1, if_neg (hI_nle (by omega) (by omega) (by omega)), if_pos (hI_ix (by omega) (by decide)), hI_clamp (by omega), (lt2.2.2 _ (by omega)).1, gl, if_pos (by rfl), e5]
      simp only [Option.bind_some]
      rw [if_neg (show ¬ (if (some g).isSome = true then (1 : Int32) else 0) = 0 from fun q => absurd (show (1 : Int32) = 0 from q) (by decide)), eq_T_readOnto_1_91]
      unfold g_T_readOnto_1_91
      dsimp only
      rw [hI_add1, hI_add1, hv_pos_s, show (hv_pos L g0.M k).1 + (hv_len (L (hv_pos L g0.M k).1) (hv_pos L g0.M k).2 - 1) + 1 = (hv_pos L g0.M k).1 + hv_len (L (hv_pos L g0.M k).1) (hv_pos L g0.M k).2 by omega]
    exact ⟨υ, E, F, dg, fun hk2 => ALONG (k + 1) g υ hk2 eg2 E F dg⟩
