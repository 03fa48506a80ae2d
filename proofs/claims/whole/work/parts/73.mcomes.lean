/-! PURE: the model does a statement, by its letter -/
theorem hv_Mgoes {g : hv} {σ : am_St} (d : hv_mox g σ) (ok : hv_ok g) {q : Nat} (hq : q < 33 * 7 - 6) {D : Nat → Nat} (D10 : ∀ i, D i < 10) (td : ∀ i, i < 1 + g.M → σ.1 89 (q + i) = hI (D i)) : hv_MS σ (f_M_trulyComes (hI q) σ) (@ite _ (D 0 < g.C ∧ hv_wayP g (fun m => D (1 + m))) (Classical.propDecidable _) (some (hv_setP g (D 0) (fun m => D (1 + m)))) none) := by
  have kR := ok.R
  have kM := ok.M
  have kC := ok.C
  have t0 : σ.1 89 q = hI (D 0) := td 0 (by omega)
  have d0 := D10 0
  rw [eq_M_trulyComes]; unfold g_M_trulyComes
  rw [if_pos (hI_ix (by omega) (by decide)), hI_clamp (by omega), t0]
  dsimp only
  rw [d.isChild ok]
  simp only [Option.bind_some]
  have e1 : ∀ m, hI q + 1 + hI m = hI (q + (1 + m)) := fun m => by rw [hI_add1, hI_add, Nat.add_assoc]
  -- out with what is good
  have OUT : ∀ w : Bool, (w = true → D 0 < g.C ∧ hv_wayP g (fun m => D (1 + m))) → ∃ x, f_M_trulyComes_106 (hI q) (hI (D 0)) (if w then 1 else 0) σ = some x ∧ ∃ τ, x = ((if w then 1 else 0), τ) ∧ hv_Fq σ τ ∧ (w = true → hv_mox (hv_setP g (D 0) (fun m => D (1 + m))) τ) := by
    intro w hw
    rw [eq_M_trulyComes_106]; unfold g_M_trulyComes_106
    unfold f_M_trulyComes_109
    cases w
    · refine ⟨(0, σ), am_lp_inr (x := some (0, σ)) ?_, σ, rfl, hv_Fq.rfl' _, fun e => (by cases e)⟩
      show b_M_trulyComes_109 (hI q) (hI (D 0)) (if false = true then 1 else 0) 0 σ = _
      unfold b_M_trulyComes_109
      rw [d.M, if_neg (show ¬ hI g.M ≤ 0 from hI_le0 (by omega) (by omega)), if_pos (show (if false = true then (1 : Int32) else 0) = 0 from rfl)]
      exact if_pos (by decide)
    · obtain ⟨hc, hp⟩ := hw rfl
      refine hv_up g.M (fun i t => ∃ τ, t = (hI q, hI (D 0), 1, hI i, τ) ∧ hv_Fq σ τ ∧ (∀ j, j ≠ 72 → τ.1 j = σ.1 j) ∧ (∀ m, m < i → τ.1 72 (6 * D 0 + m) = hI (D (1 + m))) ∧ (∀ j, j < 6 * D 0 ∨ 6 * D 0 + i ≤ j → τ.1 72 j = σ.1 72 j)) 0 (Nat.zero_le _) _ ⟨σ, rfl, hv_Fq.rfl' _, fun _ _ => rfl, fun m hm => absurd hm (Nat.not_lt_zero m), fun _ _ => rfl⟩ ?_ ?_
      · rintro i t hi ⟨τ, rfl, f, k1, k2, k3⟩
        have e6 : 6 * hI (D 0) + hI i = hI (6 * D 0 + i) := by rw [show (6 : Int32) = hI 6 from rfl, hI_mul, hI_add]
        have t1 := td (1 + i) (by omega)
        refine .inl ⟨(hI q, hI (D 0), 1, hI (i + 1), am_sI τ 72 (6 * D 0 + i) (hI (D (1 + i)))), ?_, _, rfl, f.set 72 _ _ (by omega), fun j hj => by rw [hv_g2 _ hj]; exact k1 j hj, fun m hm => ?_, fun j hj => ?_⟩
        · show b_M_trulyComes_109 (hI q) (hI (D 0)) 1 (hI i) τ = _
          unfold b_M_trulyComes_109
          rw [k1 66 (by decide), d.M, if_neg (hI_nle (by omega) (by omega) hi), if_neg (by decide), e1, e6, if_pos (hI_ix (by omega) (by decide)), if_pos (hI_ix (by omega) (by decide)), hI_clamp (by omega), hI_clamp (by omega), k1 89 (by decide), t1]
          dsimp only
          rw [hI_add1]
        · by_cases z : m = i
          · subst z; rw [hv_g1]
          · rw [hv_g3 _ _ (by omega)]; exact k2 m (by omega)
        · rw [hv_g3 _ _ (by omega)]; exact k3 j (by omega)
      · rintro t ⟨τ, rfl, f, k1, k2, k3⟩
        have G : ∀ i j, i ≠ 72 → τ.1 i j = σ.1 i j := fun i j e => by rw [k1 i e]
        refine ⟨(1, τ), ?_, τ, rfl, f, fun _ => ?_⟩
        · show b_M_trulyComes_109 (hI q) (hI (D 0)) 1 (hI g.M) τ = _
          unfold b_M_trulyComes_109
          rw [k1 66 (by decide), d.M, if_pos (Int32.le_refl _)]
          exact if_pos (by decide)
        · generalize hP : (fun m => D (1 + m)) = P at hp ⊢
          have eP : ∀ m, D (1 + m) = P m := fun m => by rw [← hP]
          exact hv_mox.mk (fR := (G _ _ (by omega)).trans d.R) (fM := (G _ _ (by omega)).trans d.M) (fC := (G _ _ (by omega)).trans d.C) (fF := (G _ _ (by omega)).trans d.F) (fdr := (G _ _ (by omega)).trans d.dr) (fdm := (G _ _ (by omega)).trans d.dm) (fdoor := fun r hr => (G _ _ (by omega)).trans (d.door r hr)) (fkind := fun r hr => (G _ _ (by omega)).trans (d.kind r hr)) (ffig := fun r hr => (G _ _ (by omega)).trans (d.fig r hr)) (ftie := fun r hr => (G _ _ (by omega)).trans (d.tie r hr)) (fskill := fun r hr => (G _ _ (by omega)).trans (d.skill r hr)) (fplace := fun c hc' m hm => by
            have hm' : m < g.M := hm
            have hc'' : c < g.C := hc'
            show τ.1 72 (6 * c + m) = hI (if c = D 0 then P m else g.place c m)
            by_cases z : c = D 0
            · rw [if_pos z, z, ← eP m]; exact k2 m hm'
            · rw [if_neg z]
              by_cases z2 : 6 * c + m < 6 * D 0
              · rw [k3 _ (.inl z2)]; exact d.place c hc'' m hm'
              · rw [k3 _ (.inr (by omega))]; exact d.place c hc'' m hm') (fchance := fun r hr => (G _ _ (by omega)).trans (d.chance r hr)) (ffc := fun r hr => (G _ _ (by omega)).trans (d.fc r hr)) (ffm := fun r hr => (G _ _ (by omega)).trans (d.fm r hr)) (ffr := fun r hr => (G _ _ (by omega)).trans (d.fr r hr)) (ffi := fun r hr => (G _ _ (by omega)).trans (d.fi r hr))
  have FIN : ∀ (w : Bool) (X : Option (Int32 × am_St)), (w = true → D 0 < g.C ∧ hv_wayP g (fun m => D (1 + m))) → (w = false → ¬ (D 0 < g.C ∧ hv_wayP g (fun m => D (1 + m)))) → X = f_M_trulyComes_106 (hI q) (hI (D 0)) (if w then 1 else 0) σ → hv_MS σ X (@ite _ (D 0 < g.C ∧ hv_wayP g (fun m => D (1 + m))) (Classical.propDecidable _) (some (hv_setP g (D 0) (fun m => D (1 + m)))) none) := fun w X w1 w2 eX => by
    obtain ⟨x, e, τ, rfl, f, k⟩ := OUT w w1
    rw [eX, e]
    cases w
    · rw [if_neg (w2 rfl)]; exact hv_MS.no τ rfl f
    · rw [if_pos (w1 rfl)]; exact hv_MS.yes τ rfl f (k rfl)
  have LL : ∃ x, f_M_trulyComes_16 (hI q) (hI (D 0)) (hv_rng (hI (D 0)) g.C) 0 σ = some x ∧ ∃ w : Bool, (w = true → D 0 < g.C ∧ hv_wayP g (fun m => D (1 + m))) ∧ (w = false → ¬ (D 0 < g.C ∧ hv_wayP g (fun m => D (1 + m)))) ∧ some x = f_M_trulyComes_106 (hI q) (hI (D 0)) (if w then 1 else 0) σ := by
    unfold f_M_trulyComes_16
    refine hv_up g.M (fun i t => ∃ w : Bool, t = (hI q, hI (D 0), (if w then 1 else 0), hI i, σ) ∧ (w = true → D 0 < g.C ∧ ∀ m, m < i → D (1 + m) < g.R ∧ (m = 0 ∨ D (1 + (m - 1)) = D (1 + m) ∨ (g.door (D (1 + (m - 1)))).testBit (D (1 + m)) = true)) ∧ (w = false → ¬ (D 0 < g.C ∧ hv_wayP g (fun m => D (1 + m))))) 0 (Nat.zero_le _) _ ?_ ?_ ?_
    · by_cases z : D 0 < g.C
      · exact ⟨true, by rw [hv_rng_lt (by omega) z]; rfl, fun _ => ⟨z, fun m hm => absurd hm (Nat.not_lt_zero m)⟩, fun e => (by cases e)⟩
      · exact ⟨false, by rw [hv_rng_not (by omega) (by omega) (by omega)]; rfl, fun e => (by cases e), fun _ e => z e.1⟩
    · rintro i t hi ⟨w, rfl, w1, w2⟩
      cases w
      · obtain ⟨x, e, τ, rfl, f, k⟩ := OUT false (fun e => (by cases e))
        refine .inr ⟨_, ?_, false, fun e => (by cases e), w2, e.symm⟩
        show b_M_trulyComes_16 (hI q) (hI (D 0)) (if false = true then 1 else 0) (hI i) σ = _
        unfold b_M_trulyComes_16
        rw [d.M, if_neg (hI_nle (by omega) (by omega) hi), if_pos (show (if false = true then (1 : Int32) else 0) = 0 from rfl), e]; rfl
      · obtain ⟨hc, hp⟩ := w1 rfl
        have t1 := td (1 + i) (by omega)
        have dr := D10 (1 + i)
        have A : ∀ y, f_M_trulyComes_99 (hI q) (hI (D 0)) (hI i) y σ = some (.inl (hI q, hI (D 0), y, hI (i + 1), σ)) := fun y => by
          rw [eq_M_trulyComes_99]; unfold g_M_trulyComes_99
          dsimp only
          rw [hI_add1]
        have S : ∀ be, be < 10 → (be < g.R ∨ be = D (1 + i)) → f_M_trulyComes_61 (hI q) (hI (D 0)) (hI i) (hI (D (1 + i))) (hI be) σ = some (.inl (hI q, hI (D 0), (if D (1 + i) < g.R ∧ (be = D (1 + i) ∨ (g.door be).testBit (D (1 + i)) = true) then 1 else 0), hI (i + 1), σ)) := fun be hb hb2 => by
          rw [eq_M_trulyComes_61]; unfold g_M_trulyComes_61
          rw [d.isRoom ok]
          simp only [Option.bind_some, eq_M_trulyComes_98, g_M_trulyComes_98, eq_M_trulyComes_94, g_M_trulyComes_94, A]
          by_cases r : D (1 + i) < g.R
          · rw [hv_rng_lt (by omega) r, if_neg (by decide)]
            by_cases z : be = D (1 + i)
            · rw [if_pos (by rw [z]), if_pos (show D (1 + i) < g.R ∧ (be = D (1 + i) ∨ (g.door be).testBit (D (1 + i)) = true) from ⟨r, .inl z⟩)]; try exact A _
            · rw [if_neg (hI_ne (by omega) (by omega) (fun e => z e.symm)), if_pos (hI_ix (show D (1 + i) < 4 by omega) (by decide)), hI_clamp (by omega), d.door _ (by omega), hv_M_has (ok.door16 (by omega)) (by omega)]
              simp only [Option.bind_some]
              rw [← ok.sym be (D (1 + i)) (by omega) (by omega)]
              by_cases tb : (g.door be).testBit (D (1 + i)) = true
              · rw [if_pos tb, if_neg (by decide), if_pos (show D (1 + i) < g.R ∧ (be = D (1 + i) ∨ (g.door be).testBit (D (1 + i)) = true) from ⟨r, .inr tb⟩)]; try exact A _
              · rw [if_neg tb, if_pos rfl, if_neg (show ¬ (D (1 + i) < g.R ∧ (be = D (1 + i) ∨ (g.door be).testBit (D (1 + i)) = true)) from fun e => e.2.elim z tb)]; try exact A _
          · rw [hv_rng_not (by omega) (by omega) (by omega), if_pos rfl, if_neg (show ¬ (D (1 + i) < g.R ∧ (be = D (1 + i) ∨ (g.door be).testBit (D (1 + i)) = true)) from fun e => r e.1)]; try exact A _
        have B : b_M_trulyComes_16 (hI q) (hI (D 0)) (if true = true then 1 else 0) (hI i) σ = f_M_trulyComes_61 (hI q) (hI (D 0)) (hI i) (hI (D (1 + i))) (hI (if i = 0 then D (1 + i) else D (1 + (i - 1)))) σ := by
          unfold b_M_trulyComes_16
          rw [d.M, if_neg (hI_nle (by omega) (by omega) hi), if_neg (by decide), e1, if_pos (hI_ix (by omega) (by decide)), hI_clamp (by omega), t1]
          dsimp only
          by_cases z : i = 0
          · rw [if_pos (show hI i = 0 by rw [z]; rfl), if_pos z]
          · have t2 := td (1 + (i - 1)) (by omega)
            rw [if_neg (hI_ne0 (by omega) z), if_neg z, hI_add, if_pos (hI_ix (by omega) (by decide)), hI_clamp (by omega), show q + i = q + (1 + (i - 1)) by omega, t2]
        have hbe : (if i = 0 then D (1 + i) else D (1 + (i - 1))) < g.R ∨ (if i = 0 then D (1 + i) else D (1 + (i - 1))) = D (1 + i) := by
          by_cases z : i = 0
          · rw [if_pos z]; exact .inr rfl
          · rw [if_neg z]; exact .inl (hp (i - 1) (by omega)).1
        have hb10 : (if i = 0 then D (1 + i) else D (1 + (i - 1))) < 10 := by split <;> exact D10 _
        rw [S _ hb10 hbe] at B
        have cond : (D (1 + i) < g.R ∧ ((if i = 0 then D (1 + i) else D (1 + (i - 1))) = D (1 + i) ∨ (g.door (if i = 0 then D (1 + i) else D (1 + (i - 1)))).testBit (D (1 + i)) = true)) ↔ (D (1 + i) < g.R ∧ (i = 0 ∨ D (1 + (i - 1)) = D (1 + i) ∨ (g.door (D (1 + (i - 1)))).testBit (D (1 + i)) = true)) := by
          by_cases z : i = 0
          · rw [if_pos z]; exact ⟨fun e => ⟨e.1, .inl z⟩, fun e => ⟨e.1, .inl rfl⟩⟩
          · rw [if_neg z]; exact ⟨fun e => ⟨e.1, .inr e.2⟩, fun e => ⟨e.1, e.2.resolve_left z⟩⟩
        by_cases cc : D (1 + i) < g.R ∧ (i = 0 ∨ D (1 + (i - 1)) = D (1 + i) ∨ (g.door (D (1 + (i - 1)))).testBit (D (1 + i)) = true)
        · rw [if_pos (cond.mpr cc)] at B
          refine .inl ⟨_, B, true, rfl, fun _ => ⟨hc, fun m hm => ?_⟩, fun e => (by cases e)⟩
          by_cases z : m = i
          · subst z; exact cc
          · exact hp m (by omega)
        · rw [if_neg (fun e => cc (cond.mp e))] at B
          exact .inl ⟨_, B, false, rfl, fun e => (by cases e), fun _ e => cc (e.2 i hi)⟩
    · rintro t ⟨w, rfl, w1, w2⟩
      obtain ⟨x, e, τ, ex, f, k⟩ := OUT w (fun z => ⟨(w1 z).1, (w1 z).2⟩)
      refine ⟨x, ?_, w, fun z => ⟨(w1 z).1, (w1 z).2⟩, w2, e.symm⟩
      show b_M_trulyComes_16 (hI q) (hI (D 0)) (if w = true then 1 else 0) (hI g.M) σ = _
      unfold b_M_trulyComes_16
      rw [d.M, if_pos (Int32.le_refl _), e]; rfl
  obtain ⟨x, e, w, w1, w2, ex⟩ := LL
  exact FIN w _ w1 w2 (e.trans ex)
theorem hv_Mfact {g : hv} {σ : am_St} (d : hv_mox g σ) (ok : hv_ok g) {a m r x : Nat} (ha : a < 10) (hm : m < 10) (hr : r < 10) (hx : x < 2) : hv_MS σ (f_M_factComes (hI a) (hI m) (hI r) (hI x) σ) (@ite _ (a < g.C ∧ m < g.M ∧ r < g.R ∧ g.F < 16 ∧ 0 < hv_all (hv_addF g a m r x) (hv_may (hv_addF g a m r x) a)) (Classical.propDecidable _) (some (hv_addF g a m r x)) none) := by
  have kR := ok.R
  have kM := ok.M
  have kC := ok.C
  have kF := ok.F
  by_cases c : a < g.C ∧ m < g.M ∧ r < g.R ∧ g.F < 16
  · obtain ⟨qa, qm, qr, qF⟩ := c
    obtain ⟨τ, e, f⟩ := hw_M_factComes d ok qF qa qm qr hx
    have d2 := f.mox (hv_addF_mox d a m r x)
    have f2 : hv_Fq σ (hv_addF_st σ g.F a m r x) := (((((hv_Fq.rfl' σ).set 73 _ _ (by omega)).set 74 _ _ (by omega)).set 75 _ _ (by omega)).set 76 _ _ (by omega)).set 66 3 _ (by omega)
    by_cases w : 0 < hv_all (hv_addF g a m r x) (hv_may (hv_addF g a m r x) a)
    · rw [if_pos w] at e
      rw [if_pos (show a < g.C ∧ m < g.M ∧ r < g.R ∧ g.F < 16 ∧ 0 < hv_all (hv_addF g a m r x) (hv_may (hv_addF g a m r x) a) from ⟨qa, qm, qr, qF, w⟩)]
      exact hv_MS.yes τ e (f2.trans (hv_Fq.pm f)) d2
    · rw [if_neg w] at e
      rw [if_neg (show ¬ (a < g.C ∧ m < g.M ∧ r < g.R ∧ g.F < 16 ∧ 0 < hv_all (hv_addF g a m r x) (hv_may (hv_addF g a m r x) a)) from fun z => w z.2.2.2.2)]
      exact hv_MS.no τ e (f2.trans (hv_Fq.pm f))
  · rw [if_neg (show ¬ (a < g.C ∧ m < g.M ∧ r < g.R ∧ g.F < 16 ∧ 0 < hv_all (hv_addF g a m r x) (hv_may (hv_addF g a m r x) a)) from fun z => c ⟨z.1, z.2.1, z.2.2.1, z.2.2.2.1⟩)]
    refine hv_MS.no σ ?_ (hv_Fq.rfl' _)
    rw [eq_M_factComes]; unfold g_M_factComes
    rw [d.isChild ok]
    simp only [Option.bind_some]
    by_cases qa : a < g.C
    rotate_left
    · rw [hv_rng_not (by omega) (by omega) (by omega), if_pos rfl]
    rw [hv_rng_lt (by omega) qa, if_neg (by decide), d.isMinute ok]
    simp only [Option.bind_some]
    by_cases qm : m < g.M
    rotate_left
    · rw [hv_rng_not (by omega) (by omega) (by omega), if_pos rfl]
    rw [hv_rng_lt (by omega) qm, if_neg (by decide), d.isRoom ok]
    simp only [Option.bind_some]
    by_cases qr : r < g.R
    rotate_left
    · rw [hv_rng_not (by omega) (by omega) (by omega), if_pos rfl]
    rw [hv_rng_lt (by omega) qr, if_neg (by decide), eq_M_factComes_24]
    unfold g_M_factComes_24
    have : g.F = 16 := by
      have : ¬ g.F < 16 := fun z => c ⟨qa, qm, qr, z⟩
      omega
    rw [d.F, if_pos (show hI g.F = 16 by rw [this]; rfl)]
theorem hv_M_comes {g : hv} {σ : am_St} (d : hv_mox g σ) (ok : hv_ok g) {k l x : Nat} {D : Nat → Nat} (hk : k < 32) (hl : hv_let l) (D10 : ∀ i, D i < 10) (hx : x < 2) (lt : σ.1 88 k = hI l) (td : ∀ i, i < hv_many l g.M → σ.1 89 (7 * k + i) = hI (D i)) (sg : l = 102 → σ.1 89 (7 * k + 3) = hI x) : hv_MS σ (f_M_comes (hI k) σ) (hv_do g l D x) := by
  have kM := ok.M
  have W : ∀ {X : Option (Int32 × am_St)} {o : Option hv}, hv_MS σ X o → hv_MS σ (X.bind (fun p2 => if p2.1 &&& 1 = p2.1 then some ((p2.1, p2.2)) else none)) o := fun {X o} w => by
    obtain ⟨τ, e, f, k⟩ := w
    refine ⟨τ, ?_, f, k⟩
    rw [e]
    simp only [Option.bind_some]
    cases o
    · exact if_pos (show (0 : Int32) &&& 1 = 0 by decide)
    · exact if_pos (show (1 : Int32) &&& 1 = 1 by decide)
  have e0 : 7 * hI k = hI (7 * k) := by rw [show (7 : Int32) = hI 7 from rfl, hI_mul]
  have e1 : hI (7 * k) + 1 = hI (7 * k + 1) := hI_add1 _
  have e2 : hI (7 * k) + 2 = hI (7 * k + 2) := hI_add _ 2
  have e3 : hI (7 * k) + 3 = hI (7 * k + 3) := hI_add _ 3
  have x0 : am_ix (hI (7 * k)) 231 = true := hI_ix (by omega) (by decide)
  have x1 : am_ix (hI (7 * k + 1)) 231 = true := hI_ix (by omega) (by decide)
  have x2 : am_ix (hI (7 * k + 2)) 231 = true := hI_ix (by omega) (by decide)
  have x3 : am_ix (hI (7 * k + 3)) 231 = true := hI_ix (by omega) (by decide)
  have c0 : (hI (7 * k)).toNatClampNeg = 7 * k := hI_clamp (by omega)
  have c1 : (hI (7 * k + 1)).toNatClampNeg = 7 * k + 1 := hI_clamp (by omega)
  have c2 : (hI (7 * k + 2)).toNatClampNeg = 7 * k + 2 := hI_clamp (by omega)
  have c3 : (hI (7 * k + 3)).toNatClampNeg = 7 * k + 3 := hI_clamp (by omega)
  rw [eq_M_comes]; unfold g_M_comes
  dsimp only
  rw [e0, e1, e2, e3, if_pos (hI_ix (show k < 33 by omega) (by decide)), hI_clamp (show k < 2 ^ 31 by omega), lt, c0, c1, c2, c3]
  have two : 2 ≤ hv_many l g.M := by unfold hv_many; split <;> (try split) <;> omega
  have t0 : σ.1 89 (7 * k) = hI (D 0) := td 0 (by omega)
  have t1 := td 1 (by omega)
  rcases hl with q | q | q | q | q | q
  · rw [q, hv_do_r, if_neg (show ¬ hI 114 = 98 by decide), if_neg (show ¬ hI 114 = 99 by decide), if_neg (show ¬ hI 114 = 100 by decide), if_pos (show hI 114 = 114 from rfl), if_pos x0, if_pos x1, t0, t1]
    exact W (hv_Mb d (D10 0) (D10 1))
  · rw [q, hv_do_d, if_neg (show ¬ hI 100 = 98 by decide), if_neg (show ¬ hI 100 = 99 by decide), if_pos (show hI 100 = 100 from rfl), if_pos x0, if_pos x1, t0, t1]
    exact W (hv_Mdoor d ok (D10 0) (D10 1))
  · have t2 := td 2 (by rw [q]; show 2 < 3; decide)
    rw [q, hv_do_c, if_neg (show ¬ hI 99 = 98 by decide), if_pos (show hI 99 = 99 from rfl), if_pos x0, if_pos x1, if_pos x2, t0, t1, t2]
    exact W (hv_Mc d ok (D10 0) (D10 1) (D10 2))
  · have mt : hv_many l g.M = 1 + g.M := by rw [q]; unfold hv_many; rw [if_neg (by decide), if_pos rfl]
    rw [mt] at td
    rw [q, hv_do_t, if_neg (show ¬ hI 116 = 98 by decide), if_neg (show ¬ hI 116 = 99 by decide), if_neg (show ¬ hI 116 = 100 by decide), if_neg (show ¬ hI 116 = 114 by decide), if_pos (show hI 116 = 116 from rfl)]
    exact W (hv_Mgoes d ok (by omega) D10 td)
  · rw [q, hv_do_b, if_pos (show hI 98 = 98 from rfl), if_pos x0, if_pos x1, t0, t1]
    exact W (hv_Md d ok (D10 0) (D10 1))
  · have t2 := td 2 (by rw [q]; show 2 < 3; decide)
    have t3 := sg q
    rw [q, hv_do_f, if_neg (show ¬ hI 102 = 98 by decide), if_neg (show ¬ hI 102 = 99 by decide), if_neg (show ¬ hI 102 = 100 by decide), if_neg (show ¬ hI 102 = 114 by decide), if_neg (show ¬ hI 102 = 116 by decide), if_pos x0, if_pos x1, if_pos x2, if_pos x3, t0, t1, t2, t3]
    exact W (hv_Mfact d ok (D10 0) (D10 1) (D10 2) hx)
