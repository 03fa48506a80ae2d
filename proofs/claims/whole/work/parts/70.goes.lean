/-! PURE: the class reads a statement and does it -/
/-- the letters of the class -/
def hv_ltr (n : Nat) (L : Nat → Nat) (σ : am_St) : Prop := n ≤ 96 ∧ σ.1 35 1 = hI n ∧ ∀ i, i < n → σ.1 36 i = hI (L i) ∧ L i < 256
theorem hv_ltr.fr {n : Nat} {L : Nat → Nat} {σ τ : am_St} (x : hv_ltr n L σ) (f : hv_fr hv_pd σ τ) : hv_ltr n L τ := ⟨x.1, by rw [f.2 35 rfl]; exact x.2.1, fun i hi => by rw [f.2 36 rfl]; exact x.2.2 i hi⟩
theorem hv_ltr.at {n : Nat} {L : Nat → Nat} {σ : am_St} (x : hv_ltr n L σ) {p : Nat} (hp : p < n) : f_T_letterAt (hI p) σ = some (hI (L p), σ) := by
  obtain ⟨h1, h2, h3⟩ := x
  rw [eq_T_letterAt]; unfold g_T_letterAt
  rw [if_neg (hI_lt0 (by omega)), h2, if_neg (hI_nle (by omega) (by omega) hp), if_pos (hI_ix (by omega) (by decide)), hI_clamp (by omega), (h3 p hp).1]
theorem hv_ltr.dig {n : Nat} {L : Nat → Nat} {σ : am_St} (x : hv_ltr n L σ) {p : Nat} (hp : p < n) (h : 48 ≤ L p) : f_T_digitAt (hI p) σ = some (hI (L p - 48), σ) := by
  rw [eq_T_digitAt]; unfold g_T_digitAt
  rw [x.at hp]
  simp only [Option.bind_some]
  rw [show hI (L p) - 48 = hI (L p - 48) from hI_sub (m := 48) h]
theorem hv_X_goes {g : hv} {σ : am_St} (d : hv_dev 37 g σ) (ok : hv_ok g) {n : Nat} {L : Nat → Nat} (lt : hv_ltr n L σ) {a b2 : Nat} (ha : a < 10) (hd : ∀ m, m < g.M → b2 + m < n ∧ 48 ≤ L (b2 + m) ∧ L (b2 + m) ≤ 57) : hv_XS σ (f_T_goes (hI a) (hI b2) σ) (@ite _ (a < g.C ∧ hv_wayP g (fun m => L (b2 + m) - 48)) (Classical.propDecidable _) (some (hv_setP g a (fun m => L (b2 + m) - 48))) none) := by
  have kR := ok.R
  have kM := ok.M
  have kC := ok.C
  have kn := lt.1
  rw [eq_T_goes]; unfold g_T_goes
  rw [hv_D37.hasChild d]
  simp only [Option.bind_some]
  by_cases qa : a < g.C
  rotate_left
  · rw [hv_rng_not (by omega) (by omega) (by omega), if_pos rfl, if_neg (fun e => qa e.1)]
    exact hv_XS.no σ rfl (hv_fr.rfl' _ _)
  rw [hv_rng_lt (by omega) qa, if_neg (by decide)]
  have LL : ∃ x, f_T_goes_15 (hI a) (hI b2) 0 σ = some x ∧ ∃ (τ : am_St) (w : Bool), x = ((if w then 1 else 0), τ) ∧ hv_fr hv_pd σ τ ∧ (w = true → hv_wayP g (fun m => L (b2 + m) - 48) ∧ hv_dev 37 (hv_setP g a (fun m => L (b2 + m) - 48)) τ) ∧ (w = false → ¬ hv_wayP g (fun m => L (b2 + m) - 48)) := by
    unfold f_T_goes_15
    refine hv_up g.M (fun i t => ∃ τ, t = (hI a, hI b2, hI i, τ) ∧ hv_fr hv_pd σ τ ∧ (∀ j, j ≠ 43 → τ.1 j = σ.1 j) ∧ (∀ m, m < i → τ.1 43 (a * 6 + m) = hI (L (b2 + m) - 48)) ∧ (∀ j, j < a * 6 ∨ a * 6 + i ≤ j → τ.1 43 j = σ.1 43 j) ∧ ∀ m, m < i → L (b2 + m) - 48 < g.R ∧ (m = 0 ∨ L (b2 + (m - 1)) - 48 = L (b2 + m) - 48 ∨ (g.door (L (b2 + (m - 1)) - 48)).testBit (L (b2 + m) - 48) = true)) 0 (Nat.zero_le _) _ ⟨σ, rfl, hv_fr.rfl' _ _, fun _ _ => rfl, fun m hm => absurd hm (Nat.not_lt_zero m), fun _ _ => rfl, fun m hm => absurd hm (Nat.not_lt_zero m)⟩ ?_ ?_
    · rintro i t hi ⟨τ, rfl, f, k1, k2, k3, k4⟩
      obtain ⟨p1, p2, p3⟩ := hd i hi
      have lt2 := lt.fr f
      have G : ∀ i j, i ≠ 43 → τ.1 i j = σ.1 i j := fun i j e => by rw [k1 i e]
      have d3 : hv_dev 37 (hv_setP g a (fun m => if m < i then L (b2 + m) - 48 else g.place a m)) τ := hv_dev.mk (fR := (G _ _ (by omega)).trans d.R) (fM := (G _ _ (by omega)).trans d.M) (fC := (G _ _ (by omega)).trans d.C) (fdr := (G _ _ (by omega)).trans d.dr) (fdm := (G _ _ (by omega)).trans d.dm) (fF := (G _ _ (by omega)).trans d.F) (fS := (G _ _ (by omega)).trans d.S) (fdoor := fun r hr => (G _ _ (by omega)).trans (d.door r hr)) (fkind := fun r hr => (G _ _ (by omega)).trans (d.kind r hr)) (ffig := fun r hr => (G _ _ (by omega)).trans (d.fig r hr)) (ftie := fun r hr => (G _ _ (by omega)).trans (d.tie r hr)) (fskill := fun r hr => (G _ _ (by omega)).trans (d.skill r hr)) (fplace := fun c hc m hm => by
        have hm' : m < g.M := hm
        have hc' : c < g.C := hc
        show τ.1 43 (c * 6 + m) = hI (if c = a then (if m < i then L (b2 + m) - 48 else g.place a m) else g.place c m)
        by_cases q : c = a
        · rw [if_pos q, q]
          by_cases q2 : m < i
          · rw [if_pos q2]; exact k2 m q2
          · rw [if_neg q2, k3 _ (by omega)]; exact d.place a qa m hm'
        · rw [if_neg q, k3 _ (by omega)]; exact d.place c hc' m hm') (fchance := fun r hr => (G _ _ (by omega)).trans (d.chance r hr)) (ffact := fun r hr => (G _ _ (by omega)).trans (d.fact r hr)) (fsay := fun r hr => (G _ _ (by omega)).trans (d.say r hr))
      have ok3 : hv_ok (hv_setP g a (fun m => if m < i then L (b2 + m) - 48 else g.place a m)) := hv_setP_ok ok fun m hm => by
        show (if m < i then L (b2 + m) - 48 else g.place a m) < g.R
        split
        · rename_i q; exact (k4 m q).1
        · exact ok.place a qa m hm
      have e0 : hI b2 + hI i = hI (b2 + i) := hI_add _ _
      have PP : f_H_putPlace_37 (hI a) (hI i) (hI (L (b2 + i) - 48)) τ = some (am_sI τ 43 (a * 6 + i) (hI (L (b2 + i) - 48))) := by
        rw [eq_H_putPlace_37]; unfold g_H_putPlace_37
        rw [hv_D37.hasChild d3, hv_rng_lt (show (hv_setP g a _).C < 2 ^ 31 by show g.C < 2 ^ 31; omega) (show a < g.C from qa)]
        simp only [Option.bind_some, hv_10, ↓reduceIte]
        rw [hv_D37.hasMinute d3, hv_rng_lt (show (hv_setP g a _).M < 2 ^ 31 by show g.M < 2 ^ 31; omega) (show i < g.M from hi)]
        simp only [Option.bind_some, hv_10, ↓reduceIte]
        rw [show hI a * 6 + hI i = hI (a * 6 + i) by rw [show (6 : Int32) = hI 6 from rfl, hI_mul, hI_add], if_pos (hI_ix (by omega) (by decide)), hI_clamp (by omega)]
      have A : ∀ be, be < 10 → (be < g.R ∧ L (b2 + i) - 48 < g.R ∧ (be = L (b2 + i) - 48 ∨ (g.door be).testBit (L (b2 + i) - 48) = true) → f_T_goes_53 (hI a) (hI b2) (hI i) (hI (L (b2 + i) - 48)) (hI be) τ = some (.inl (hI a, hI b2, hI (i + 1), am_sI τ 43 (a * 6 + i) (hI (L (b2 + i) - 48))))) ∧ (¬ (be < g.R ∧ L (b2 + i) - 48 < g.R ∧ (be = L (b2 + i) - 48 ∨ (g.door be).testBit (L (b2 + i) - 48) = true)) → f_T_goes_53 (hI a) (hI b2) (hI i) (hI (L (b2 + i) - 48)) (hI be) τ = some (.inr (0, τ))) := fun be hbe => by
        have IS : f_H_isStep_37 (hI be) (hI (L (b2 + i) - 48)) τ = some (if be < g.R ∧ L (b2 + i) - 48 < g.R ∧ (be = L (b2 + i) - 48 ∨ (g.door be).testBit (L (b2 + i) - 48) = true) then 1 else 0, τ) := hv_D37.isStep d3 ok3 hbe (by omega)
        rw [eq_T_goes_53]; unfold g_T_goes_53
        rw [IS]
        simp only [Option.bind_some]
        refine ⟨fun q => ?_, fun q => ?_⟩
        · rw [if_pos q, if_neg (by decide), PP]
          simp only [Option.bind_some, eq_T_goes_82, g_T_goes_82, hI_add1]
        · rw [if_neg q, if_pos rfl]
      have B : b_T_goes_15 (hI a) (hI b2) (hI i) τ = f_T_goes_53 (hI a) (hI b2) (hI i) (hI (L (b2 + i) - 48)) (hI (if i = 0 then L (b2 + i) - 48 else L (b2 + (i - 1)) - 48)) τ := by
        unfold b_T_goes_15
        rw [show τ.1 37 1 = hI g.M from d3.M, if_neg (hI_nle (by omega) (by omega) hi), e0, lt2.dig p1 p2]
        simp only [Option.bind_some]
        by_cases q : i = 0
        · rw [if_pos (show hI i = 0 by rw [q]; rfl), if_pos q]
        · obtain ⟨r1, r2, r3⟩ := hd (i - 1) (by omega)
          rw [if_neg (hI_ne0 (by omega) q), if_neg q, show hI (b2 + i) - 1 = hI (b2 + (i - 1)) by rw [show hI (b2 + i) - 1 = hI (b2 + i - 1) from hI_sub (m := 1) (by omega)]; congr 1; omega, lt2.dig r1 r2]
          rfl
      have hbe : (if i = 0 then L (b2 + i) - 48 else L (b2 + (i - 1)) - 48) < 10 := by
        split
        · omega
        · obtain ⟨r1, r2, r3⟩ := hd (i - 1) (by omega); omega
      obtain ⟨A1, A2⟩ := A _ hbe
      show (∃ s2, b_T_goes_15 (hI a) (hI b2) (hI i) τ = _ ∧ _) ∨ ∃ x, b_T_goes_15 (hI a) (hI b2) (hI i) τ = _ ∧ _
      by_cases q : L (b2 + i) - 48 < g.R ∧ (i = 0 ∨ L (b2 + (i - 1)) - 48 = L (b2 + i) - 48 ∨ (g.door (L (b2 + (i - 1)) - 48)).testBit (L (b2 + i) - 48) = true)
      · have c : (if i = 0 then L (b2 + i) - 48 else L (b2 + (i - 1)) - 48) < g.R ∧ L (b2 + i) - 48 < g.R ∧ ((if i = 0 then L (b2 + i) - 48 else L (b2 + (i - 1)) - 48) = L (b2 + i) - 48 ∨ (g.door (if i = 0 then L (b2 + i) - 48 else L (b2 + (i - 1)) - 48)).testBit (L (b2 + i) - 48) = true) := by
          by_cases z : i = 0
          · rw [if_pos z]; exact ⟨q.1, q.1, .inl rfl⟩
          · rw [if_neg z]; exact ⟨(k4 (i - 1) (by omega)).1, q.1, q.2.resolve_left z⟩
        rw [A1 c] at B
        refine .inl ⟨_, B, _, rfl, f.set 43 _ _ rfl, fun j hj => by rw [hv_g2 _ hj]; exact k1 j hj, fun m hm => ?_, fun j hj => ?_, fun m hm => ?_⟩
        · by_cases z : m = i
          · subst z; rw [hv_g1]
          · rw [hv_g3 _ _ (by omega)]; exact k2 m (by omega)
        · rw [hv_g3 _ _ (by omega)]; exact k3 j (by omega)
        · by_cases z : m = i
          · subst z; exact q
          · exact k4 m (by omega)
      · have c : ¬ ((if i = 0 then L (b2 + i) - 48 else L (b2 + (i - 1)) - 48) < g.R ∧ L (b2 + i) - 48 < g.R ∧ ((if i = 0 then L (b2 + i) - 48 else L (b2 + (i - 1)) - 48) = L (b2 + i) - 48 ∨ (g.door (if i = 0 then L (b2 + i) - 48 else L (b2 + (i - 1)) - 48)).testBit (L (b2 + i) - 48) = true)) := fun c => q (by
          by_cases z : i = 0
          · exact ⟨c.2.1, .inl z⟩
          · rw [if_neg z] at c; exact ⟨c.2.1, .inr c.2.2⟩)
        rw [A2 c] at B
        refine .inr ⟨_, B, τ, false, rfl, f, fun e => (by cases e), fun _ w => q ?_⟩
        exact w i hi
    · rintro t ⟨τ, rfl, f, k1, k2, k3, k4⟩
      have G : ∀ i j, i ≠ 43 → τ.1 i j = σ.1 i j := fun i j e => by rw [k1 i e]
      refine ⟨(1, τ), ?_, τ, true, rfl, f, fun _ => ⟨k4, ?_⟩, fun e => by cases e⟩
      · show b_T_goes_15 (hI a) (hI b2) (hI g.M) τ = _
        unfold b_T_goes_15
        rw [G 37 1 (by decide), show σ.1 37 1 = hI g.M from d.M, if_pos (Int32.le_refl _)]
      · exact hv_dev.mk (fR := (G _ _ (by omega)).trans d.R) (fM := (G _ _ (by omega)).trans d.M) (fC := (G _ _ (by omega)).trans d.C) (fdr := (G _ _ (by omega)).trans d.dr) (fdm := (G _ _ (by omega)).trans d.dm) (fF := (G _ _ (by omega)).trans d.F) (fS := (G _ _ (by omega)).trans d.S) (fdoor := fun r hr => (G _ _ (by omega)).trans (d.door r hr)) (fkind := fun r hr => (G _ _ (by omega)).trans (d.kind r hr)) (ffig := fun r hr => (G _ _ (by omega)).trans (d.fig r hr)) (ftie := fun r hr => (G _ _ (by omega)).trans (d.tie r hr)) (fskill := fun r hr => (G _ _ (by omega)).trans (d.skill r hr)) (fplace := fun c hc m hm => by
          have hm' : m < g.M := hm
          have hc' : c < g.C := hc
          show τ.1 43 (c * 6 + m) = hI (if c = a then L (b2 + m) - 48 else g.place c m)
          by_cases q : c = a
          · rw [if_pos q, q]; exact k2 m hm'
          · rw [if_neg q]
            by_cases q2 : c * 6 + m < a * 6
            · rw [k3 _ (.inl q2)]; exact d.place c hc' m hm'
            · rw [k3 _ (.inr (by omega))]; exact d.place c hc' m hm') (fchance := fun r hr => (G _ _ (by omega)).trans (d.chance r hr)) (ffact := fun r hr => (G _ _ (by omega)).trans (d.fact r hr)) (fsay := fun r hr => (G _ _ (by omega)).trans (d.say r hr))
  obtain ⟨x, e, τ, w, rfl, f, w1, w2⟩ := LL
  rw [e]
  cases w
  · rw [if_neg (show ¬ (a < g.C ∧ hv_wayP g (fun m => L (b2 + m) - 48)) from fun z => w2 rfl z.2)]
    exact hv_XS.no τ rfl f
  · rw [if_pos (show a < g.C ∧ hv_wayP g (fun m => L (b2 + m) - 48) from ⟨qa, (w1 rfl).1⟩)]
    exact hv_XS.yes τ rfl f (w1 rfl).2
theorem hv_X_knows {g : hv} {σ : am_St} (d : hv_dev 37 g σ) (ok : hv_ok g) {n : Nat} {L : Nat → Nat} (lt : hv_ltr n L σ) {b : Nat} (hn : b + 4 < n) (hd : ∀ i, i < 3 → 48 ≤ L (b + 1 + i) ∧ L (b + 1 + i) ≤ 57) {x : Nat} (hx : x = if L (b + 4) = 43 then 1 else 0) : hv_XS σ (f_T_knows (hI b) σ) (@ite _ (L (b + 1 + 0) - 48 < g.C ∧ L (b + 1 + 1) - 48 < g.M ∧ L (b + 1 + 2) - 48 < g.R ∧ g.F < 16 ∧ 0 < hv_all (hv_addF g (L (b + 1 + 0) - 48) (L (b + 1 + 1) - 48) (L (b + 1 + 2) - 48) x) (hv_may (hv_addF g (L (b + 1 + 0) - 48) (L (b + 1 + 1) - 48) (L (b + 1 + 2) - 48) x) (L (b + 1 + 0) - 48))) (Classical.propDecidable _) (some (hv_addF g (L (b + 1 + 0) - 48) (L (b + 1 + 1) - 48) (L (b + 1 + 2) - 48) x)) none) := by
  have kR := ok.R
  have kM := ok.M
  have kC := ok.C
  have kF := ok.F
  have kn := lt.1
  obtain ⟨u1, u2⟩ := hd 0 (by decide)
  obtain ⟨u3, u4⟩ := hd 1 (by decide)
  obtain ⟨u5, u6⟩ := hd 2 (by decide)
  have l4 := (lt.2.2 (b + 4) hn).2
  have x2 : x < 2 := by rw [hx]; split <;> decide
  rw [eq_T_knows]; unfold g_T_knows
  rw [hI_add1, show hI b + 2 = hI (b + 2) from hI_add b 2, show f_T_digitAt (hI (b + 1)) σ = _ from lt.dig (p := b + 1 + 0) (by omega) u1]
  simp only [Option.bind_some]
  rw [show f_T_digitAt (hI (b + 2)) σ = _ from lt.dig (p := b + 1 + 1) (by omega) u3]
  simp only [Option.bind_some]
  rw [eq_T_knows_17]; unfold g_T_knows_17
  rw [show hI b + 3 = hI (b + 3) from hI_add b 3, show f_T_digitAt (hI (b + 3)) σ = _ from lt.dig (p := b + 1 + 2) (by omega) u5]
  simp only [Option.bind_some]
  rw [show hI b + 4 = hI (b + 4) from hI_add b 4, lt.at hn]
  simp only [Option.bind_some]
  generalize hA : L (b + 1 + 0) - 48 = a
  generalize hB : L (b + 1 + 1) - 48 = m
  generalize hC : L (b + 1 + 2) - 48 = r
  have a10 : a < 10 := by omega
  have m10 : m < 10 := by omega
  have r10 : r < 10 := by omega
  have K : ∀ y : Int32, y = hI x → f_T_knows_43 (hI a) (hI m) (hI r) y σ = f_T_knows_43 (hI a) (hI m) (hI r) (hI x) σ := fun y e => by rw [e]
  have E : (if hI (L (b + 4)) = 43 then f_T_knows_38 (hI a) (hI m) (hI r) σ else f_T_knows_42 (hI a) (hI m) (hI r) σ) = f_T_knows_43 (hI a) (hI m) (hI r) (hI x) σ := by
    rw [eq_T_knows_38, eq_T_knows_42]
    unfold g_T_knows_38 g_T_knows_42
    by_cases q : L (b + 4) = 43
    · rw [if_pos (show hI (L (b + 4)) = 43 by rw [q]; rfl), hx, if_pos q]; rfl
    · rw [if_neg (show ¬ hI (L (b + 4)) = 43 from hI_ne (m := 43) (by omega) (by decide) q), hx, if_neg q]; rfl
  rw [E, eq_T_knows_43]
  unfold g_T_knows_43
  have BX : f_X_bit (hI x) σ = some (hI x, σ) := by
    rw [eq_X_bit]; unfold g_X_bit
    obtain rfl | rfl : x = 0 ∨ x = 1 := by omega
    · rfl
    · rfl
  rw [BX]
  simp only [Option.bind_some]
  rw [hv_D37.hasChild d]
  simp only [Option.bind_some]
  by_cases qa : a < g.C
  rotate_left
  · rw [hv_rng_not (by omega) (by omega) (by omega), if_pos rfl, if_neg (fun e => qa e.1)]
    exact hv_XS.no σ rfl (hv_fr.rfl' _ _)
  rw [hv_rng_lt (by omega) qa, if_neg (by decide), hv_D37.hasMinute d]
  simp only [Option.bind_some]
  by_cases qm : m < g.M
  rotate_left
  · rw [hv_rng_not (by omega) (by omega) (by omega), if_pos rfl, if_neg (fun e => qm e.2.1)]
    exact hv_XS.no σ rfl (hv_fr.rfl' _ _)
  rw [hv_rng_lt (by omega) qm, if_neg (by decide), eq_T_knows_71]
  unfold g_T_knows_71
  rw [hv_D37.hasRoom d]
  simp only [Option.bind_some]
  by_cases qr : r < g.R
  rotate_left
  · rw [hv_rng_not (by omega) (by omega) (by omega), if_pos rfl, if_neg (fun e => qr e.2.2.1)]
    exact hv_XS.no σ rfl (hv_fr.rfl' _ _)
  rw [hv_rng_lt (by omega) qr, if_neg (by decide)]
  by_cases qF : g.F < 16
  rotate_left
  · have AF : f_H_addFact_37 (hI a) (hI m) (hI r) (hI x) σ = some (0, σ) := by
      have D : σ.1 37 5 = hI g.F := d.F
      rw [eq_H_addFact_37]; unfold g_H_addFact_37
      rw [D, if_neg (hI_lt0 (by omega)), if_neg (show ¬ hI g.F < 16 from hI_nlt (m := 16) (by omega) (by decide) (by omega))]
    rw [AF, if_neg (fun e => qF e.2.2.2.1)]
    exact hv_XS.no σ rfl (hv_fr.rfl' _ _)
  have ok2 := hv_addF_ok ok qF qa qm qr x2
  have f2 : hv_fr hv_pd σ (am_sI (am_sI σ 45 g.F (hI (hv_mark a m r x))) 37 5 (hI (g.F + 1))) := ((hv_fr.rfl' hv_pd σ).set 45 _ _ rfl).set 37 _ _ rfl
  obtain ⟨υ, e, fr⟩ := hv_W_some_37 (hv_addF_dev_37 d a m r x) ok2 a (by omega)
  have d2 := fr.dev (by decide) (hv_addF_dev_37 d a m r x)
  rw [hv_addFact_37 d ok qF qa qm qr x2]
  simp only [Option.bind_some, hv_10, ↓reduceIte]
  rw [eq_T_knows_100]; unfold g_T_knows_100
  rw [e]
  simp only [Option.bind_some]
  by_cases w : 0 < hv_all (hv_addF g a m r x) (hv_may (hv_addF g a m r x) a)
  · rw [if_pos w, if_neg (by decide), if_pos (show a < g.C ∧ m < g.M ∧ r < g.R ∧ g.F < 16 ∧ 0 < hv_all (hv_addF g a m r x) (hv_may (hv_addF g a m r x) a) from ⟨qa, qm, qr, qF, w⟩)]
    exact hv_XS.yes υ rfl (f2.trans fr.pd) d2
  · rw [if_neg w, if_pos rfl, if_neg (show ¬ (a < g.C ∧ m < g.M ∧ r < g.R ∧ g.F < 16 ∧ 0 < hv_all (hv_addF g a m r x) (hv_may (hv_addF g a m r x) a)) from fun e => w e.2.2.2.2)]
    exact hv_XS.no υ rfl (f2.trans fr.pd)
