/-! PURE: the image and back -/
theorem hv_k1 (σ : am_St) (i : Nat) (f : Nat → Int32) : (am_rI σ i f).1 i = f := by simp [am_rI]
theorem hv_k2 (σ : am_St) {i j : Nat} (h : j ≠ i) (f : Nat → Int32) : (am_rI σ i f).1 j = σ.1 j := by simp [am_rI, h]
theorem hv_cpy {f g : Nat → Int32} {n k : Nat} (h : k < n) : va_cpy f g 0 0 n k = f k := by
  unfold va_cpy
  rw [if_pos ⟨Nat.zero_le _, by omega⟩, Nat.zero_add, Nat.sub_zero]
/-- the cell of the place q of an image -/
def hv_cell (q : Nat) : Nat × Nat :=
  if q < 7 then (66, q)
  else if q < 27 then (67 + (q - 7) % 5, (q - 7) / 5)
  else if q < 51 then (72, q - 27)
  else if q < 54 then (77, q - 51)
  else if q < 118 then (73 + (q - 54) % 4, (q - 54) / 4)
  else (78 + (q - 118) % 4, (q - 118) / 4)
theorem hv_cell_inj : ∀ q, q < 150 → ∀ j, j < q → ¬ hv_cell j = hv_cell q := by decide +kernel
theorem hv_cell_hm : ∀ q, q < 150 → hv_hm (hv_cell q).1 (hv_cell q).2 = true ∧ (hv_cell q).1 < 82 := by decide +kernel
theorem hv_cell_a : ∀ q, q < 7 → hv_cell q = (66, q) := by decide
theorem hv_cell_b : ∀ c, c < 4 → hv_cell (7 + 5 * c) = (67, c) ∧ hv_cell (8 + 5 * c) = (68, c) ∧ hv_cell (9 + 5 * c) = (69, c) ∧ hv_cell (10 + 5 * c) = (70, c) ∧ hv_cell (11 + 5 * c) = (71, c) := by decide
theorem hv_cell_c : ∀ k, k < 24 → hv_cell (27 + k) = (72, k) := by decide
theorem hv_cell_d : ∀ k, k < 3 → hv_cell (51 + k) = (77, k) := by decide
theorem hv_cell_e : ∀ i, i < 16 → hv_cell (54 + 4 * i) = (73, i) ∧ hv_cell (55 + 4 * i) = (74, i) ∧ hv_cell (56 + 4 * i) = (75, i) ∧ hv_cell (57 + 4 * i) = (76, i) := by decide +kernel
theorem hv_cell_f : ∀ i, i < 8 → hv_cell (118 + 4 * i) = (78, i) ∧ hv_cell (119 + 4 * i) = (79, i) ∧ hv_cell (120 + 4 * i) = (80, i) ∧ hv_cell (121 + 4 * i) = (81, i) := by decide +kernel
/-- q places are carried, between the model's house and the row id; t: taken, else given back -/
def hv_cI (id : Nat) (t : Bool) (σ : am_St) (q : Nat) (τ : am_St) : Prop :=
  (τ.2.2 = some id)
  ∧ (τ.1 66 39 = hI q)
  ∧ (τ.1 66 40 = if t then 1 else 0)
  ∧ (∀ i j, i ≠ id → ¬ (i = 66 ∧ (j = 39 ∨ j = 40)) → hv_hm i j = false → τ.1 i j = σ.1 i j)
  ∧ (t = true → (∀ i j, hv_hm i j = true → τ.1 i j = σ.1 i j) ∧ ∀ j, j < q → τ.1 id j = σ.1 (hv_cell j).1 (hv_cell j).2)
  ∧ (t = false → τ.1 id = σ.1 id ∧ ∀ j, j < q → τ.1 (hv_cell j).1 (hv_cell j).2 = σ.1 id j)
theorem hv_cI.kp {id : Nat} {t : Bool} {σ : am_St} {q : Nat} {τ : am_St} (x : hv_cI id t σ q τ) : τ.2.2 = some id := x.1
theorem hv_cI.at' {id : Nat} {t : Bool} {σ : am_St} {q : Nat} {τ : am_St} (x : hv_cI id t σ q τ) : τ.1 66 39 = hI q := x.2.1
theorem hv_cI.tk {id : Nat} {t : Bool} {σ : am_St} {q : Nat} {τ : am_St} (x : hv_cI id t σ q τ) : τ.1 66 40 = if t then 1 else 0 := x.2.2.1
theorem hv_cI.fr {id : Nat} {t : Bool} {σ : am_St} {q : Nat} {τ : am_St} (x : hv_cI id t σ q τ) : ∀ i j, i ≠ id → ¬ (i = 66 ∧ (j = 39 ∨ j = 40)) → hv_hm i j = false → τ.1 i j = σ.1 i j := x.2.2.2.1
theorem hv_cI.yes {id : Nat} {t : Bool} {σ : am_St} {q : Nat} {τ : am_St} (x : hv_cI id t σ q τ) : t = true → (∀ i j, hv_hm i j = true → τ.1 i j = σ.1 i j) ∧ ∀ j, j < q → τ.1 id j = σ.1 (hv_cell j).1 (hv_cell j).2 := x.2.2.2.2.1
theorem hv_cI.no {id : Nat} {t : Bool} {σ : am_St} {q : Nat} {τ : am_St} (x : hv_cI id t σ q τ) : t = false → τ.1 id = σ.1 id ∧ ∀ j, j < q → τ.1 (hv_cell j).1 (hv_cell j).2 = σ.1 id j := x.2.2.2.2.2
theorem hv_cI.mk {id : Nat} {t : Bool} {σ : am_St} {q : Nat} {τ : am_St} (fkp : τ.2.2 = some id) (fat' : τ.1 66 39 = hI q) (ftk : τ.1 66 40 = if t then 1 else 0) (ffr : ∀ i j, i ≠ id → ¬ (i = 66 ∧ (j = 39 ∨ j = 40)) → hv_hm i j = false → τ.1 i j = σ.1 i j) (fyes : t = true → (∀ i j, hv_hm i j = true → τ.1 i j = σ.1 i j) ∧ ∀ j, j < q → τ.1 id j = σ.1 (hv_cell j).1 (hv_cell j).2) (fno : t = false → τ.1 id = σ.1 id ∧ ∀ j, j < q → τ.1 (hv_cell j).1 (hv_cell j).2 = σ.1 id j) : hv_cI id t σ q τ := ⟨fkp, fat', ftk, ffr, fyes, fno⟩
theorem hv_hm_66 {i k : Nat} (h : hv_hm i k = true) : i < 82 ∧ ¬ (i = 66 ∧ (k = 39 ∨ k = 40)) := by
  unfold hv_hm at h
  rw [Bool.or_eq_true, Bool.and_eq_true, Bool.and_eq_true] at h
  rcases h with ⟨h1, h2⟩ | ⟨h1, h2⟩
  · have := Nat.eq_of_beq_eq_true h1
    have := Nat.le_of_ble_eq_true h2
    omega
  · have := Nat.le_of_ble_eq_true h1
    have := Nat.le_of_ble_eq_true h2
    omega
theorem hv_cry_90 {t : Bool} {σ τ : am_St} {q q2 i k : Nat} (I : hv_cI 90 t σ q τ) (hq : q < 150) (h2 : q2 = q + 1) (hc : hv_cell q = (i, k)) : ∃ y υ, f_M_carry (τ.1 i k) τ = some (y, υ) ∧ hv_cI 90 t σ q2 (am_sI υ i k y) := by
  subst h2
  have hm := hv_cell_hm q hq
  rw [hc] at hm
  obtain ⟨hm1, hm2⟩ := hm
  dsimp only at hm1 hm2
  have h66 := (hv_hm_66 hm1).2
  have ix : am_ix (hI q) 154 = true := hI_ix (by omega) (by decide)
  have cl : (hI q).toNatClampNeg = q := hI_clamp (by omega)
  have sb : hI (q + 1) - 1 = hI q := hI_sub (n := q + 1) (m := 1) (by omega)
  have A : ∀ υ : am_St, υ.2.2 = some 90 → υ.1 66 39 = hI q → f_M_carry_17 υ = some (υ.1 90 q, am_sI υ 66 39 (hI (q + 1))) := fun υ a b => by
    rw [eq_M_carry_17]; unfold g_M_carry_17
    dsimp only
    rw [b, hI_add1, show (am_sI υ 66 39 (hI (q + 1))).2.2 = some 90 from a, Option.bind_some]
    simp only [Nat.reduceEqDiff, ↓reduceIte]
    rw [hv_g1, sb, if_pos ix, cl, hv_g2 _ (show (90 : Nat) ≠ 66 by decide)]
  cases t
  · refine ⟨τ.1 90 q, am_sI τ 66 39 (hI (q + 1)), ?_, ?_⟩
    · rw [eq_M_carry]; unfold g_M_carry
      rw [I.tk, if_pos (show (if false = true then (1 : Int32) else 0) = 0 from rfl), A τ I.kp I.at']
    · refine hv_cI.mk I.kp ?_ ?_ (fun a b h1 h2 h3 => ?_) (fun e => by cases e) (fun _ => ⟨?_, fun j hj => ?_⟩)
      · rw [show (am_sI (am_sI τ 66 39 (hI (q + 1))) i k (τ.1 90 q)).1 66 39 = (am_sI τ 66 39 (hI (q + 1))).1 66 39 by
          by_cases c : (66 : Nat) = i
          · subst c; rw [hv_g3 _ _ (by omega)]
          · rw [hv_g2 _ c], hv_g1]
      · rw [show (am_sI (am_sI τ 66 39 (hI (q + 1))) i k (τ.1 90 q)).1 66 40 = (am_sI τ 66 39 (hI (q + 1))).1 66 40 by
          by_cases c : (66 : Nat) = i
          · subst c; rw [hv_g3 _ _ (by omega)]
          · rw [hv_g2 _ c], hv_g3 _ _ (by decide)]
        exact I.tk
      · have e1 : (am_sI (am_sI τ 66 39 (hI (q + 1))) i k (τ.1 90 q)).1 a b = (am_sI τ 66 39 (hI (q + 1))).1 a b := by
          by_cases c : a = i
          · subst c
            by_cases c2 : b = k
            · subst c2; rw [hm1] at h3; cases h3
            · rw [hv_g3 _ _ c2]
          · rw [hv_g2 _ c]
        rw [e1]
        by_cases c : a = 66
        · subst c
          rw [hv_g3 _ _ (by omega)]; exact I.fr _ _ h1 h2 h3
        · rw [hv_g2 _ c]; exact I.fr _ _ h1 h2 h3
      · rw [hv_g2 _ (by omega), hv_g2 _ (by decide)]; exact (I.no rfl).1
      · by_cases c : j = q
        · subst c
          rw [hc]
          rw [hv_g1, (I.no rfl).1]
        · have e2 := (I.no rfl).2 j (by omega)
          have hj2 := hv_cell_hm j (by omega)
          have hj3 := (hv_hm_66 hj2.1).2
          have ne := hv_cell_inj q hq j (by omega)
          rw [hc] at ne
          rw [← e2]
          have e3 : (am_sI (am_sI τ 66 39 (hI (q + 1))) i k (τ.1 90 q)).1 (hv_cell j).1 (hv_cell j).2 = (am_sI τ 66 39 (hI (q + 1))).1 (hv_cell j).1 (hv_cell j).2 := by
            by_cases c1 : (hv_cell j).1 = i
            · by_cases c2 : (hv_cell j).2 = k
              · exact absurd (Prod.ext c1 c2) ne
              · rw [c1, hv_g3 _ _ c2]
            · rw [hv_g2 _ c1]
          rw [e3]
          by_cases c1 : (hv_cell j).1 = 66
          · rw [c1, hv_g3 _ _ (by omega)]
          · rw [hv_g2 _ c1]
  · refine ⟨τ.1 i k, am_sI (am_sI τ 90 q (τ.1 i k)) 66 39 (hI (q + 1)), ?_, ?_⟩
    · rw [eq_M_carry]; unfold g_M_carry
      rw [I.tk, if_neg (show ¬ (if true = true then (1 : Int32) else 0) = 0 by decide), I.kp, Option.bind_some]
      simp only [Nat.reduceEqDiff, ↓reduceIte]
      rw [I.at', if_pos ix, cl, A _ (by exact I.kp) (by rw [hv_g2 _ (by decide)]; exact I.at'), hv_g1]
    · have e0 : ∀ a b, a ≠ 90 → ¬ (a = 66 ∧ b = 39) → (am_sI (am_sI (am_sI τ 90 q (τ.1 i k)) 66 39 (hI (q + 1))) i k (τ.1 i k)).1 a b = τ.1 a b := fun a b h1 h2 => by
        by_cases c : a = i
        · subst c
          by_cases c2 : b = k
          · subst c2; rw [hv_g1]
          · rw [hv_g3 _ _ c2]
            by_cases c3 : a = 66
            · subst c3; rw [hv_g3 _ _ (by omega), hv_g2 _ h1]
            · rw [hv_g2 _ c3, hv_g2 _ h1]
        · rw [hv_g2 _ c]
          by_cases c3 : a = 66
          · subst c3; rw [hv_g3 _ _ (by omega), hv_g2 _ h1]
          · rw [hv_g2 _ c3, hv_g2 _ h1]
      refine hv_cI.mk I.kp ?_ ?_ (fun a b h1 h2 h3 => ?_) (fun _ => ⟨fun a b h1 => ?_, fun j hj => ?_⟩) (fun e => by cases e)
      · rw [show (am_sI (am_sI (am_sI τ 90 q (τ.1 i k)) 66 39 (hI (q + 1))) i k (τ.1 i k)).1 66 39 = (am_sI (am_sI τ 90 q (τ.1 i k)) 66 39 (hI (q + 1))).1 66 39 by
          by_cases c : (66 : Nat) = i
          · subst c; rw [hv_g3 _ _ (by omega)]
          · rw [hv_g2 _ c], hv_g1]
      · rw [e0 66 40 (by decide) (by decide)]; exact I.tk
      · rw [e0 a b h1 (by omega)]; exact I.fr _ _ h1 h2 h3
      · have k1 := hv_hm_66 h1
        rw [e0 a b (by omega) (by omega)]; exact (I.yes rfl).1 a b h1
      · rw [hv_g2 _ (by omega), hv_g2 _ (by decide)]
        by_cases c : j = q
        · subst c
          rw [hv_g1, hc]; exact (I.yes rfl).1 _ _ hm1
        · rw [hv_g3 _ _ c]; exact (I.yes rfl).2 j (by omega)
theorem hv_carrySays_90 {t : Bool} {σ τ : am_St} (I : hv_cI 90 t σ 54 τ) : ∃ υ, f_M_carrySays τ = some υ ∧ hv_cI 90 t σ 150 υ := by
  rw [eq_M_carrySays]; unfold g_M_carrySays f_M_carrySays_2
  refine hv_up 16 (fun i s => s.1 = hI i ∧ hv_cI 90 t σ (54 + 4 * i) s.2) 0 (Nat.zero_le _) _ ⟨rfl, I⟩ ?_ ?_
  · rintro i ⟨x, υ⟩ hi ⟨e1, J⟩
    dsimp only at e1 J
    subst e1
    have ix : am_ix (hI i) 17 = true := hI_ix (by omega) (by decide)
    have cl : (hI i).toNatClampNeg = i := hI_clamp (by omega)
    obtain ⟨c1, c2, c3, c4⟩ := hv_cell_e i hi
    obtain ⟨y1, υ1, r1, J1⟩ := hv_cry_90 J (q2 := 55 + 4 * i) (by omega) (by omega) c1
    obtain ⟨y2, υ2, r2, J2⟩ := hv_cry_90 J1 (q2 := 56 + 4 * i) (by omega) (by omega) c2
    obtain ⟨y3, υ3, r3, J3⟩ := hv_cry_90 J2 (q2 := 57 + 4 * i) (by omega) (by omega) c3
    obtain ⟨y4, υ4, r4, J4⟩ := hv_cry_90 J3 (q2 := 54 + 4 * (i + 1)) (by omega) (by omega) c4
    refine .inl ⟨(hI (i + 1), am_sI υ4 76 i y4), ?_, rfl, J4⟩
    show b_M_carrySays_2 (hI i) υ = _
    unfold b_M_carrySays_2
    rw [if_neg (hI_nge16 hi)]
    simp only [ix, cl, r1, r2, r3, r4, Option.bind_some, ↓reduceIte, eq_M_carrySays_40, g_M_carrySays_40, eq_M_carrySays_72, g_M_carrySays_72, hI_add1]
  · rintro ⟨x, υ⟩ ⟨e1, J⟩
    dsimp only at e1 J
    subst e1
    have L : ∃ ω, f_M_carrySays_80 0 υ = some ω ∧ hv_cI 90 t σ 150 ω := by
      unfold f_M_carrySays_80
      refine hv_up 8 (fun i s => s.1 = hI i ∧ hv_cI 90 t σ (118 + 4 * i) s.2) 0 (Nat.zero_le _) _ ⟨rfl, J⟩ ?_ ?_
      · rintro i ⟨x, υ⟩ hi ⟨e1, J⟩
        dsimp only at e1 J
        subst e1
        have ix : am_ix (hI i) 8 = true := hI_ix (by omega) (by decide)
        have cl : (hI i).toNatClampNeg = i := hI_clamp (by omega)
        obtain ⟨c1, c2, c3, c4⟩ := hv_cell_f i hi
        obtain ⟨y1, υ1, r1, J1⟩ := hv_cry_90 J (q2 := 119 + 4 * i) (by omega) (by omega) c1
        obtain ⟨y2, υ2, r2, J2⟩ := hv_cry_90 J1 (q2 := 120 + 4 * i) (by omega) (by omega) c2
        obtain ⟨y3, υ3, r3, J3⟩ := hv_cry_90 J2 (q2 := 121 + 4 * i) (by omega) (by omega) c3
        obtain ⟨y4, υ4, r4, J4⟩ := hv_cry_90 J3 (q2 := 118 + 4 * (i + 1)) (by omega) (by omega) c4
        refine .inl ⟨(hI (i + 1), am_sI υ4 81 i y4), ?_, rfl, J4⟩
        show b_M_carrySays_80 (hI i) υ = _
        unfold b_M_carrySays_80
        rw [if_neg (hI_nge8 hi)]
        simp only [ix, cl, r1, r2, r3, r4, Option.bind_some, ↓reduceIte, eq_M_carrySays_118, g_M_carrySays_118, eq_M_carrySays_150, g_M_carrySays_150, hI_add1]
      · rintro ⟨x, υ⟩ ⟨e1, J⟩
        dsimp only at e1 J
        subst e1
        exact ⟨υ, rfl, J⟩
    obtain ⟨ω, e, K⟩ := L
    refine ⟨ω, ?_, K⟩
    show b_M_carrySays_2 (hI 16) υ = _
    unfold b_M_carrySays_2
    rw [if_pos (show (16 : Int32) ≤ hI 16 by decide), e]; rfl
theorem hv_carryAll_90 (t : Bool) (σ : am_St) : ∃ υ, f_M_carryAll_90 (if t then 1 else 0) σ = some υ ∧ hv_cI 90 t σ 150 υ := by
  rw [eq_M_carryAll_90]; unfold g_M_carryAll_90
  have I0 : hv_cI 90 t σ 0 (am_sI (am_sI (am_sK σ (some 90)) 66 40 (if t then 1 else 0)) 66 39 0) := by
    have e0 : ∀ i j, ¬ (i = 66 ∧ (j = 39 ∨ j = 40)) → (am_sI (am_sI (am_sK σ (some 90)) 66 40 (if t then 1 else 0)) 66 39 0).1 i j = σ.1 i j := fun i j h => by
      by_cases c : i = 66
      · subst c; rw [hv_g3 _ _ (by omega), hv_g3 _ _ (by omega)]; rfl
      · rw [hv_g2 _ c, hv_g2 _ c]; rfl
    refine hv_cI.mk rfl (by rw [hv_g1]; rfl) (by rw [hv_g3 _ _ (by decide), hv_g1]) (fun i j _ h2 _ => e0 i j h2) (fun _ => ⟨fun i j h => e0 i j (hv_hm_66 h).2, fun j hj => absurd hj (Nat.not_lt_zero j)⟩) (fun _ => ⟨?_, fun j hj => absurd hj (Nat.not_lt_zero j)⟩)
    rw [hv_g2 _ (by decide), hv_g2 _ (by decide)]; rfl
  have k1 : (if t = true then (1 : Int32) else 0) &&& 1 = if t = true then 1 else 0 := by cases t <;> rfl
  rw [if_pos k1]
  dsimp only
  generalize am_sI (am_sI (am_sK σ (some 90)) 66 40 (if t then 1 else 0)) 66 39 0 = τ at I0 ⊢
  obtain ⟨y1, υ1, r1, J1⟩ := hv_cry_90 I0 (q2 := 1) (by omega) rfl (hv_cell_a 0 (by decide))
  obtain ⟨y2, υ2, r2, J2⟩ := hv_cry_90 J1 (q2 := 2) (by omega) rfl (hv_cell_a 1 (by decide))
  obtain ⟨y3, υ3, r3, J3⟩ := hv_cry_90 J2 (q2 := 3) (by omega) rfl (hv_cell_a 2 (by decide))
  obtain ⟨y4, υ4, r4, J4⟩ := hv_cry_90 J3 (q2 := 4) (by omega) rfl (hv_cell_a 3 (by decide))
  obtain ⟨y5, υ5, r5, J5⟩ := hv_cry_90 J4 (q2 := 5) (by omega) rfl (hv_cell_a 4 (by decide))
  obtain ⟨y6, υ6, r6, J6⟩ := hv_cry_90 J5 (q2 := 6) (by omega) rfl (hv_cell_a 5 (by decide))
  obtain ⟨y7, υ7, r7, J7⟩ := hv_cry_90 J6 (q2 := 7) (by omega) rfl (hv_cell_a 6 (by decide))
  simp only [r1, r2, r3, r4, r5, r6, r7, Option.bind_some, eq_M_carryAll_90_27, g_M_carryAll_90_27, eq_M_carryAll_90_51, g_M_carryAll_90_51, eq_M_carryAll_90_75, g_M_carryAll_90_75, eq_M_carryAll_90_99, g_M_carryAll_90_99]
  unfold f_M_carryAll_90_101
  refine hv_up 4 (fun i s => s.1 = hI i ∧ hv_cI 90 t σ (7 + 5 * i) s.2) 0 (Nat.zero_le _) _ ⟨rfl, J7⟩ ?_ ?_
  · rintro i ⟨x, υ⟩ hi ⟨e1, J⟩
    dsimp only at e1 J
    subst e1
    have ix : am_ix (hI i) 4 = true := hI_ix (by omega) (by decide)
    have cl : (hI i).toNatClampNeg = i := hI_clamp (by omega)
    obtain ⟨c1, c2, c3, c4, c5⟩ := hv_cell_b i hi
    obtain ⟨y1, υ1, r1, J1⟩ := hv_cry_90 J (q2 := 8 + 5 * i) (by omega) (by omega) c1
    obtain ⟨y2, υ2, r2, J2⟩ := hv_cry_90 J1 (q2 := 9 + 5 * i) (by omega) (by omega) c2
    obtain ⟨y3, υ3, r3, J3⟩ := hv_cry_90 J2 (q2 := 10 + 5 * i) (by omega) (by omega) c3
    obtain ⟨y4, υ4, r4, J4⟩ := hv_cry_90 J3 (q2 := 11 + 5 * i) (by omega) (by omega) c4
    obtain ⟨y5, υ5, r5, J5⟩ := hv_cry_90 J4 (q2 := 7 + 5 * (i + 1)) (by omega) (by omega) c5
    refine .inl ⟨(hI (i + 1), am_sI υ5 71 i y5), ?_, rfl, J5⟩
    show b_M_carryAll_90_101 (hI i) υ = _
    unfold b_M_carryAll_90_101
    rw [if_neg (hI_nge4 hi)]
    simp only [ix, cl, r1, r2, r3, r4, r5, Option.bind_some, ↓reduceIte, eq_M_carryAll_90_138, g_M_carryAll_90_138, eq_M_carryAll_90_170, g_M_carryAll_90_170, hI_add1]
  · rintro ⟨x, υ⟩ ⟨e1, J⟩
    dsimp only at e1 J
    subst e1
    have L : ∃ ω, f_M_carryAll_90_194 0 υ = some ω ∧ hv_cI 90 t σ 150 ω := by
      unfold f_M_carryAll_90_194
      refine hv_up 24 (fun i s => s.1 = hI i ∧ hv_cI 90 t σ (27 + i) s.2) 0 (Nat.zero_le _) _ ⟨rfl, J⟩ ?_ ?_
      · rintro i ⟨x, υ⟩ hi ⟨e1, J⟩
        dsimp only at e1 J
        subst e1
        have ix : am_ix (hI i) 24 = true := hI_ix (by omega) (by decide)
        have cl : (hI i).toNatClampNeg = i := hI_clamp (by omega)
        obtain ⟨y1, υ1, r1, J1⟩ := hv_cry_90 J (q2 := 27 + (i + 1)) (by omega) (by omega) (hv_cell_c i hi)
        refine .inl ⟨(hI (i + 1), am_sI υ1 72 i y1), ?_, rfl, J1⟩
        show b_M_carryAll_90_194 (hI i) υ = _
        unfold b_M_carryAll_90_194
        rw [if_neg (hI_nge24 hi)]
        simp only [ix, cl, r1, Option.bind_some, ↓reduceIte, hI_add1]
      · rintro ⟨x, υ⟩ ⟨e1, J⟩
        dsimp only at e1 J
        subst e1
        have L : ∃ ω, f_M_carryAll_90_224 0 υ = some ω ∧ hv_cI 90 t σ 150 ω := by
          unfold f_M_carryAll_90_224
          refine hv_up 3 (fun i s => s.1 = hI i ∧ hv_cI 90 t σ (51 + i) s.2) 0 (Nat.zero_le _) _ ⟨rfl, J⟩ ?_ ?_
          · rintro i ⟨x, υ⟩ hi ⟨e1, J⟩
            dsimp only at e1 J
            subst e1
            have ix : am_ix (hI i) 3 = true := hI_ix (by omega) (by decide)
            have cl : (hI i).toNatClampNeg = i := hI_clamp (by omega)
            obtain ⟨y1, υ1, r1, J1⟩ := hv_cry_90 J (q2 := 51 + (i + 1)) (by omega) (by omega) (hv_cell_d i hi)
            refine .inl ⟨(hI (i + 1), am_sI υ1 77 i y1), ?_, rfl, J1⟩
            show b_M_carryAll_90_224 (hI i) υ = _
            unfold b_M_carryAll_90_224
            rw [if_neg (hI_nge3 hi)]
            simp only [ix, cl, r1, Option.bind_some, ↓reduceIte, hI_add1]
          · rintro ⟨x, υ⟩ ⟨e1, J⟩
            dsimp only at e1 J
            subst e1
            obtain ⟨ω, e, K⟩ := hv_carrySays_90 J
            refine ⟨ω, ?_, K⟩
            show b_M_carryAll_90_224 (hI 3) υ = _
            unfold b_M_carryAll_90_224
            rw [if_pos (show (3 : Int32) ≤ hI 3 by decide), e]; rfl
        obtain ⟨ω, e, K⟩ := L
        refine ⟨ω, ?_, K⟩
        show b_M_carryAll_90_194 (hI 24) υ = _
        unfold b_M_carryAll_90_194
        rw [if_pos (show (24 : Int32) ≤ hI 24 by decide), e]; rfl
    obtain ⟨ω, e, K⟩ := L
    refine ⟨ω, ?_, K⟩
    show b_M_carryAll_90_101 (hI 4) υ = _
    unfold b_M_carryAll_90_101
    rw [if_pos (show (4 : Int32) ≤ hI 4 by decide), e]; rfl
theorem hv_cry_91 {t : Bool} {σ τ : am_St} {q q2 i k : Nat} (I : hv_cI 91 t σ q τ) (hq : q < 150) (h2 : q2 = q + 1) (hc : hv_cell q = (i, k)) : ∃ y υ, f_M_carry (τ.1 i k) τ = some (y, υ) ∧ hv_cI 91 t σ q2 (am_sI υ i k y) := by
  subst h2
  have hm := hv_cell_hm q hq
  rw [hc] at hm
  obtain ⟨hm1, hm2⟩ := hm
  dsimp only at hm1 hm2
  have h66 := (hv_hm_66 hm1).2
  have ix : am_ix (hI q) 154 = true := hI_ix (by omega) (by decide)
  have cl : (hI q).toNatClampNeg = q := hI_clamp (by omega)
  have sb : hI (q + 1) - 1 = hI q := hI_sub (n := q + 1) (m := 1) (by omega)
  have A : ∀ υ : am_St, υ.2.2 = some 91 → υ.1 66 39 = hI q → f_M_carry_17 υ = some (υ.1 91 q, am_sI υ 66 39 (hI (q + 1))) := fun υ a b => by
    rw [eq_M_carry_17]; unfold g_M_carry_17
    dsimp only
    rw [b, hI_add1, show (am_sI υ 66 39 (hI (q + 1))).2.2 = some 91 from a, Option.bind_some]
    simp only [Nat.reduceEqDiff, ↓reduceIte]
    rw [hv_g1, sb, if_pos ix, cl, hv_g2 _ (show (91 : Nat) ≠ 66 by decide)]
  cases t
  · refine ⟨τ.1 91 q, am_sI τ 66 39 (hI (q + 1)), ?_, ?_⟩
    · rw [eq_M_carry]; unfold g_M_carry
      rw [I.tk, if_pos (show (if false = true then (1 : Int32) else 0) = 0 from rfl), A τ I.kp I.at']
    · refine hv_cI.mk I.kp ?_ ?_ (fun a b h1 h2 h3 => ?_) (fun e => by cases e) (fun _ => ⟨?_, fun j hj => ?_⟩)
      · rw [show (am_sI (am_sI τ 66 39 (hI (q + 1))) i k (τ.1 91 q)).1 66 39 = (am_sI τ 66 39 (hI (q + 1))).1 66 39 by
          by_cases c : (66 : Nat) = i
          · subst c; rw [hv_g3 _ _ (by omega)]
          · rw [hv_g2 _ c], hv_g1]
      · rw [show (am_sI (am_sI τ 66 39 (hI (q + 1))) i k (τ.1 91 q)).1 66 40 = (am_sI τ 66 39 (hI (q + 1))).1 66 40 by
          by_cases c : (66 : Nat) = i
          · subst c; rw [hv_g3 _ _ (by omega)]
          · rw [hv_g2 _ c], hv_g3 _ _ (by decide)]
        exact I.tk
      · have e1 : (am_sI (am_sI τ 66 39 (hI (q + 1))) i k (τ.1 91 q)).1 a b = (am_sI τ 66 39 (hI (q + 1))).1 a b := by
          by_cases c : a = i
          · subst c
            by_cases c2 : b = k
            · subst c2; rw [hm1] at h3; cases h3
            · rw [hv_g3 _ _ c2]
          · rw [hv_g2 _ c]
        rw [e1]
        by_cases c : a = 66
        · subst c
          rw [hv_g3 _ _ (by omega)]; exact I.fr _ _ h1 h2 h3
        · rw [hv_g2 _ c]; exact I.fr _ _ h1 h2 h3
      · rw [hv_g2 _ (by omega), hv_g2 _ (by decide)]; exact (I.no rfl).1
      · by_cases c : j = q
        · subst c
          rw [hc]
          rw [hv_g1, (I.no rfl).1]
        · have e2 := (I.no rfl).2 j (by omega)
          have hj2 := hv_cell_hm j (by omega)
          have hj3 := (hv_hm_66 hj2.1).2
          have ne := hv_cell_inj q hq j (by omega)
          rw [hc] at ne
          rw [← e2]
          have e3 : (am_sI (am_sI τ 66 39 (hI (q + 1))) i k (τ.1 91 q)).1 (hv_cell j).1 (hv_cell j).2 = (am_sI τ 66 39 (hI (q + 1))).1 (hv_cell j).1 (hv_cell j).2 := by
            by_cases c1 : (hv_cell j).1 = i
            · by_cases c2 : (hv_cell j).2 = k
              · exact absurd (Prod.ext c1 c2) ne
              · rw [c1, hv_g3 _ _ c2]
            · rw [hv_g2 _ c1]
          rw [e3]
          by_cases c1 : (hv_cell j).1 = 66
          · rw [c1, hv_g3 _ _ (by omega)]
          · rw [hv_g2 _ c1]
  · refine ⟨τ.1 i k, am_sI (am_sI τ 91 q (τ.1 i k)) 66 39 (hI (q + 1)), ?_, ?_⟩
    · rw [eq_M_carry]; unfold g_M_carry
      rw [I.tk, if_neg (show ¬ (if true = true then (1 : Int32) else 0) = 0 by decide), I.kp, Option.bind_some]
      simp only [Nat.reduceEqDiff, ↓reduceIte]
      rw [I.at', if_pos ix, cl, A _ (by exact I.kp) (by rw [hv_g2 _ (by decide)]; exact I.at'), hv_g1]
    · have e0 : ∀ a b, a ≠ 91 → ¬ (a = 66 ∧ b = 39) → (am_sI (am_sI (am_sI τ 91 q (τ.1 i k)) 66 39 (hI (q + 1))) i k (τ.1 i k)).1 a b = τ.1 a b := fun a b h1 h2 => by
        by_cases c : a = i
        · subst c
          by_cases c2 : b = k
          · subst c2; rw [hv_g1]
          · rw [hv_g3 _ _ c2]
            by_cases c3 : a = 66
            · subst c3; rw [hv_g3 _ _ (by omega), hv_g2 _ h1]
            · rw [hv_g2 _ c3, hv_g2 _ h1]
        · rw [hv_g2 _ c]
          by_cases c3 : a = 66
          · subst c3; rw [hv_g3 _ _ (by omega), hv_g2 _ h1]
          · rw [hv_g2 _ c3, hv_g2 _ h1]
      refine hv_cI.mk I.kp ?_ ?_ (fun a b h1 h2 h3 => ?_) (fun _ => ⟨fun a b h1 => ?_, fun j hj => ?_⟩) (fun e => by cases e)
      · rw [show (am_sI (am_sI (am_sI τ 91 q (τ.1 i k)) 66 39 (hI (q + 1))) i k (τ.1 i k)).1 66 39 = (am_sI (am_sI τ 91 q (τ.1 i k)) 66 39 (hI (q + 1))).1 66 39 by
          by_cases c : (66 : Nat) = i
          · subst c; rw [hv_g3 _ _ (by omega)]
          · rw [hv_g2 _ c], hv_g1]
      · rw [e0 66 40 (by decide) (by decide)]; exact I.tk
      · rw [e0 a b h1 (by omega)]; exact I.fr _ _ h1 h2 h3
      · have k1 := hv_hm_66 h1
        rw [e0 a b (by omega) (by omega)]; exact (I.yes rfl).1 a b h1
      · rw [hv_g2 _ (by omega), hv_g2 _ (by decide)]
        by_cases c : j = q
        · subst c
          rw [hv_g1, hc]; exact (I.yes rfl).1 _ _ hm1
        · rw [hv_g3 _ _ c]; exact (I.yes rfl).2 j (by omega)
theorem hv_carrySays_91 {t : Bool} {σ τ : am_St} (I : hv_cI 91 t σ 54 τ) : ∃ υ, f_M_carrySays τ = some υ ∧ hv_cI 91 t σ 150 υ := by
  rw [eq_M_carrySays]; unfold g_M_carrySays f_M_carrySays_2
  refine hv_up 16 (fun i s => s.1 = hI i ∧ hv_cI 91 t σ (54 + 4 * i) s.2) 0 (Nat.zero_le _) _ ⟨rfl, I⟩ ?_ ?_
  · rintro i ⟨x, υ⟩ hi ⟨e1, J⟩
    dsimp only at e1 J
    subst e1
    have ix : am_ix (hI i) 17 = true := hI_ix (by omega) (by decide)
    have cl : (hI i).toNatClampNeg = i := hI_clamp (by omega)
    obtain ⟨c1, c2, c3, c4⟩ := hv_cell_e i hi
    obtain ⟨y1, υ1, r1, J1⟩ := hv_cry_91 J (q2 := 55 + 4 * i) (by omega) (by omega) c1
    obtain ⟨y2, υ2, r2, J2⟩ := hv_cry_91 J1 (q2 := 56 + 4 * i) (by omega) (by omega) c2
    obtain ⟨y3, υ3, r3, J3⟩ := hv_cry_91 J2 (q2 := 57 + 4 * i) (by omega) (by omega) c3
    obtain ⟨y4, υ4, r4, J4⟩ := hv_cry_91 J3 (q2 := 54 + 4 * (i + 1)) (by omega) (by omega) c4
    refine .inl ⟨(hI (i + 1), am_sI υ4 76 i y4), ?_, rfl, J4⟩
    show b_M_carrySays_2 (hI i) υ = _
    unfold b_M_carrySays_2
    rw [if_neg (hI_nge16 hi)]
    simp only [ix, cl, r1, r2, r3, r4, Option.bind_some, ↓reduceIte, eq_M_carrySays_40, g_M_carrySays_40, eq_M_carrySays_72, g_M_carrySays_72, hI_add1]
  · rintro ⟨x, υ⟩ ⟨e1, J⟩
    dsimp only at e1 J
    subst e1
    have L : ∃ ω, f_M_carrySays_80 0 υ = some ω ∧ hv_cI 91 t σ 150 ω := by
      unfold f_M_carrySays_80
      refine hv_up 8 (fun i s => s.1 = hI i ∧ hv_cI 91 t σ (118 + 4 * i) s.2) 0 (Nat.zero_le _) _ ⟨rfl, J⟩ ?_ ?_
      · rintro i ⟨x, υ⟩ hi ⟨e1, J⟩
        dsimp only at e1 J
        subst e1
        have ix : am_ix (hI i) 8 = true := hI_ix (by omega) (by decide)
        have cl : (hI i).toNatClampNeg = i := hI_clamp (by omega)
        obtain ⟨c1, c2, c3, c4⟩ := hv_cell_f i hi
        obtain ⟨y1, υ1, r1, J1⟩ := hv_cry_91 J (q2 := 119 + 4 * i) (by omega) (by omega) c1
        obtain ⟨y2, υ2, r2, J2⟩ := hv_cry_91 J1 (q2 := 120 + 4 * i) (by omega) (by omega) c2
        obtain ⟨y3, υ3, r3, J3⟩ := hv_cry_91 J2 (q2 := 121 + 4 * i) (by omega) (by omega) c3
        obtain ⟨y4, υ4, r4, J4⟩ := hv_cry_91 J3 (q2 := 118 + 4 * (i + 1)) (by omega) (by omega) c4
        refine .inl ⟨(hI (i + 1), am_sI υ4 81 i y4), ?_, rfl, J4⟩
        show b_M_carrySays_80 (hI i) υ = _
        unfold b_M_carrySays_80
        rw [if_neg (hI_nge8 hi)]
        simp only [ix, cl, r1, r2, r3, r4, Option.bind_some, ↓reduceIte, eq_M_carrySays_118, g_M_carrySays_118, eq_M_carrySays_150, g_M_carrySays_150, hI_add1]
      · rintro ⟨x, υ⟩ ⟨e1, J⟩
        dsimp only at e1 J
        subst e1
        exact ⟨υ, rfl, J⟩
    obtain ⟨ω, e, K⟩ := L
    refine ⟨ω, ?_, K⟩
    show b_M_carrySays_2 (hI 16) υ = _
    unfold b_M_carrySays_2
    rw [if_pos (show (16 : Int32) ≤ hI 16 by decide), e]; rfl
theorem hv_carryAll_91 (t : Bool) (σ : am_St) : ∃ υ, f_M_carryAll_91 (if t then 1 else 0) σ = some υ ∧ hv_cI 91 t σ 150 υ := by
  rw [eq_M_carryAll_91]; unfold g_M_carryAll_91
  have I0 : hv_cI 91 t σ 0 (am_sI (am_sI (am_sK σ (some 91)) 66 40 (if t then 1 else 0)) 66 39 0) := by
    have e0 : ∀ i j, ¬ (i = 66 ∧ (j = 39 ∨ j = 40)) → (am_sI (am_sI (am_sK σ (some 91)) 66 40 (if t then 1 else 0)) 66 39 0).1 i j = σ.1 i j := fun i j h => by
      by_cases c : i = 66
      · subst c; rw [hv_g3 _ _ (by omega), hv_g3 _ _ (by omega)]; rfl
      · rw [hv_g2 _ c, hv_g2 _ c]; rfl
    refine hv_cI.mk rfl (by rw [hv_g1]; rfl) (by rw [hv_g3 _ _ (by decide), hv_g1]) (fun i j _ h2 _ => e0 i j h2) (fun _ => ⟨fun i j h => e0 i j (hv_hm_66 h).2, fun j hj => absurd hj (Nat.not_lt_zero j)⟩) (fun _ => ⟨?_, fun j hj => absurd hj (Nat.not_lt_zero j)⟩)
    rw [hv_g2 _ (by decide), hv_g2 _ (by decide)]; rfl
  have k1 : (if t = true then (1 : Int32) else 0) &&& 1 = if t = true then 1 else 0 := by cases t <;> rfl
  rw [if_pos k1]
  dsimp only
  generalize am_sI (am_sI (am_sK σ (some 91)) 66 40 (if t then 1 else 0)) 66 39 0 = τ at I0 ⊢
  obtain ⟨y1, υ1, r1, J1⟩ := hv_cry_91 I0 (q2 := 1) (by omega) rfl (hv_cell_a 0 (by decide))
  obtain ⟨y2, υ2, r2, J2⟩ := hv_cry_91 J1 (q2 := 2) (by omega) rfl (hv_cell_a 1 (by decide))
  obtain ⟨y3, υ3, r3, J3⟩ := hv_cry_91 J2 (q2 := 3) (by omega) rfl (hv_cell_a 2 (by decide))
  obtain ⟨y4, υ4, r4, J4⟩ := hv_cry_91 J3 (q2 := 4) (by omega) rfl (hv_cell_a 3 (by decide))
  obtain ⟨y5, υ5, r5, J5⟩ := hv_cry_91 J4 (q2 := 5) (by omega) rfl (hv_cell_a 4 (by decide))
  obtain ⟨y6, υ6, r6, J6⟩ := hv_cry_91 J5 (q2 := 6) (by omega) rfl (hv_cell_a 5 (by decide))
  obtain ⟨y7, υ7, r7, J7⟩ := hv_cry_91 J6 (q2 := 7) (by omega) rfl (hv_cell_a 6 (by decide))
  simp only [r1, r2, r3, r4, r5, r6, r7, Option.bind_some, eq_M_carryAll_91_27, g_M_carryAll_91_27, eq_M_carryAll_91_51, g_M_carryAll_91_51, eq_M_carryAll_91_75, g_M_carryAll_91_75, eq_M_carryAll_91_99, g_M_carryAll_91_99]
  unfold f_M_carryAll_91_101
  refine hv_up 4 (fun i s => s.1 = hI i ∧ hv_cI 91 t σ (7 + 5 * i) s.2) 0 (Nat.zero_le _) _ ⟨rfl, J7⟩ ?_ ?_
  · rintro i ⟨x, υ⟩ hi ⟨e1, J⟩
    dsimp only at e1 J
    subst e1
    have ix : am_ix (hI i) 4 = true := hI_ix (by omega) (by decide)
    have cl : (hI i).toNatClampNeg = i := hI_clamp (by omega)
    obtain ⟨c1, c2, c3, c4, c5⟩ := hv_cell_b i hi
    obtain ⟨y1, υ1, r1, J1⟩ := hv_cry_91 J (q2 := 8 + 5 * i) (by omega) (by omega) c1
    obtain ⟨y2, υ2, r2, J2⟩ := hv_cry_91 J1 (q2 := 9 + 5 * i) (by omega) (by omega) c2
    obtain ⟨y3, υ3, r3, J3⟩ := hv_cry_91 J2 (q2 := 10 + 5 * i) (by omega) (by omega) c3
    obtain ⟨y4, υ4, r4, J4⟩ := hv_cry_91 J3 (q2 := 11 + 5 * i) (by omega) (by omega) c4
    obtain ⟨y5, υ5, r5, J5⟩ := hv_cry_91 J4 (q2 := 7 + 5 * (i + 1)) (by omega) (by omega) c5
    refine .inl ⟨(hI (i + 1), am_sI υ5 71 i y5), ?_, rfl, J5⟩
    show b_M_carryAll_91_101 (hI i) υ = _
    unfold b_M_carryAll_91_101
    rw [if_neg (hI_nge4 hi)]
    simp only [ix, cl, r1, r2, r3, r4, r5, Option.bind_some, ↓reduceIte, eq_M_carryAll_91_138, g_M_carryAll_91_138, eq_M_carryAll_91_170, g_M_carryAll_91_170, hI_add1]
  · rintro ⟨x, υ⟩ ⟨e1, J⟩
    dsimp only at e1 J
    subst e1
    have L : ∃ ω, f_M_carryAll_91_194 0 υ = some ω ∧ hv_cI 91 t σ 150 ω := by
      unfold f_M_carryAll_91_194
      refine hv_up 24 (fun i s => s.1 = hI i ∧ hv_cI 91 t σ (27 + i) s.2) 0 (Nat.zero_le _) _ ⟨rfl, J⟩ ?_ ?_
      · rintro i ⟨x, υ⟩ hi ⟨e1, J⟩
        dsimp only at e1 J
        subst e1
        have ix : am_ix (hI i) 24 = true := hI_ix (by omega) (by decide)
        have cl : (hI i).toNatClampNeg = i := hI_clamp (by omega)
        obtain ⟨y1, υ1, r1, J1⟩ := hv_cry_91 J (q2 := 27 + (i + 1)) (by omega) (by omega) (hv_cell_c i hi)
        refine .inl ⟨(hI (i + 1), am_sI υ1 72 i y1), ?_, rfl, J1⟩
        show b_M_carryAll_91_194 (hI i) υ = _
        unfold b_M_carryAll_91_194
        rw [if_neg (hI_nge24 hi)]
        simp only [ix, cl, r1, Option.bind_some, ↓reduceIte, hI_add1]
      · rintro ⟨x, υ⟩ ⟨e1, J⟩
        dsimp only at e1 J
        subst e1
        have L : ∃ ω, f_M_carryAll_91_224 0 υ = some ω ∧ hv_cI 91 t σ 150 ω := by
          unfold f_M_carryAll_91_224
          refine hv_up 3 (fun i s => s.1 = hI i ∧ hv_cI 91 t σ (51 + i) s.2) 0 (Nat.zero_le _) _ ⟨rfl, J⟩ ?_ ?_
          · rintro i ⟨x, υ⟩ hi ⟨e1, J⟩
            dsimp only at e1 J
            subst e1
            have ix : am_ix (hI i) 3 = true := hI_ix (by omega) (by decide)
            have cl : (hI i).toNatClampNeg = i := hI_clamp (by omega)
            obtain ⟨y1, υ1, r1, J1⟩ := hv_cry_91 J (q2 := 51 + (i + 1)) (by omega) (by omega) (hv_cell_d i hi)
            refine .inl ⟨(hI (i + 1), am_sI υ1 77 i y1), ?_, rfl, J1⟩
            show b_M_carryAll_91_224 (hI i) υ = _
            unfold b_M_carryAll_91_224
            rw [if_neg (hI_nge3 hi)]
            simp only [ix, cl, r1, Option.bind_some, ↓reduceIte, hI_add1]
          · rintro ⟨x, υ⟩ ⟨e1, J⟩
            dsimp only at e1 J
            subst e1
            obtain ⟨ω, e, K⟩ := hv_carrySays_91 J
            refine ⟨ω, ?_, K⟩
            show b_M_carryAll_91_224 (hI 3) υ = _
            unfold b_M_carryAll_91_224
            rw [if_pos (show (3 : Int32) ≤ hI 3 by decide), e]; rfl
        obtain ⟨ω, e, K⟩ := L
        refine ⟨ω, ?_, K⟩
        show b_M_carryAll_91_194 (hI 24) υ = _
        unfold b_M_carryAll_91_194
        rw [if_pos (show (24 : Int32) ≤ hI 24 by decide), e]; rfl
    obtain ⟨ω, e, K⟩ := L
    refine ⟨ω, ?_, K⟩
    show b_M_carryAll_91_101 (hI 4) υ = _
    unfold b_M_carryAll_91_101
    rw [if_pos (show (4 : Int32) ≤ hI 4 by decide), e]; rfl
/-- taken: the row holds the model's house -/
theorem hv_cI.img {id : Nat} {h : hv} {σ τ : am_St} (ok : hv_ok h) (I : hv_cI id true σ 150 τ) (m : hv_mod h σ) : hv_img id h τ := by
  have k1 := ok.F
  have k2 := ok.S
  have k3 := ok.C
  have k4 := ok.M
  have Y := (I.yes rfl).2
  have A : ∀ q i k, q < 150 → hv_cell q = (i, k) → τ.1 id q = σ.1 i k := fun q i k hq e => by rw [Y q hq, e]
  exact hv_img.mk ((A 0 _ _ (by decide) rfl).trans m.R) ((A 1 _ _ (by decide) rfl).trans m.M) ((A 2 _ _ (by decide) rfl).trans m.C) ((A 3 _ _ (by decide) rfl).trans m.F) ((A 4 _ _ (by decide) rfl).trans m.S) ((A 5 _ _ (by decide) rfl).trans m.dr) ((A 6 _ _ (by decide) rfl).trans m.dm)
    (fun r hr => (A _ _ _ (by omega) (hv_cell_b r hr).1).trans (m.door r hr))
    (fun c hc => (A _ _ _ (by omega) (hv_cell_b c (by omega)).2.1).trans (m.kind c hc))
    (fun c hc => (A _ _ _ (by omega) (hv_cell_b c (by omega)).2.2.1).trans (m.fig c hc))
    (fun c hc => (A _ _ _ (by omega) (hv_cell_b c (by omega)).2.2.2.1).trans (m.tie c hc))
    (fun c hc => (A _ _ _ (by omega) (hv_cell_b c (by omega)).2.2.2.2).trans (m.skill c hc))
    (fun c hc q hq => (A _ _ _ (by omega) (hv_cell_c _ (by omega))).trans (m.place c hc q hq))
    (fun k hk => (A _ _ _ (by omega) (hv_cell_d k hk)).trans (m.chance k hk))
    (fun i hi => (A _ _ _ (by omega) (hv_cell_e i (by omega)).1).trans (m.fc i hi))
    (fun i hi => (A _ _ _ (by omega) (hv_cell_e i (by omega)).2.1).trans (m.fm i hi))
    (fun i hi => (A _ _ _ (by omega) (hv_cell_e i (by omega)).2.2.1).trans (m.fr i hi))
    (fun i hi => (A _ _ _ (by omega) (hv_cell_e i (by omega)).2.2.2).trans (m.fi i hi))
    (fun i hi => (A _ _ _ (by omega) (hv_cell_f i (by omega)).1).trans (m.sp i hi))
    (fun i hi => (A _ _ _ (by omega) (hv_cell_f i (by omega)).2.1).trans (m.sc i hi))
    (fun i hi => (A _ _ _ (by omega) (hv_cell_f i (by omega)).2.2.1).trans (m.sm i hi))
    (fun i hi => (A _ _ _ (by omega) (hv_cell_f i (by omega)).2.2.2).trans (m.sr i hi))
/-- given back: the model holds the row's house -/
theorem hv_cI.mod {id : Nat} {h : hv} {σ τ : am_St} (ok : hv_ok h) (I : hv_cI id false σ 150 τ) (m : hv_img id h σ) : hv_mod h τ := by
  have k1 := ok.F
  have k2 := ok.S
  have k3 := ok.C
  have k4 := ok.M
  have Y := (I.no rfl).2
  have A : ∀ q i k, q < 150 → hv_cell q = (i, k) → τ.1 i k = σ.1 id q := fun q i k hq e => by
    have := Y q hq
    rw [e] at this
    exact this
  exact hv_mod.mk ((A 0 _ _ (by decide) rfl).trans m.R) ((A 1 _ _ (by decide) rfl).trans m.M) ((A 2 _ _ (by decide) rfl).trans m.C) ((A 3 _ _ (by decide) rfl).trans m.F) ((A 4 _ _ (by decide) rfl).trans m.S) ((A 5 _ _ (by decide) rfl).trans m.dr) ((A 6 _ _ (by decide) rfl).trans m.dm)
    (fun r hr => (A _ _ _ (by omega) (hv_cell_b r hr).1).trans (m.door r hr))
    (fun c hc => (A _ _ _ (by omega) (hv_cell_b c (by omega)).2.1).trans (m.kind c hc))
    (fun c hc => (A _ _ _ (by omega) (hv_cell_b c (by omega)).2.2.1).trans (m.fig c hc))
    (fun c hc => (A _ _ _ (by omega) (hv_cell_b c (by omega)).2.2.2.1).trans (m.tie c hc))
    (fun c hc => (A _ _ _ (by omega) (hv_cell_b c (by omega)).2.2.2.2).trans (m.skill c hc))
    (fun c hc q hq => (A _ _ _ (by omega) (hv_cell_c _ (by omega))).trans (m.place c hc q hq))
    (fun k hk => (A _ _ _ (by omega) (hv_cell_d k hk)).trans (m.chance k hk))
    (fun i hi => (A _ _ _ (by omega) (hv_cell_e i (by omega)).1).trans (m.fc i hi))
    (fun i hi => (A _ _ _ (by omega) (hv_cell_e i (by omega)).2.1).trans (m.fm i hi))
    (fun i hi => (A _ _ _ (by omega) (hv_cell_e i (by omega)).2.2.1).trans (m.fr i hi))
    (fun i hi => (A _ _ _ (by omega) (hv_cell_e i (by omega)).2.2.2).trans (m.fi i hi))
    (fun i hi => (A _ _ _ (by omega) (hv_cell_f i (by omega)).1).trans (m.sp i hi))
    (fun i hi => (A _ _ _ (by omega) (hv_cell_f i (by omega)).2.1).trans (m.sc i hi))
    (fun i hi => (A _ _ _ (by omega) (hv_cell_f i (by omega)).2.2.1).trans (m.sm i hi))
    (fun i hi => (A _ _ _ (by omega) (hv_cell_f i (by omega)).2.2.2).trans (m.sr i hi))
/-! copies between houses of the class -/
theorem hv_copy_18_1 {h : hv} {σ : am_St} (ok : hv_ok h) (d : hv_dev 1 h σ) : ∃ τ, f_H_copyFrom_18_1 σ = some τ ∧ hv_dev 18 h τ ∧ τ.2 = σ.2 ∧ ∀ i, i < 18 ∨ 18 + 9 < i → τ.1 i = σ.1 i := by
  have k1 := ok.F
  have k2 := ok.S
  have k3 := ok.C
  have k4 := ok.M
  apply Exists.intro
  apply And.intro
  · simp only [eq_H_copyFrom_18_1, g_H_copyFrom_18_1, eq_H_copyFrom_18_1_117, g_H_copyFrom_18_1_117, eq_H_copyFrom_18_1_146, g_H_copyFrom_18_1_146, eq_H_copyFrom_18_1_175, g_H_copyFrom_18_1_175, eq_H_copyFrom_18_1_45, g_H_copyFrom_18_1_45, eq_H_copyFrom_18_1_89, g_H_copyFrom_18_1_89]
    rfl
  refine ⟨?_, ?_, ?_⟩
  · exact hv_dev.mk d.R d.M d.C d.dr d.dm d.F d.S
      (fun r hr => (hv_cpy (by omega)).trans (d.door r hr))
      (fun r hr => (hv_cpy (by omega)).trans (d.kind r hr))
      (fun r hr => (hv_cpy (by omega)).trans (d.fig r hr))
      (fun r hr => (hv_cpy (by omega)).trans (d.tie r hr))
      (fun r hr => (hv_cpy (by omega)).trans (d.skill r hr))
      (fun r hr q hq => (hv_cpy (by omega)).trans (d.place r hr q hq))
      (fun r hr => (hv_cpy (by omega)).trans (d.chance r hr))
      (fun r hr => (hv_cpy (by omega)).trans (d.fact r hr))
      (fun r hr => (hv_cpy (by omega)).trans (d.say r hr))
  · rfl
  · intro i hi
    simp only [hv_k2 _ (show i ≠ 18 + 1 by omega), hv_k2 _ (show i ≠ 18 + 2 by omega), hv_k2 _ (show i ≠ 18 + 3 by omega), hv_k2 _ (show i ≠ 18 + 4 by omega), hv_k2 _ (show i ≠ 18 + 5 by omega), hv_k2 _ (show i ≠ 18 + 6 by omega), hv_k2 _ (show i ≠ 18 + 7 by omega), hv_k2 _ (show i ≠ 18 + 8 by omega), hv_k2 _ (show i ≠ 18 + 9 by omega), hv_g2 _ (show i ≠ 18 by omega)]
theorem hv_copy_1_18 {h : hv} {σ : am_St} (ok : hv_ok h) (d : hv_dev 18 h σ) : ∃ τ, f_H_copyFrom_1_18 σ = some τ ∧ hv_dev 1 h τ ∧ τ.2 = σ.2 ∧ ∀ i, i < 1 ∨ 1 + 9 < i → τ.1 i = σ.1 i := by
  have k1 := ok.F
  have k2 := ok.S
  have k3 := ok.C
  have k4 := ok.M
  apply Exists.intro
  apply And.intro
  · simp only [eq_H_copyFrom_1_18, g_H_copyFrom_1_18, eq_H_copyFrom_1_18_117, g_H_copyFrom_1_18_117, eq_H_copyFrom_1_18_146, g_H_copyFrom_1_18_146, eq_H_copyFrom_1_18_175, g_H_copyFrom_1_18_175, eq_H_copyFrom_1_18_45, g_H_copyFrom_1_18_45, eq_H_copyFrom_1_18_89, g_H_copyFrom_1_18_89]
    rfl
  refine ⟨?_, ?_, ?_⟩
  · exact hv_dev.mk d.R d.M d.C d.dr d.dm d.F d.S
      (fun r hr => (hv_cpy (by omega)).trans (d.door r hr))
      (fun r hr => (hv_cpy (by omega)).trans (d.kind r hr))
      (fun r hr => (hv_cpy (by omega)).trans (d.fig r hr))
      (fun r hr => (hv_cpy (by omega)).trans (d.tie r hr))
      (fun r hr => (hv_cpy (by omega)).trans (d.skill r hr))
      (fun r hr q hq => (hv_cpy (by omega)).trans (d.place r hr q hq))
      (fun r hr => (hv_cpy (by omega)).trans (d.chance r hr))
      (fun r hr => (hv_cpy (by omega)).trans (d.fact r hr))
      (fun r hr => (hv_cpy (by omega)).trans (d.say r hr))
  · rfl
  · intro i hi
    simp only [hv_k2 _ (show i ≠ 1 + 1 by omega), hv_k2 _ (show i ≠ 1 + 2 by omega), hv_k2 _ (show i ≠ 1 + 3 by omega), hv_k2 _ (show i ≠ 1 + 4 by omega), hv_k2 _ (show i ≠ 1 + 5 by omega), hv_k2 _ (show i ≠ 1 + 6 by omega), hv_k2 _ (show i ≠ 1 + 7 by omega), hv_k2 _ (show i ≠ 1 + 8 by omega), hv_k2 _ (show i ≠ 1 + 9 by omega), hv_g2 _ (show i ≠ 1 by omega)]
theorem hv_copy_37_1 {h : hv} {σ : am_St} (ok : hv_ok h) (d : hv_dev 1 h σ) : ∃ τ, f_H_copyFrom_37_1 σ = some τ ∧ hv_dev 37 h τ ∧ τ.2 = σ.2 ∧ ∀ i, i < 37 ∨ 37 + 9 < i → τ.1 i = σ.1 i := by
  have k1 := ok.F
  have k2 := ok.S
  have k3 := ok.C
  have k4 := ok.M
  apply Exists.intro
  apply And.intro
  · simp only [eq_H_copyFrom_37_1, g_H_copyFrom_37_1, eq_H_copyFrom_37_1_117, g_H_copyFrom_37_1_117, eq_H_copyFrom_37_1_146, g_H_copyFrom_37_1_146, eq_H_copyFrom_37_1_175, g_H_copyFrom_37_1_175, eq_H_copyFrom_37_1_45, g_H_copyFrom_37_1_45, eq_H_copyFrom_37_1_89, g_H_copyFrom_37_1_89]
    rfl
  refine ⟨?_, ?_, ?_⟩
  · exact hv_dev.mk d.R d.M d.C d.dr d.dm d.F d.S
      (fun r hr => (hv_cpy (by omega)).trans (d.door r hr))
      (fun r hr => (hv_cpy (by omega)).trans (d.kind r hr))
      (fun r hr => (hv_cpy (by omega)).trans (d.fig r hr))
      (fun r hr => (hv_cpy (by omega)).trans (d.tie r hr))
      (fun r hr => (hv_cpy (by omega)).trans (d.skill r hr))
      (fun r hr q hq => (hv_cpy (by omega)).trans (d.place r hr q hq))
      (fun r hr => (hv_cpy (by omega)).trans (d.chance r hr))
      (fun r hr => (hv_cpy (by omega)).trans (d.fact r hr))
      (fun r hr => (hv_cpy (by omega)).trans (d.say r hr))
  · rfl
  · intro i hi
    simp only [hv_k2 _ (show i ≠ 37 + 1 by omega), hv_k2 _ (show i ≠ 37 + 2 by omega), hv_k2 _ (show i ≠ 37 + 3 by omega), hv_k2 _ (show i ≠ 37 + 4 by omega), hv_k2 _ (show i ≠ 37 + 5 by omega), hv_k2 _ (show i ≠ 37 + 6 by omega), hv_k2 _ (show i ≠ 37 + 7 by omega), hv_k2 _ (show i ≠ 37 + 8 by omega), hv_k2 _ (show i ≠ 37 + 9 by omega), hv_g2 _ (show i ≠ 37 by omega)]
theorem hv_copy_1_37 {h : hv} {σ : am_St} (ok : hv_ok h) (d : hv_dev 37 h σ) : ∃ τ, f_H_copyFrom_1_37 σ = some τ ∧ hv_dev 1 h τ ∧ τ.2 = σ.2 ∧ ∀ i, i < 1 ∨ 1 + 9 < i → τ.1 i = σ.1 i := by
  have k1 := ok.F
  have k2 := ok.S
  have k3 := ok.C
  have k4 := ok.M
  apply Exists.intro
  apply And.intro
  · simp only [eq_H_copyFrom_1_37, g_H_copyFrom_1_37, eq_H_copyFrom_1_37_117, g_H_copyFrom_1_37_117, eq_H_copyFrom_1_37_146, g_H_copyFrom_1_37_146, eq_H_copyFrom_1_37_175, g_H_copyFrom_1_37_175, eq_H_copyFrom_1_37_45, g_H_copyFrom_1_37_45, eq_H_copyFrom_1_37_89, g_H_copyFrom_1_37_89]
    rfl
  refine ⟨?_, ?_, ?_⟩
  · exact hv_dev.mk d.R d.M d.C d.dr d.dm d.F d.S
      (fun r hr => (hv_cpy (by omega)).trans (d.door r hr))
      (fun r hr => (hv_cpy (by omega)).trans (d.kind r hr))
      (fun r hr => (hv_cpy (by omega)).trans (d.fig r hr))
      (fun r hr => (hv_cpy (by omega)).trans (d.tie r hr))
      (fun r hr => (hv_cpy (by omega)).trans (d.skill r hr))
      (fun r hr q hq => (hv_cpy (by omega)).trans (d.place r hr q hq))
      (fun r hr => (hv_cpy (by omega)).trans (d.chance r hr))
      (fun r hr => (hv_cpy (by omega)).trans (d.fact r hr))
      (fun r hr => (hv_cpy (by omega)).trans (d.say r hr))
  · rfl
  · intro i hi
    simp only [hv_k2 _ (show i ≠ 1 + 1 by omega), hv_k2 _ (show i ≠ 1 + 2 by omega), hv_k2 _ (show i ≠ 1 + 3 by omega), hv_k2 _ (show i ≠ 1 + 4 by omega), hv_k2 _ (show i ≠ 1 + 5 by omega), hv_k2 _ (show i ≠ 1 + 6 by omega), hv_k2 _ (show i ≠ 1 + 7 by omega), hv_k2 _ (show i ≠ 1 + 8 by omega), hv_k2 _ (show i ≠ 1 + 9 by omega), hv_g2 _ (show i ≠ 1 by omega)]
theorem hv_st_image : st_image hv_inv := by
  intro σ hi
  obtain ⟨h, H⟩ := hi.at
  obtain ⟨τ, e, d18, t2, fr⟩ := hv_copy_18_1 H.ok H.d
  have T1 : hv_mod h (am_sI (am_sI (am_sI τ 0 2 1) 66 22 0) 66 38 1) := H.m.frame (fun k hk => by rw [hv_g3 _ _ (by omega), hv_g3 _ _ (by omega), hv_g2 _ (by decide), fr 66 (by omega)]) (fun i k h1 h2 => by rw [hv_g2 _ (by omega), hv_g2 _ (by omega), hv_g2 _ (by omega), fr i (by omega)])
  obtain ⟨υ, e2, I⟩ := hv_carryAll_91 true (am_sI (am_sI (am_sI τ 0 2 1) 66 22 0) 66 38 1)
  have F : ∀ i j, hv_scr i j = false → i ≠ 91 → (i < 18 ∨ 27 < i) → ¬ (i = 0 ∧ j = 2) → ¬ (i = 66 ∧ j = 38) → υ.1 i j = σ.1 i j := fun i j s h1 h2 h3 h4 => by
    have a : υ.1 i j = (am_sI (am_sI (am_sI τ 0 2 1) 66 22 0) 66 38 1).1 i j := by
      cases c : hv_hm i j
      · exact I.fr i j h1 (fun q => by rcases q with ⟨rfl, rfl | rfl⟩ <;> cases s) c
      · exact (I.yes rfl).1 i j c
    rw [a]
    by_cases c6 : i = 66
    · subst c6
      have n22 : j ≠ 22 := fun q => by rw [q] at s; cases s
      rw [hv_g3 _ _ (by omega), hv_g3 _ _ n22, hv_g2 _ (by decide), fr 66 (by omega)]
    · rw [hv_g2 _ c6, hv_g2 _ c6]
      by_cases c0 : i = 0
      · subst c0; rw [hv_g3 _ _ (by omega), fr 0 (by omega)]
      · rw [hv_g2 _ c0, fr i (by omega)]
  have F18 : ∀ i j, 18 ≤ i → i ≤ 27 → υ.1 i j = τ.1 i j := fun i j h1 h2 => by
    have hz : hv_hm i j = false := by
      have e : i = 18 ∨ i = 19 ∨ i = 20 ∨ i = 21 ∨ i = 22 ∨ i = 23 ∨ i = 24 ∨ i = 25 ∨ i = 26 ∨ i = 27 := by omega
      rcases e with rfl | rfl | rfl | rfl | rfl | rfl | rfl | rfl | rfl | rfl <;> rfl
    rw [I.fr i j (by omega) (by omega) hz, hv_g2 _ (by omega), hv_g2 _ (by omega), hv_g2 _ (by omega)]
  have Dm : hv_mod h υ := T1.frame (fun k hk => (I.yes rfl).1 66 k (by
      have e : k = 0 ∨ k = 1 ∨ k = 2 ∨ k = 3 ∨ k = 4 ∨ k = 5 ∨ k = 6 := by omega
      rcases e with rfl | rfl | rfl | rfl | rfl | rfl | rfl <;> rfl)) (fun i k h1 h2 => (I.yes rfl).1 i k (by
      have e : i = 67 ∨ i = 68 ∨ i = 69 ∨ i = 70 ∨ i = 71 ∨ i = 72 ∨ i = 73 ∨ i = 74 ∨ i = 75 ∨ i = 76 ∨ i = 77 ∨ i = 78 ∨ i = 79 ∨ i = 80 ∨ i = 81 := by omega
      rcases e with rfl | rfl | rfl | rfl | rfl | rfl | rfl | rfl | rfl | rfl | rfl | rfl | rfl | rfl | rfl <;> rfl))
  refine ⟨hI h.F, am_sI τ 0 2 1, υ, ?_, ?_, ?_⟩
  · rw [eq_X_image]; unfold g_X_image
    rw [e]
    simp only [Option.bind_some]
    rw [hv_g2 _ (show (1 : Nat) ≠ 0 by decide), fr 1 (by omega)]
    exact congrArg some (congrArg (Prod.mk · _) H.d.F)
  · rw [eq_M_image]; unfold g_M_image
    dsimp only
    rw [show f_M_carryAll_91 1 (am_sI (am_sI (am_sI τ 0 2 1) 66 22 0) 66 38 1) = some υ from e2]
    simp only [Option.bind_some]
    rw [Dm.F]
  · obtain ⟨-, -, ⟨n, hn, l1, l2, l3⟩, ⟨q, hq, r1, r2, r3⟩, rf⟩ := hi
    refine ⟨⟨h, H.ok, H.so, H.d.frame fun i j b1 b2 => F i j (hv_scr_dev (.inl rfl) b1 b2) (by omega) (by omega) (by omega) (by omega), Dm⟩, .inr ⟨?_, ?_, h, H.ok, H.so, d18.frame fun i j b1 b2 => F18 i j b1 (by omega), I.img H.ok T1⟩, ⟨n, hn, (F 35 1 rfl (by decide) (by decide) (by decide) (by decide)).trans l1, (F 66 28 rfl (by decide) (by decide) (by decide) (by decide)).trans l2, fun i hi => ?_⟩, ⟨q, hq, (F 0 7 rfl (by decide) (by decide) (by decide) (by decide)).trans r1, (F 66 46 rfl (by decide) (by decide) (by decide) (by decide)).trans r2, fun i hi => ?_⟩, fun i hi => ?_⟩
    · rw [I.fr 0 2 (by decide) (by decide) rfl, hv_g2 _ (by decide), hv_g2 _ (by decide), hv_g1]
    · rw [I.fr 66 38 (by decide) (by decide) rfl, hv_g1]
    · rw [F 36 i rfl (by decide) (by decide) (by omega) (by omega), F 86 i rfl (by decide) (by decide) (by omega) (by omega)]; exact l3 i hi
    · rw [F 64 i rfl (by decide) (by decide) (by omega) (by omega), F 94 i rfl (by decide) (by decide) (by omega) (by omega)]; exact r3 i hi
    · rw [F 65 i rfl (by decide) (by decide) (by omega) (by omega), F 82 i (hv_scr_mod (by decide) (by decide)) (by decide) (by decide) (by omega) (by omega)]; exact rf i hi
theorem hv_st_restore : st_restore hv_inv := by
  intro σ hi
  obtain ⟨h, H⟩ := hi.at
  rcases hi.2.1 with ⟨z1, z2⟩ | ⟨z1, z2, g, ok, so, d18, im⟩
  · refine hv_qry hi H 3 (-3) (hv_refX (by decide) ?_) (fun τ T s => ?_)
    · simp only [eq_X_restore, g_X_restore, z1, Option.bind_some, ↓reduceIte, hv_10, hv_01, hI_00, hI_10, hv_X_r1, hv_X_r2, hv_X_r3, hv_X_r4, hv_X_r6, hv_M_r1, hv_M_r2, hv_M_r3, hv_M_r4, hv_M_r6]
    · have z3 : τ.1 66 38 = 0 := by rw [s 66 38 rfl, if_neg (by decide)]; exact z2
      refine hv_thr (hv_refM (by decide) ?_)
      rw [eq_M_restore]; unfold g_M_restore
      dsimp only
      rw [hv_g3 _ _ (show (38 : Nat) ≠ 22 by decide), z3]
      simp only [Option.bind_some, ↓reduceIte, hv_10, hv_01, hI_00, hI_10, hv_X_r1, hv_X_r2, hv_X_r3, hv_X_r4, hv_X_r6, hv_M_r1, hv_M_r2, hv_M_r3, hv_M_r4, hv_M_r6]
  · obtain ⟨τ, e, d1, t2, fr⟩ := hv_copy_1_18 ok d18
    refine hv_chg hi ok so (hI g.F) ⟨τ, ?_, d1, fun i j _ b => by rw [fr i (by
      rcases Nat.lt_or_ge i 1 with q | q
      · exact .inl q
      · refine .inr (Decidable.byContradiction fun q2 => ?_)
        have : i = 1 ∨ i = 2 ∨ i = 3 ∨ i = 4 ∨ i = 5 ∨ i = 6 ∨ i = 7 ∨ i = 8 ∨ i = 9 ∨ i = 10 := by omega
        rcases this with rfl | rfl | rfl | rfl | rfl | rfl | rfl | rfl | rfl | rfl <;> cases b)]⟩ (fun υ F => ?_)
    · rw [eq_X_restore]; unfold g_X_restore
      rw [z1, if_neg (by decide), e]
      simp only [Option.bind_some]
      rw [show τ.1 1 5 = hI g.F from d1.F]
    · have im2 : hv_img 91 g (am_sI υ 66 22 0) := im.frame fun k => by rw [hv_g2 _ (by decide)]; exact F 91 k rfl rfl
      obtain ⟨ω, e2, I⟩ := hv_carryAll_91 false (am_sI υ 66 22 0)
      have Dm := I.mod ok im2
      refine ⟨ω, ?_, Dm, fun i j s c => ?_⟩
      · rw [eq_M_restore]; unfold g_M_restore
        dsimp only
        rw [hv_g3 _ _ (show (38 : Nat) ≠ 22 by decide), F 66 38 rfl rfl, z2, if_neg (by decide), show f_M_carryAll_91 0 (am_sI υ 66 22 0) = some ω from e2]
        simp only [Option.bind_some]
        rw [Dm.F]
      · have n22 : ∀ k, (am_sI υ 66 22 0).1 i k = υ.1 i k ∨ (i = 66 ∧ k = 22) := fun k => by
          by_cases c6 : i = 66
          · subst c6
            by_cases c2 : k = 22
            · exact .inr ⟨rfl, c2⟩
            · exact .inl (hv_g3 _ _ c2 _)
          · exact .inl (by rw [hv_g2 _ c6])
        have nj : (am_sI υ 66 22 0).1 i j = υ.1 i j := (n22 j).resolve_right (fun q => by rw [q.1, q.2] at s; cases s)
        rw [← nj]
        by_cases c9 : i = 91
        · subst c9; rw [(I.no rfl).1]
        · exact I.fr i j c9 (fun q => by rcases q with ⟨rfl, rfl | rfl⟩ <;> cases s) c
