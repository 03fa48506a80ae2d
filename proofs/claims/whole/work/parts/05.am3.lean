/-! fields and arrays -/
theorem am_bit {v : Int32} (h : v &&& 1 = v) : (v == 0 || v == 1) = true := by
  obtain ⟨j, hj, e⟩ := pk_andE v (m := 1) 1 (by decide)
  rw [h] at e
  rcases (show j = 0 ∨ j = 1 by omega) with rfl | rfl
  · subst e; decide
  · subst e; decide
/-- what the tables say of a class -/
def am_CL (ci : Nat) (C : String) (T : u_T) (N : Nat) (ty : Nat → FieldType) : Prop := am_cl[ci]? = some (C, T, N) ∧ (∀ w ∈ u_ws C T N, am_in w) ∧ (∀ k, k < N → parseFieldDescriptor (T k).2.2.1 = some (ty k)) ∧ (∀ a, a < N → ∀ b, b < N → a ≠ b → (T a).2.1 ≠ (T b).2.1)
def am_ix (i : Int32) (n : Nat) : Bool := decide (¬ (i < 0 ∨ n ≤ i.toNatClampNeg))
theorem am_ix_in {i : Int32} {n : Nat} (h : am_ix i n = true) : vp_in i n := of_decide_eq_true (p := ¬ (i < 0 ∨ n ≤ i.toNatClampNeg)) h
section AMF
variable {G : am_G} {M : am_MD} {pc : Nat} {ρ : Type} {P : ρ → am_AQ → Prop} {k k1 k2 : am_K ρ} {ls : am_Lc} {st : List Value} {σ : am_St} {Q : am_AQ}
theorem aw_get {h f fk ci idx N : Nat} {C : String} {T : u_T} {ty : Nat → FieldType} {ks : List Nat} {v : Value} (d : decode M.2.1 pc = .ok (.getfield idx, 3)) (hcl : am_CL ci C T N ty) (hs : am_shapes[h]? = some (.inr (ci, ks))) (hf : ks[f]? = some fk) (hn : f < N) (hw : am_in (.fieldLink M.1.cls idx (T f).1 (T f).2.1 (T f).2.2.1))
    (hv : am_fv G.2.2.2 σ h f fk = am_cv G.2.2.2 v) (kk : am_AW G M (pc + 3) ls (v :: st) σ Q) : am_AW G M pc ls (.ref h :: st) σ Q := by
  intro p e s m args below meth c A hC hA H locs lr hP hD hS hl
  obtain ⟨hx, hb, hr, hml, hown, hts, hlk, hK, hN⟩ := id hC
  have k9 := kk p e s m args below meth c A hC hA H locs lr hP hD hS hl
  simp only [List.map_cons] at k9
  rw [← hv] at k9
  exact va_get hx hb hts (fun w h => (hcl.2.1 w h).LT) hown hK hP h (am_ws_at hs) hcl.1 f hn (hts _ hw.LT) (fun _ h => h) (am_fs_get hf) d k9
theorem aw_put {h f fk ci idx N : Nat} {C : String} {T : u_T} {ty : Nat → FieldType} {ks : List Nat} {v : Value} {τ : am_St} {t : FieldType} (d : decode M.2.1 pc = .ok (.putfield idx, 3)) (hcl : am_CL ci C T N ty) (hs : am_shapes[h]? = some (.inr (ci, ks))) (hf : ks[f]? = some fk) (hn : f < N) (hw : am_in (.fieldLink M.1.cls idx (T f).1 (T f).2.1 (T f).2.2.1))
    (hfin : (T f).2.2.2 = false) (hty : ty f = t) (hnar : narrow t (am_cv G.2.2.2 v) = am_cv G.2.2.2 v) (hfit : fits t (am_cv G.2.2.2 v) = true)
    (h1 : am_fv G.2.2.2 τ h f fk = am_cv G.2.2.2 v) (h2 : ∀ j gk, j ≠ f → ks[j]? = some gk → am_fv G.2.2.2 τ h j gk = am_fv G.2.2.2 σ h j gk) (h3 : ∀ j, j ≠ h → am_ce G.2.2.1 G.2.2.2 τ j = am_ce G.2.2.1 G.2.2.2 σ j)
    (kk : am_AW G M (pc + 3) ls st τ Q) : am_AW G M pc ls (v :: .ref h :: st) σ Q := by
  intro p e s m args below meth c A hC hA H locs lr hP hD hS hl
  obtain ⟨hx, hb, hr, hml, hown, hts, hlk, hK, hN⟩ := id hC
  have hlen : f < (am_fs G.2.2.2 σ h ks).length := by rw [am_fs_len]; exact (List.getElem?_eq_some_iff.mp hf).1
  have hset : (am_ws G.2.2.1 G.2.2.2 σ).set h (G.2.2.2 h, .inr (ci, (am_fs G.2.2.2 σ h ks).set f (am_cv G.2.2.2 v))) = am_ws G.2.2.1 G.2.2.2 τ := by
    refine am_ws_set ?_ h3
    unfold am_ce
    rw [hs]
    show (Sum.inr (ci, am_fs G.2.2.2 τ h ks) : va_E) = _
    rw [am_fs_set hf h1 h2]
  refine va_put hx hb hts (fun w h => (hcl.2.1 w h).LT) ty hcl.2.2.1 hcl.2.2.2 hown hK hP hD hS h (am_ws_at hs) hcl.1 f hn (hts _ hw.LT) (fun _ h => h) hfin (ty := t) (by rw [← hty]; exact hcl.2.2.1 f hn) hnar hfit hlen d (fun H1 locs1 hP1 hD1 hS1 => ?_)
  exact kk p e s m args below meth c A hC hA H1 locs1 lr (by rw [hset] at hP1; exact hP1) (by rw [hset] at hD1; exact hD1) hS1 hl
def ki_gI (h f : Nat) (k : am_K ρ) : am_K ρ := fun ls st σ => match st with
  | .ref q :: t => match Nat.beq q h with
    | true => k ls (.int (σ.1 h f) :: t) σ
    | false => none
  | _ => none
def ki_gL (h f : Nat) (k : am_K ρ) : am_K ρ := fun ls st σ => match st with
  | .ref q :: t => match Nat.beq q h with
    | true => k ls (.long (σ.2.1 h f) :: t) σ
    | false => none
  | _ => none
def ki_gR (h r : Nat) (k : am_K ρ) : am_K ρ := fun ls st σ => match st with
  | .ref q :: t => match Nat.beq q h with
    | true => k ls (.ref r :: t) σ
    | false => none
  | _ => none
def ki_gK (h : Nat) (k : am_K ρ) : am_K ρ := fun ls st σ => match st with
  | .ref q :: t => match Nat.beq q h with
    | true => σ.2.2.bind (fun r => k ls (.ref r :: t) σ)
    | false => none
  | _ => none
def ki_pI (h f : Nat) (k : am_K ρ) : am_K ρ := fun ls st σ => match st with
  | .int x :: .ref q :: t => match Nat.beq q h with
    | true => k ls t (am_sI σ h f x)
    | false => none
  | _ => none
def ki_pZ (h f : Nat) (k : am_K ρ) : am_K ρ := fun ls st σ => match st with
  | .int x :: .ref q :: t => match Nat.beq q h with
    | true => if x &&& 1 = x then k ls t (am_sI σ h f x) else none
    | false => none
  | _ => none
def ki_pL (h f : Nat) (k : am_K ρ) : am_K ρ := fun ls st σ => match st with
  | .long x :: .ref q :: t => match Nat.beq q h with
    | true => k ls t (am_sL σ h f x)
    | false => none
  | _ => none
def ki_pK (h : Nat) (k : am_K ρ) : am_K ρ := fun ls st σ => match st with
  | .ref x :: .ref q :: t => match Nat.beq q h with
    | true => k ls t (am_sK σ (some x))
    | false => none
  | _ => none
theorem sn_gI {h f ci idx N : Nat} {C : String} {T : u_T} {ty : Nat → FieldType} {ks : List Nat} (d : decode M.2.1 pc = .ok (.getfield idx, 3)) (hcl : am_CL ci C T N ty) (hs : am_shapes[h]? = some (.inr (ci, ks))) (hf : ks[f]? = some 0) (hn : f < N) (hw : am_in (.fieldLink M.1.cls idx (T f).1 (T f).2.1 (T f).2.2.1)) (hk : am_Snd G M (pc + 3) P k) : am_Snd G M pc P (ki_gI h f k) := by
  intro ls st σ r Q e hr
  unfold ki_gI at e
  split at e
  · split at e
    · rename_i hq
      rw [Nat.eq_of_beq_eq_true hq]
      exact aw_get d hcl hs hf hn hw rfl (hk _ _ _ _ _ e hr)
    · cases e
  · cases e
theorem sn_gL {h f ci idx N : Nat} {C : String} {T : u_T} {ty : Nat → FieldType} {ks : List Nat} (d : decode M.2.1 pc = .ok (.getfield idx, 3)) (hcl : am_CL ci C T N ty) (hs : am_shapes[h]? = some (.inr (ci, ks))) (hf : ks[f]? = some 1) (hn : f < N) (hw : am_in (.fieldLink M.1.cls idx (T f).1 (T f).2.1 (T f).2.2.1)) (hk : am_Snd G M (pc + 3) P k) : am_Snd G M pc P (ki_gL h f k) := by
  intro ls st σ r Q e hr
  unfold ki_gL at e
  split at e
  · split at e
    · rename_i hq
      rw [Nat.eq_of_beq_eq_true hq]
      exact aw_get d hcl hs hf hn hw rfl (hk _ _ _ _ _ e hr)
    · cases e
  · cases e
theorem sn_gR {h f ci idx N r0 : Nat} {C : String} {T : u_T} {ty : Nat → FieldType} {ks : List Nat} (d : decode M.2.1 pc = .ok (.getfield idx, 3)) (hcl : am_CL ci C T N ty) (hs : am_shapes[h]? = some (.inr (ci, ks))) (hf : ks[f]? = some (r0 + 3)) (hn : f < N) (hw : am_in (.fieldLink M.1.cls idx (T f).1 (T f).2.1 (T f).2.2.1)) (hk : am_Snd G M (pc + 3) P k) : am_Snd G M pc P (ki_gR h r0 k) := by
  intro ls st σ r Q e hr
  unfold ki_gR at e
  split at e
  · split at e
    · rename_i hq
      rw [Nat.eq_of_beq_eq_true hq]
      exact aw_get d hcl hs hf hn hw rfl (hk _ _ _ _ _ e hr)
    · cases e
  · cases e
theorem sn_gK {h f ci idx N : Nat} {C : String} {T : u_T} {ty : Nat → FieldType} {ks : List Nat} (d : decode M.2.1 pc = .ok (.getfield idx, 3)) (hcl : am_CL ci C T N ty) (hs : am_shapes[h]? = some (.inr (ci, ks))) (hf : ks[f]? = some 2) (hn : f < N) (hw : am_in (.fieldLink M.1.cls idx (T f).1 (T f).2.1 (T f).2.2.1)) (hk : am_Snd G M (pc + 3) P k) : am_Snd G M pc P (ki_gK h k) := by
  intro ls st σ r Q e hr
  unfold ki_gK at e
  split at e
  · split at e
    · rename_i hq
      rw [Nat.eq_of_beq_eq_true hq]
      obtain ⟨r1, h1, e⟩ := Option.bind_eq_some_iff.mp e
      exact aw_get d hcl hs hf hn hw (v := .ref r1) (by simp [am_fv, h1, am_cv, va_rf]) (hk _ _ _ _ _ e hr)
    · cases e
  · cases e
theorem am_sI_h2 {ad : Nat → Nat} {σ : am_St} {h f : Nat} {x : Int32} (j gk : Nat) (hj : j ≠ f) : am_fv ad (am_sI σ h f x) h j gk = am_fv ad σ h j gk := by
  unfold am_fv
  split <;> simp [am_sI, am_rI, upd, hj]
theorem am_sL_h2 {ad : Nat → Nat} {σ : am_St} {h f : Nat} {x : Int64} (j gk : Nat) (hj : j ≠ f) : am_fv ad (am_sL σ h f x) h j gk = am_fv ad σ h j gk := by
  unfold am_fv
  split <;> simp [am_sL, am_rL, vp_updL, hj]
theorem sn_pI {h f ci idx N : Nat} {C : String} {T : u_T} {ty : Nat → FieldType} {ks : List Nat} (d : decode M.2.1 pc = .ok (.putfield idx, 3)) (hcl : am_CL ci C T N ty) (hs : am_shapes[h]? = some (.inr (ci, ks))) (hf : ks[f]? = some 0) (hn : f < N) (hw : am_in (.fieldLink M.1.cls idx (T f).1 (T f).2.1 (T f).2.2.1)) (hfin : (T f).2.2.2 = false) (hty : ty f = .int) (hk : am_Snd G M (pc + 3) P k) : am_Snd G M pc P (ki_pI h f k) := by
  intro ls st σ r Q e hr
  unfold ki_pI at e
  split at e
  · split at e
    · rename_i hq
      rw [Nat.eq_of_beq_eq_true hq]
      exact aw_put d hcl hs hf hn hw hfin hty rfl rfl (by simp [am_fv, am_sI, am_rI, upd, am_cv]) (fun j gk hj _ => am_sI_h2 j gk hj) am_ce_rI_ne (hk _ _ _ _ _ e hr)
    · cases e
  · cases e
theorem sn_pZ {h f ci idx N : Nat} {C : String} {T : u_T} {ty : Nat → FieldType} {ks : List Nat} (d : decode M.2.1 pc = .ok (.putfield idx, 3)) (hcl : am_CL ci C T N ty) (hs : am_shapes[h]? = some (.inr (ci, ks))) (hf : ks[f]? = some 0) (hn : f < N) (hw : am_in (.fieldLink M.1.cls idx (T f).1 (T f).2.1 (T f).2.2.1)) (hfin : (T f).2.2.2 = false) (hty : ty f = .boolean) (hk : am_Snd G M (pc + 3) P k) : am_Snd G M pc P (ki_pZ h f k) := by
  intro ls st σ r Q e hr
  unfold ki_pZ at e
  split at e
  · split at e
    · rename_i hq
      rw [Nat.eq_of_beq_eq_true hq]
      split at e
      · rename_i hx
        exact aw_put d hcl hs hf hn hw hfin hty (by simp [am_cv, narrow, hx]) (by simpa [am_cv, fits] using am_bit hx) (by simp [am_fv, am_sI, am_rI, upd, am_cv]) (fun j gk hj _ => am_sI_h2 j gk hj) am_ce_rI_ne (hk _ _ _ _ _ e hr)
      · cases e
    · cases e
  · cases e
theorem sn_pL {h f ci idx N : Nat} {C : String} {T : u_T} {ty : Nat → FieldType} {ks : List Nat} (d : decode M.2.1 pc = .ok (.putfield idx, 3)) (hcl : am_CL ci C T N ty) (hs : am_shapes[h]? = some (.inr (ci, ks))) (hf : ks[f]? = some 1) (hn : f < N) (hw : am_in (.fieldLink M.1.cls idx (T f).1 (T f).2.1 (T f).2.2.1)) (hfin : (T f).2.2.2 = false) (hty : ty f = .long) (hk : am_Snd G M (pc + 3) P k) : am_Snd G M pc P (ki_pL h f k) := by
  intro ls st σ r Q e hr
  unfold ki_pL at e
  split at e
  · split at e
    · rename_i hq
      rw [Nat.eq_of_beq_eq_true hq]
      exact aw_put d hcl hs hf hn hw hfin hty rfl rfl (by simp [am_fv, am_sL, am_rL, vp_updL, am_cv]) (fun j gk hj _ => am_sL_h2 j gk hj) am_ce_rL_ne (hk _ _ _ _ _ e hr)
    · cases e
  · cases e
theorem am_cs_noK {ta : Nat → ClassId} {ad : Nat → Nat} {σ : am_St} {x : Option Nat} {i : Nat} {sh : Option ((Nat × Nat) ⊕ (Nat × List Nat))} (h : am_noK sh = true) : am_cs ta ad (am_sK σ x) i sh = am_cs ta ad σ i sh := by
  unfold am_cs
  split
  any_goals rfl
  rename_i ci ks
  have h2 : ∀ fk ∈ ks, fk ≠ 2 := by
    intro fk hf h2
    subst h2
    simp [am_noK] at h
    exact h hf
  congr 2
  apply List.ext_getElem?
  intro j
  cases hg : ks[j]? with
  | none => simp [am_fs, hg]
  | some gk =>
    rw [am_fs_get hg, am_fs_get hg]
    have h3 := h2 gk (List.mem_of_getElem? hg)
    unfold am_fv
    split <;> first | rfl | exact absurd rfl h3
theorem sn_pK {h f ci idx N : Nat} {C : String} {T : u_T} {ty : Nat → FieldType} {ks : List Nat} (d : decode M.2.1 pc = .ok (.putfield idx, 3)) (hcl : am_CL ci C T N ty) (hs : am_shapes[h]? = some (.inr (ci, ks))) (hf : ks[f]? = some 2) (hn : f < N) (hw : am_in (.fieldLink M.1.cls idx (T f).1 (T f).2.1 (T f).2.2.1)) (hfin : (T f).2.2.2 = false) {t : FieldType} (hty : ty f = .array t) (h66 : h = 66) (hone : ∀ j gk, j ≠ f → ks[j]? = some gk → gk ≠ 2) (hk : am_Snd G M (pc + 3) P k) : am_Snd G M pc P (ki_pK h k) := by
  intro ls st σ r Q e hr
  unfold ki_pK at e
  split at e
  · split at e
    · rename_i hq
      rw [Nat.eq_of_beq_eq_true hq]
      refine aw_put d hcl hs hf hn hw hfin hty rfl rfl (by simp [am_fv, am_sK, am_cv, va_rf]) (fun j gk hj hg => ?_) (fun j hj => ?_) (hk _ _ _ _ _ e hr)
      · have h3 := hone j gk hj hg
        unfold am_fv
        split <;> first | rfl | exact absurd rfl h3
      · unfold am_ce
        refine am_cs_noK ?_
        by_cases hj2 : j < 95
        · have h4 := List.all_eq_true.mp am_shapes_K j (List.mem_range.mpr hj2)
          rw [h66] at hj
          simpa [hj] using h4
        · rw [List.getElem?_eq_none (by rw [am_shapes_len]; omega)]
          rfl
    · cases e
  · cases e
/-! arrays -/
theorem aw_iald {h n : Nat} {i : Int32} (d : decode M.2.1 pc = .ok (.iaload, 1)) (hs : am_shapes[h]? = some (.inl (0, n))) (hi : vp_in i n) (kk : am_AW G M (pc + 1) ls (.int (σ.1 h i.toNatClampNeg) :: st) σ Q) : am_AW G M pc ls (.int i :: .ref h :: st) σ Q := by
  intro p e s m args below meth c A hC hA H locs lr hP hD hS hl
  obtain ⟨hx, hb, hr, hml, hown, hts, hlk, hK, hN⟩ := id hC
  exact va_iald hx hb hK hP h 0 (am_ws_at hs) rfl hi d (kk p e s m args below meth c A hC hA H locs lr hP hD hS hl)
theorem aw_zald {h n : Nat} {i : Int32} (d : decode M.2.1 pc = .ok (.baload, 1)) (hs : am_shapes[h]? = some (.inl (1, n))) (hi : vp_in i n) (kk : am_AW G M (pc + 1) ls (.int (σ.1 h i.toNatClampNeg) :: st) σ Q) : am_AW G M pc ls (.int i :: .ref h :: st) σ Q := by
  intro p e s m args below meth c A hC hA H locs lr hP hD hS hl
  obtain ⟨hx, hb, hr, hml, hown, hts, hlk, hK, hN⟩ := id hC
  exact va_zald hx hb hK hP h 1 (am_ws_at hs) rfl hi d (kk p e s m args below meth c A hC hA H locs lr hP hD hS hl)
theorem aw_lald {h n : Nat} {i : Int32} (d : decode M.2.1 pc = .ok (.laload, 1)) (hs : am_shapes[h]? = some (.inl (2, n))) (hi : vp_in i n) (kk : am_AW G M (pc + 1) ls (.long (σ.2.1 h i.toNatClampNeg) :: st) σ Q) : am_AW G M pc ls (.int i :: .ref h :: st) σ Q := by
  intro p e s m args below meth c A hC hA H locs lr hP hD hS hl
  obtain ⟨hx, hb, hr, hml, hown, hts, hlk, hK, hN⟩ := id hC
  exact va_lald hx hb hK hP h 2 (am_ws_at hs) rfl hi d (kk p e s m args below meth c A hC hA H locs lr hP hD hS hl)
theorem aw_aald {h n : Nat} {i : Int32} (d : decode M.2.1 pc = .ok (.aaload, 1)) (hs : am_shapes[h]? = some (.inl (3, n))) (hi : vp_in i n) (kk : am_AW G M (pc + 1) ls (.ref (h + 1 + i.toNatClampNeg) :: st) σ Q) : am_AW G M pc ls (.int i :: .ref h :: st) σ Q := by
  intro p e s m args below meth c A hC hA H locs lr hP hD hS hl
  obtain ⟨hx, hb, hr, hml, hown, hts, hlk, hK, hN⟩ := id hC
  exact va_aldq hx hb hK hP h 3 (am_ws_at hs) rfl hi d (kk p e s m args below meth c A hC hA H locs lr hP hD hS hl)
theorem aw_iast {h n : Nat} {i x : Int32} (d : decode M.2.1 pc = .ok (.iastore, 1)) (hs : am_shapes[h]? = some (.inl (0, n))) (hi : vp_in i n) (kk : am_AW G M (pc + 1) ls st (am_sI σ h i.toNatClampNeg x) Q) : am_AW G M pc ls (.int x :: .int i :: .ref h :: st) σ Q := by
  intro p e s m args below meth c A hC hA H locs lr hP hD hS hl
  obtain ⟨hx, hb, hr, hml, hown, hts, hlk, hK, hN⟩ := id hC
  have hset : (am_ws G.2.2.1 G.2.2.2 σ).set h (G.2.2.2 h, .inl (G.2.2.1 0, n, .inl (upd (σ.1 h) i.toNatClampNeg x))) = am_ws G.2.2.1 G.2.2.2 (am_sI σ h i.toNatClampNeg x) := by
    refine am_ws_set ?_ am_ce_rI_ne
    unfold am_ce
    rw [hs]
    simp [am_cs, am_sI, am_rI]
  refine va_iast hx hb hK hP hD hS h 0 (am_ws_at hs) rfl hi d (fun H1 locs1 hP1 hD1 hS1 => ?_)
  exact kk p e s m args below meth c A hC hA H1 locs1 lr (by rw [hset] at hP1; exact hP1) (by rw [hset] at hD1; exact hD1) hS1 hl
theorem aw_zast {h n : Nat} {i x : Int32} (d : decode M.2.1 pc = .ok (.bastore, 1)) (hs : am_shapes[h]? = some (.inl (1, n))) (hi : vp_in i n) (kk : am_AW G M (pc + 1) ls st (am_sI σ h i.toNatClampNeg (x &&& 1)) Q) : am_AW G M pc ls (.int x :: .int i :: .ref h :: st) σ Q := by
  intro p e s m args below meth c A hC hA H locs lr hP hD hS hl
  obtain ⟨hx, hb, hr, hml, hown, hts, hlk, hK, hN⟩ := id hC
  have hset : (am_ws G.2.2.1 G.2.2.2 σ).set h (G.2.2.2 h, .inl (G.2.2.1 1, n, .inl (upd (σ.1 h) i.toNatClampNeg (vp_nar .boolean x)))) = am_ws G.2.2.1 G.2.2.2 (am_sI σ h i.toNatClampNeg (x &&& 1)) := by
    refine am_ws_set ?_ am_ce_rI_ne
    unfold am_ce
    rw [hs]
    simp [am_cs, am_sI, am_rI, vp_nar, narrow]
  refine va_zast hx hb hK hP hD hS h 1 (am_ws_at hs) rfl hi d (fun H1 locs1 hP1 hD1 hS1 => ?_)
  exact kk p e s m args below meth c A hC hA H1 locs1 lr (by rw [hset] at hP1; exact hP1) (by rw [hset] at hD1; exact hD1) hS1 hl
theorem aw_last {h n : Nat} {i : Int32} {x : Int64} (d : decode M.2.1 pc = .ok (.lastore, 1)) (hs : am_shapes[h]? = some (.inl (2, n))) (hi : vp_in i n) (kk : am_AW G M (pc + 1) ls st (am_sL σ h i.toNatClampNeg x) Q) : am_AW G M pc ls (.long x :: .int i :: .ref h :: st) σ Q := by
  intro p e s m args below meth c A hC hA H locs lr hP hD hS hl
  obtain ⟨hx, hb, hr, hml, hown, hts, hlk, hK, hN⟩ := id hC
  have hset : (am_ws G.2.2.1 G.2.2.2 σ).set h (G.2.2.2 h, .inl (G.2.2.1 2, n, .inr (.inl (vp_updL (σ.2.1 h) i.toNatClampNeg x)))) = am_ws G.2.2.1 G.2.2.2 (am_sL σ h i.toNatClampNeg x) := by
    refine am_ws_set ?_ am_ce_rL_ne
    unfold am_ce
    rw [hs]
    simp [am_cs, am_sL, am_rL]
  refine va_last hx hb hK hP hD hS h 2 (am_ws_at hs) rfl hi d (fun H1 locs1 hP1 hD1 hS1 => ?_)
  exact kk p e s m args below meth c A hC hA H1 locs1 lr (by rw [hset] at hP1; exact hP1) (by rw [hset] at hD1; exact hD1) hS1 hl
def ki_aI (h n : Nat) (k : am_K ρ) : am_K ρ := fun ls st σ => match st with
  | .int i :: .ref q :: t => match Nat.beq q h with
    | true => if am_ix i n = true then k ls (.int (σ.1 h i.toNatClampNeg) :: t) σ else none
    | false => none
  | _ => none
def ki_aL (h n : Nat) (k : am_K ρ) : am_K ρ := fun ls st σ => match st with
  | .int i :: .ref q :: t => match Nat.beq q h with
    | true => if am_ix i n = true then k ls (.long (σ.2.1 h i.toNatClampNeg) :: t) σ else none
    | false => none
  | _ => none
def ki_aR (h n : Nat) (k : am_K ρ) : am_K ρ := fun ls st σ => match st with
  | .int i :: .ref q :: t => match Nat.beq q h with
    | true => if am_ix i n = true then k ls (.ref (h + 1 + i.toNatClampNeg) :: t) σ else none
    | false => none
  | _ => none
def ki_sI (h n : Nat) (k : am_K ρ) : am_K ρ := fun ls st σ => match st with
  | .int x :: .int i :: .ref q :: t => match Nat.beq q h with
    | true => if am_ix i n = true then k ls t (am_sI σ h i.toNatClampNeg x) else none
    | false => none
  | _ => none
def ki_sZ (h n : Nat) (k : am_K ρ) : am_K ρ := fun ls st σ => match st with
  | .int x :: .int i :: .ref q :: t => match Nat.beq q h with
    | true => if am_ix i n = true then k ls t (am_sI σ h i.toNatClampNeg (x &&& 1)) else none
    | false => none
  | _ => none
def ki_sL (h n : Nat) (k : am_K ρ) : am_K ρ := fun ls st σ => match st with
  | .long x :: .int i :: .ref q :: t => match Nat.beq q h with
    | true => if am_ix i n = true then k ls t (am_sL σ h i.toNatClampNeg x) else none
    | false => none
  | _ => none
theorem sn_aI {h n : Nat} (d : decode M.2.1 pc = .ok (.iaload, 1)) (hs : am_shapes[h]? = some (.inl (0, n))) (hk : am_Snd G M (pc + 1) P k) : am_Snd G M pc P (ki_aI h n k) := by
  intro ls st σ r Q e hr
  unfold ki_aI at e
  split at e
  · split at e
    · rename_i hq
      rw [Nat.eq_of_beq_eq_true hq]
      split at e
      · rename_i hi
        exact aw_iald d hs (am_ix_in hi) (hk _ _ _ _ _ e hr)
      · cases e
    · cases e
  · cases e
theorem sn_aZ {h n : Nat} (d : decode M.2.1 pc = .ok (.baload, 1)) (hs : am_shapes[h]? = some (.inl (1, n))) (hk : am_Snd G M (pc + 1) P k) : am_Snd G M pc P (ki_aI h n k) := by
  intro ls st σ r Q e hr
  unfold ki_aI at e
  split at e
  · split at e
    · rename_i hq
      rw [Nat.eq_of_beq_eq_true hq]
      split at e
      · rename_i hi
        exact aw_zald d hs (am_ix_in hi) (hk _ _ _ _ _ e hr)
      · cases e
    · cases e
  · cases e
theorem sn_aL {h n : Nat} (d : decode M.2.1 pc = .ok (.laload, 1)) (hs : am_shapes[h]? = some (.inl (2, n))) (hk : am_Snd G M (pc + 1) P k) : am_Snd G M pc P (ki_aL h n k) := by
  intro ls st σ r Q e hr
  unfold ki_aL at e
  split at e
  · split at e
    · rename_i hq
      rw [Nat.eq_of_beq_eq_true hq]
      split at e
      · rename_i hi
        exact aw_lald d hs (am_ix_in hi) (hk _ _ _ _ _ e hr)
      · cases e
    · cases e
  · cases e
theorem sn_aR {h n : Nat} (d : decode M.2.1 pc = .ok (.aaload, 1)) (hs : am_shapes[h]? = some (.inl (3, n))) (hk : am_Snd G M (pc + 1) P k) : am_Snd G M pc P (ki_aR h n k) := by
  intro ls st σ r Q e hr
  unfold ki_aR at e
  split at e
  · split at e
    · rename_i hq
      rw [Nat.eq_of_beq_eq_true hq]
      split at e
      · rename_i hi
        exact aw_aald d hs (am_ix_in hi) (hk _ _ _ _ _ e hr)
      · cases e
    · cases e
  · cases e
theorem sn_sI {h n : Nat} (d : decode M.2.1 pc = .ok (.iastore, 1)) (hs : am_shapes[h]? = some (.inl (0, n))) (hk : am_Snd G M (pc + 1) P k) : am_Snd G M pc P (ki_sI h n k) := by
  intro ls st σ r Q e hr
  unfold ki_sI at e
  split at e
  · split at e
    · rename_i hq
      rw [Nat.eq_of_beq_eq_true hq]
      split at e
      · rename_i hi
        exact aw_iast d hs (am_ix_in hi) (hk _ _ _ _ _ e hr)
      · cases e
    · cases e
  · cases e
theorem sn_sZ {h n : Nat} (d : decode M.2.1 pc = .ok (.bastore, 1)) (hs : am_shapes[h]? = some (.inl (1, n))) (hk : am_Snd G M (pc + 1) P k) : am_Snd G M pc P (ki_sZ h n k) := by
  intro ls st σ r Q e hr
  unfold ki_sZ at e
  split at e
  · split at e
    · rename_i hq
      rw [Nat.eq_of_beq_eq_true hq]
      split at e
      · rename_i hi
        exact aw_zast d hs (am_ix_in hi) (hk _ _ _ _ _ e hr)
      · cases e
    · cases e
  · cases e
theorem sn_sL {h n : Nat} (d : decode M.2.1 pc = .ok (.lastore, 1)) (hs : am_shapes[h]? = some (.inl (2, n))) (hk : am_Snd G M (pc + 1) P k) : am_Snd G M pc P (ki_sL h n k) := by
  intro ls st σ r Q e hr
  unfold ki_sL at e
  split at e
  · split at e
    · rename_i hq
      rw [Nat.eq_of_beq_eq_true hq]
      split at e
      · rename_i hi
        exact aw_last d hs (am_ix_in hi) (hk _ _ _ _ _ e hr)
      · cases e
    · cases e
  · cases e
def ki_len (h : Nat) (v : Int32) (k : am_K ρ) : am_K ρ := fun ls st σ => match st with
  | .ref q :: t => match Nat.beq q h with
    | true => k ls (.int v :: t) σ
    | false => none
  | _ => none
theorem sn_len {h tag n : Nat} {v : Int32} (d : decode M.2.1 pc = .ok (.arraylength, 1)) (hs : am_shapes[h]? = some (.inl (tag, n))) (hv : Int32.ofNat n = v) (hk : am_Snd G M (pc + 1) P k) : am_Snd G M pc P (ki_len h v k) := by
  intro ls st σ r Q e hr
  unfold ki_len at e
  split at e
  · split at e
    · rename_i hq
      rw [Nat.eq_of_beq_eq_true hq]
      intro p e2 s m args below meth c A hC hA H locs lr hP hD hS hl
      obtain ⟨hx, hb, hr2, hml, hown, hts, hlk, hK, hN⟩ := id hC
      have k9 := hk _ _ _ _ _ e hr p e2 s m args below meth c A hC hA H locs lr hP hD hS hl
      have hws := am_ws_at (ta := G.2.2.1) (ad := G.2.2.2) (σ := σ) hs
      match tag, hws with
      | 0, hws => exact va_alen hx hb hK hP h 0 hws rfl hv d k9
      | 1, hws => exact va_alen hx hb hK hP h 1 hws rfl hv d k9
      | 2, hws => exact va_alen hx hb hK hP h 2 hws rfl hv d k9
      | t + 3, hws => exact va_alen hx hb hK hP h 3 hws rfl hv d k9
    · cases e
  · cases e
/-- System.arraycopy between int arrays, from 0 to 0 -/
def ki_cpy (src dst n : Nat) (v : Int32) (k : am_K ρ) : am_K ρ := fun ls st σ => match st with
  | .int x :: .int dp :: .ref q1 :: .int sp :: .ref q0 :: t => match Nat.beq q0 src, Nat.beq q1 dst with
    | true, true => if x = v ∧ dp = 0 ∧ sp = 0 then match t with
      | [] => k ls [] (am_rI σ dst (va_cpy (σ.1 src) (σ.1 dst) 0 0 n))
      | _ => none
      else none
    | _, _ => none
  | _ => none
theorem sn_cpy {src dst n n0 n1 idx : Nat} {v : Int32} (d : decode M.2.1 pc = .ok (.invokestatic idx, 3)) (h0 : am_shapes[src]? = some (.inl (0, n0))) (h1 : am_shapes[dst]? = some (.inl (0, n1))) (w1 : am_in (.methodLink M.1.cls idx arraycopyName)) (w2 : am_in (.native arraycopyName)) (w3 : am_in (.static arraycopyName)) (w4 : am_in (.initialized "java/lang/System"))
    (hv : ¬ v < 0 ∧ v.toNatClampNeg = n ∧ n ≤ n0 ∧ n ≤ n1) (hR : 1 ≤ (am_rm M).frames ∧ nativeFrameWords "java/lang/System" "arraycopy" 5 + 11 ≤ (am_rm M).locals) (hk : am_Snd G M (pc + 3) P k) : am_Snd G M pc P (ki_cpy src dst n v k) := by
  intro ls st σ r Q e hr
  unfold ki_cpy at e
  split at e
  · rename_i x dp q1 sp q0 t
    split at e
    · rename_i hq0 hq1
      rw [Nat.eq_of_beq_eq_true hq0, Nat.eq_of_beq_eq_true hq1]
      split at e
      · rename_i hc
        obtain ⟨rfl, rfl, rfl⟩ := hc
        split at e
        · intro p e2 s m args below meth c A hC hA H locs lr hP hD hS hl
          obtain ⟨hx, hb, hr2, hml, hown, hts, hlk, hK, hN⟩ := id hC
          obtain ⟨v1, v2, v3, v4⟩ := hv
          subst v2
          have hset : (am_ws G.2.2.1 G.2.2.2 σ).set dst (G.2.2.2 dst, .inl (G.2.2.1 0, n1, .inl (va_cpy (σ.1 src) (σ.1 dst) 0 0 x.toNatClampNeg))) = am_ws G.2.2.1 G.2.2.2 (am_rI σ dst (va_cpy (σ.1 src) (σ.1 dst) 0 0 x.toNatClampNeg)) := by
            refine am_ws_set ?_ am_ce_rI_ne
            unfold am_ce
            rw [h1]
            simp [am_cs, am_rI]
          have k9 := hk _ _ _ _ _ e hr p e2 s m args below meth c A hC hA
          refine va_copyi (rest := []) hx hb (by rw [hml]; exact hl.1.symm) hown (hts _ w1.LT) (hts _ w2.LT) (hts _ w3.LT) (hts _ w4.LT) hK hP hD hS src dst 0 0 (am_ws_at h0) (am_ws_at h1) rfl rfl rfl (by decide) (by decide) v1 (by simpa using v3) (by simpa using v4) (fun i _ => rfl) hR.1 (by simpa using hR.2) d (fun H1 locs1 hP1 hD1 hS1 => ?_)
          exact k9 H1 locs1 lr (by
            have e9 : ((0 : Int32).toNatClampNeg) = 0 := rfl
            rw [e9] at hP1
            rw [hset] at hP1; exact hP1) (by
            have e9 : ((0 : Int32).toNatClampNeg) = 0 := rfl
            rw [e9] at hD1
            rw [hset] at hD1; exact hD1) hS1 hl
        · cases e
      · cases e
    · cases e
  · cases e
end AMF
