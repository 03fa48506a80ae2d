abbrev M_nC_guilt : am_MD := (yX2_guilt, cX2_guilt, 1, (some .int), 0, 0)
theorem dX2_guilt_0 : decode cX2_guilt 0 = .ok (.iconst 5, 1) := by decide +kernel
theorem dX2_guilt_1 : decode cX2_guilt 1 = .ok (.ireturn, 1) := by decide +kernel
noncomputable def g_nC_guilt_12 (σ : am_St) : Option (Int32 × am_St) :=
  some ((5, σ))
noncomputable def f_nC_guilt_12 (σ : am_St) : Option (Int32 × am_St) := am_lk (g_nC_guilt_12  σ)
theorem eq_nC_guilt_12 (σ : am_St) : f_nC_guilt_12  σ = g_nC_guilt_12  σ := am_lk_eq _
set_option maxRecDepth 100000 in
set_option maxHeartbeats 4000000 in
theorem s_nC_guilt_12 (G : am_G) (σ : am_St) (r : Int32 × am_St) (Q : am_AQ) (e : f_nC_guilt_12  σ = some r) (hr : am_Pi r Q) : am_AW G M_nC_guilt 0 [(0, .ref 12)] [] σ Q :=
  (show am_Snd G M_nC_guilt 0 am_Pi _ from (sn_iconst (pc := 0) (v := 5) dX2_guilt_0 rfl (sn_reti (pc := 1) (R := fun x τ => (some ((x, τ)))) dX2_guilt_1 rfl (fun _ _ _ _ e h => by cases e; exact h)))) _ _ _ _ _ ((eq_nC_guilt_12  σ).symm.trans e) hr
noncomputable def cF_nC_guilt_12 : am_Fn := fun _ args σ K => match args with
  | [.ref q0] => match Nat.beq q0 12 with
    | true => (f_nC_guilt_12 σ).bind (fun p => K (some (.int p.1)) p.2)
    | _ => none
  | _ => none
theorem cal_nC_guilt_12 (G : am_G) : am_Cal G M_nC_guilt cF_nC_guilt_12 := by
  intro ρ args σ K r e
  unfold cF_nC_guilt_12 at e
  split at e
  · split at e
    · rename_i hq0
      obtain ⟨p, h1, h2⟩ := am_bind_some e
      rw [Nat.eq_of_beq_eq_true hq0]
      exact ⟨some (.int p.1), p.2, am_Met.of rfl (Nat.le_of_ble_eq_true rfl) (s_nC_guilt_12 G  σ p _ h1 ⟨rfl, rfl⟩), h2⟩
    · cases e
  · cases e
noncomputable def g_nC_guilt_13 (σ : am_St) : Option (Int32 × am_St) :=
  some ((5, σ))
noncomputable def f_nC_guilt_13 (σ : am_St) : Option (Int32 × am_St) := am_lk (g_nC_guilt_13  σ)
theorem eq_nC_guilt_13 (σ : am_St) : f_nC_guilt_13  σ = g_nC_guilt_13  σ := am_lk_eq _
set_option maxRecDepth 100000 in
set_option maxHeartbeats 4000000 in
theorem s_nC_guilt_13 (G : am_G) (σ : am_St) (r : Int32 × am_St) (Q : am_AQ) (e : f_nC_guilt_13  σ = some r) (hr : am_Pi r Q) : am_AW G M_nC_guilt 0 [(0, .ref 13)] [] σ Q :=
  (show am_Snd G M_nC_guilt 0 am_Pi _ from (sn_iconst (pc := 0) (v := 5) dX2_guilt_0 rfl (sn_reti (pc := 1) (R := fun x τ => (some ((x, τ)))) dX2_guilt_1 rfl (fun _ _ _ _ e h => by cases e; exact h)))) _ _ _ _ _ ((eq_nC_guilt_13  σ).symm.trans e) hr
noncomputable def cF_nC_guilt_13 : am_Fn := fun _ args σ K => match args with
  | [.ref q0] => match Nat.beq q0 13 with
    | true => (f_nC_guilt_13 σ).bind (fun p => K (some (.int p.1)) p.2)
    | _ => none
  | _ => none
theorem cal_nC_guilt_13 (G : am_G) : am_Cal G M_nC_guilt cF_nC_guilt_13 := by
  intro ρ args σ K r e
  unfold cF_nC_guilt_13 at e
  split at e
  · split at e
    · rename_i hq0
      obtain ⟨p, h1, h2⟩ := am_bind_some e
      rw [Nat.eq_of_beq_eq_true hq0]
      exact ⟨some (.int p.1), p.2, am_Met.of rfl (Nat.le_of_ble_eq_true rfl) (s_nC_guilt_13 G  σ p _ h1 ⟨rfl, rfl⟩), h2⟩
    · cases e
  · cases e
abbrev M_nS_guilt : am_MD := (yX9_guilt, cX9_guilt, 1, (some .int), 1, 20)
theorem dX9_guilt_0 : decode cX9_guilt 0 = .ok (.aload_n 0, 1) := by decide +kernel
theorem dX9_guilt_1 : decode cX9_guilt 1 = .ok (.invokespecial 7, 3) := by decide +kernel
theorem dX9_guilt_4 : decode cX9_guilt 4 = .ok (.iconst 1, 1) := by decide +kernel
theorem dX9_guilt_5 : decode cX9_guilt 5 = .ok (.iadd, 1) := by decide +kernel
theorem dX9_guilt_6 : decode cX9_guilt 6 = .ok (.ireturn, 1) := by decide +kernel
noncomputable def g_nS_guilt_13 (σ : am_St) : Option (Int32 × am_St) :=
  (f_nC_guilt_13 σ).bind (fun p1 =>
    some ((p1.1 + 1, p1.2)))
noncomputable def f_nS_guilt_13 (σ : am_St) : Option (Int32 × am_St) := am_lk (g_nS_guilt_13  σ)
theorem eq_nS_guilt_13 (σ : am_St) : f_nS_guilt_13  σ = g_nS_guilt_13  σ := am_lk_eq _
set_option maxRecDepth 100000 in
set_option maxHeartbeats 4000000 in
theorem s_nS_guilt_13 (G : am_G) (σ : am_St) (r : Int32 × am_St) (Q : am_AQ) (e : f_nS_guilt_13  σ = some r) (hr : am_Pi r Q) : am_AW G M_nS_guilt 0 [(0, .ref 13)] [] σ Q :=
  (show am_Snd G M_nS_guilt 0 am_Pi _ from (sn_aload_n (pc := 0) (i := 0) dX9_guilt_0 rfl (sn_callU (pc := 1) (N := M_nC_guilt) dX9_guilt_1 (cal_nC_guilt_13 G) sh_13 rfl tw_476 tw_463 tw_46 tw_461 tw_3 tw_478 ⟨by decide +kernel, dsc_X2_guilt.2.2⟩ rfl (sn_iconst (pc := 4) (v := 1) dX9_guilt_4 rfl (sn_iadd (pc := 5) dX9_guilt_5 (sn_reti (pc := 6) (R := fun x τ => (some ((x, τ)))) dX9_guilt_6 rfl (fun _ _ _ _ e h => by cases e; exact h))))))) _ _ _ _ _ ((eq_nS_guilt_13  σ).symm.trans e) hr
noncomputable def cF_nS_guilt_13 : am_Fn := fun _ args σ K => match args with
  | [.ref q0] => match Nat.beq q0 13 with
    | true => (f_nS_guilt_13 σ).bind (fun p => K (some (.int p.1)) p.2)
    | _ => none
  | _ => none
theorem cal_nS_guilt_13 (G : am_G) : am_Cal G M_nS_guilt cF_nS_guilt_13 := by
  intro ρ args σ K r e
  unfold cF_nS_guilt_13 at e
  split at e
  · split at e
    · rename_i hq0
      obtain ⟨p, h1, h2⟩ := am_bind_some e
      rw [Nat.eq_of_beq_eq_true hq0]
      exact ⟨some (.int p.1), p.2, am_Met.of rfl (Nat.le_of_ble_eq_true rfl) (s_nS_guilt_13 G  σ p _ h1 ⟨rfl, rfl⟩), h2⟩
    · cases e
  · cases e
noncomputable def g_nC_guilt_14 (σ : am_St) : Option (Int32 × am_St) :=
  some ((5, σ))
noncomputable def f_nC_guilt_14 (σ : am_St) : Option (Int32 × am_St) := am_lk (g_nC_guilt_14  σ)
theorem eq_nC_guilt_14 (σ : am_St) : f_nC_guilt_14  σ = g_nC_guilt_14  σ := am_lk_eq _
set_option maxRecDepth 100000 in
set_option maxHeartbeats 4000000 in
theorem s_nC_guilt_14 (G : am_G) (σ : am_St) (r : Int32 × am_St) (Q : am_AQ) (e : f_nC_guilt_14  σ = some r) (hr : am_Pi r Q) : am_AW G M_nC_guilt 0 [(0, .ref 14)] [] σ Q :=
  (show am_Snd G M_nC_guilt 0 am_Pi _ from (sn_iconst (pc := 0) (v := 5) dX2_guilt_0 rfl (sn_reti (pc := 1) (R := fun x τ => (some ((x, τ)))) dX2_guilt_1 rfl (fun _ _ _ _ e h => by cases e; exact h)))) _ _ _ _ _ ((eq_nC_guilt_14  σ).symm.trans e) hr
noncomputable def cF_nC_guilt_14 : am_Fn := fun _ args σ K => match args with
  | [.ref q0] => match Nat.beq q0 14 with
    | true => (f_nC_guilt_14 σ).bind (fun p => K (some (.int p.1)) p.2)
    | _ => none
  | _ => none
theorem cal_nC_guilt_14 (G : am_G) : am_Cal G M_nC_guilt cF_nC_guilt_14 := by
  intro ρ args σ K r e
  unfold cF_nC_guilt_14 at e
  split at e
  · split at e
    · rename_i hq0
      obtain ⟨p, h1, h2⟩ := am_bind_some e
      rw [Nat.eq_of_beq_eq_true hq0]
      exact ⟨some (.int p.1), p.2, am_Met.of rfl (Nat.le_of_ble_eq_true rfl) (s_nC_guilt_14 G  σ p _ h1 ⟨rfl, rfl⟩), h2⟩
    · cases e
  · cases e
abbrev M_nL_guilt : am_MD := (yX5_guilt, cX5_guilt, 1, (some .int), 1, 20)
theorem dX5_guilt_0 : decode cX5_guilt 0 = .ok (.aload_n 0, 1) := by decide +kernel
theorem dX5_guilt_1 : decode cX5_guilt 1 = .ok (.invokespecial 7, 3) := by decide +kernel
theorem dX5_guilt_4 : decode cX5_guilt 4 = .ok (.iconst 2, 1) := by decide +kernel
theorem dX5_guilt_5 : decode cX5_guilt 5 = .ok (.isub, 1) := by decide +kernel
theorem dX5_guilt_6 : decode cX5_guilt 6 = .ok (.ireturn, 1) := by decide +kernel
noncomputable def g_nL_guilt_14 (σ : am_St) : Option (Int32 × am_St) :=
  (f_nC_guilt_14 σ).bind (fun p1 =>
    some ((p1.1 - 2, p1.2)))
noncomputable def f_nL_guilt_14 (σ : am_St) : Option (Int32 × am_St) := am_lk (g_nL_guilt_14  σ)
theorem eq_nL_guilt_14 (σ : am_St) : f_nL_guilt_14  σ = g_nL_guilt_14  σ := am_lk_eq _
set_option maxRecDepth 100000 in
set_option maxHeartbeats 4000000 in
theorem s_nL_guilt_14 (G : am_G) (σ : am_St) (r : Int32 × am_St) (Q : am_AQ) (e : f_nL_guilt_14  σ = some r) (hr : am_Pi r Q) : am_AW G M_nL_guilt 0 [(0, .ref 14)] [] σ Q :=
  (show am_Snd G M_nL_guilt 0 am_Pi _ from (sn_aload_n (pc := 0) (i := 0) dX5_guilt_0 rfl (sn_callU (pc := 1) (N := M_nC_guilt) dX5_guilt_1 (cal_nC_guilt_14 G) sh_14 rfl tw_471 tw_463 tw_53 tw_461 tw_3 tw_478 ⟨by decide +kernel, dsc_X2_guilt.2.2⟩ rfl (sn_iconst (pc := 4) (v := 2) dX5_guilt_4 rfl (sn_isub (pc := 5) dX5_guilt_5 (sn_reti (pc := 6) (R := fun x τ => (some ((x, τ)))) dX5_guilt_6 rfl (fun _ _ _ _ e h => by cases e; exact h))))))) _ _ _ _ _ ((eq_nL_guilt_14  σ).symm.trans e) hr
noncomputable def cF_nL_guilt_14 : am_Fn := fun _ args σ K => match args with
  | [.ref q0] => match Nat.beq q0 14 with
    | true => (f_nL_guilt_14 σ).bind (fun p => K (some (.int p.1)) p.2)
    | _ => none
  | _ => none
theorem cal_nL_guilt_14 (G : am_G) : am_Cal G M_nL_guilt cF_nL_guilt_14 := by
  intro ρ args σ K r e
  unfold cF_nL_guilt_14 at e
  split at e
  · split at e
    · rename_i hq0
      obtain ⟨p, h1, h2⟩ := am_bind_some e
      rw [Nat.eq_of_beq_eq_true hq0]
      exact ⟨some (.int p.1), p.2, am_Met.of rfl (Nat.le_of_ble_eq_true rfl) (s_nL_guilt_14 G  σ p _ h1 ⟨rfl, rfl⟩), h2⟩
    · cases e
  · cases e
noncomputable def g_nC_guilt_15 (σ : am_St) : Option (Int32 × am_St) :=
  some ((5, σ))
noncomputable def f_nC_guilt_15 (σ : am_St) : Option (Int32 × am_St) := am_lk (g_nC_guilt_15  σ)
theorem eq_nC_guilt_15 (σ : am_St) : f_nC_guilt_15  σ = g_nC_guilt_15  σ := am_lk_eq _
set_option maxRecDepth 100000 in
set_option maxHeartbeats 4000000 in
theorem s_nC_guilt_15 (G : am_G) (σ : am_St) (r : Int32 × am_St) (Q : am_AQ) (e : f_nC_guilt_15  σ = some r) (hr : am_Pi r Q) : am_AW G M_nC_guilt 0 [(0, .ref 15)] [] σ Q :=
  (show am_Snd G M_nC_guilt 0 am_Pi _ from (sn_iconst (pc := 0) (v := 5) dX2_guilt_0 rfl (sn_reti (pc := 1) (R := fun x τ => (some ((x, τ)))) dX2_guilt_1 rfl (fun _ _ _ _ e h => by cases e; exact h)))) _ _ _ _ _ ((eq_nC_guilt_15  σ).symm.trans e) hr
noncomputable def cF_nC_guilt_15 : am_Fn := fun _ args σ K => match args with
  | [.ref q0] => match Nat.beq q0 15 with
    | true => (f_nC_guilt_15 σ).bind (fun p => K (some (.int p.1)) p.2)
    | _ => none
  | _ => none
theorem cal_nC_guilt_15 (G : am_G) : am_Cal G M_nC_guilt cF_nC_guilt_15 := by
  intro ρ args σ K r e
  unfold cF_nC_guilt_15 at e
  split at e
  · split at e
    · rename_i hq0
      obtain ⟨p, h1, h2⟩ := am_bind_some e
      rw [Nat.eq_of_beq_eq_true hq0]
      exact ⟨some (.int p.1), p.2, am_Met.of rfl (Nat.le_of_ble_eq_true rfl) (s_nC_guilt_15 G  σ p _ h1 ⟨rfl, rfl⟩), h2⟩
    · cases e
  · cases e
noncomputable def g_nL_guilt_15 (σ : am_St) : Option (Int32 × am_St) :=
  (f_nC_guilt_15 σ).bind (fun p1 =>
    some ((p1.1 - 2, p1.2)))
noncomputable def f_nL_guilt_15 (σ : am_St) : Option (Int32 × am_St) := am_lk (g_nL_guilt_15  σ)
theorem eq_nL_guilt_15 (σ : am_St) : f_nL_guilt_15  σ = g_nL_guilt_15  σ := am_lk_eq _
set_option maxRecDepth 100000 in
set_option maxHeartbeats 4000000 in
theorem s_nL_guilt_15 (G : am_G) (σ : am_St) (r : Int32 × am_St) (Q : am_AQ) (e : f_nL_guilt_15  σ = some r) (hr : am_Pi r Q) : am_AW G M_nL_guilt 0 [(0, .ref 15)] [] σ Q :=
  (show am_Snd G M_nL_guilt 0 am_Pi _ from (sn_aload_n (pc := 0) (i := 0) dX5_guilt_0 rfl (sn_callU (pc := 1) (N := M_nC_guilt) dX5_guilt_1 (cal_nC_guilt_15 G) sh_15 rfl tw_471 tw_463 tw_53 tw_461 tw_3 tw_478 ⟨by decide +kernel, dsc_X2_guilt.2.2⟩ rfl (sn_iconst (pc := 4) (v := 2) dX5_guilt_4 rfl (sn_isub (pc := 5) dX5_guilt_5 (sn_reti (pc := 6) (R := fun x τ => (some ((x, τ)))) dX5_guilt_6 rfl (fun _ _ _ _ e h => by cases e; exact h))))))) _ _ _ _ _ ((eq_nL_guilt_15  σ).symm.trans e) hr
noncomputable def cF_nL_guilt_15 : am_Fn := fun _ args σ K => match args with
  | [.ref q0] => match Nat.beq q0 15 with
    | true => (f_nL_guilt_15 σ).bind (fun p => K (some (.int p.1)) p.2)
    | _ => none
  | _ => none
theorem cal_nL_guilt_15 (G : am_G) : am_Cal G M_nL_guilt cF_nL_guilt_15 := by
  intro ρ args σ K r e
  unfold cF_nL_guilt_15 at e
  split at e
  · split at e
    · rename_i hq0
      obtain ⟨p, h1, h2⟩ := am_bind_some e
      rw [Nat.eq_of_beq_eq_true hq0]
      exact ⟨some (.int p.1), p.2, am_Met.of rfl (Nat.le_of_ble_eq_true rfl) (s_nL_guilt_15 G  σ p _ h1 ⟨rfl, rfl⟩), h2⟩
    · cases e
  · cases e
noncomputable def g_nC_guilt_16 (σ : am_St) : Option (Int32 × am_St) :=
  some ((5, σ))
noncomputable def f_nC_guilt_16 (σ : am_St) : Option (Int32 × am_St) := am_lk (g_nC_guilt_16  σ)
theorem eq_nC_guilt_16 (σ : am_St) : f_nC_guilt_16  σ = g_nC_guilt_16  σ := am_lk_eq _
set_option maxRecDepth 100000 in
set_option maxHeartbeats 4000000 in
theorem s_nC_guilt_16 (G : am_G) (σ : am_St) (r : Int32 × am_St) (Q : am_AQ) (e : f_nC_guilt_16  σ = some r) (hr : am_Pi r Q) : am_AW G M_nC_guilt 0 [(0, .ref 16)] [] σ Q :=
  (show am_Snd G M_nC_guilt 0 am_Pi _ from (sn_iconst (pc := 0) (v := 5) dX2_guilt_0 rfl (sn_reti (pc := 1) (R := fun x τ => (some ((x, τ)))) dX2_guilt_1 rfl (fun _ _ _ _ e h => by cases e; exact h)))) _ _ _ _ _ ((eq_nC_guilt_16  σ).symm.trans e) hr
noncomputable def cF_nC_guilt_16 : am_Fn := fun _ args σ K => match args with
  | [.ref q0] => match Nat.beq q0 16 with
    | true => (f_nC_guilt_16 σ).bind (fun p => K (some (.int p.1)) p.2)
    | _ => none
  | _ => none
theorem cal_nC_guilt_16 (G : am_G) : am_Cal G M_nC_guilt cF_nC_guilt_16 := by
  intro ρ args σ K r e
  unfold cF_nC_guilt_16 at e
  split at e
  · split at e
    · rename_i hq0
      obtain ⟨p, h1, h2⟩ := am_bind_some e
      rw [Nat.eq_of_beq_eq_true hq0]
      exact ⟨some (.int p.1), p.2, am_Met.of rfl (Nat.le_of_ble_eq_true rfl) (s_nC_guilt_16 G  σ p _ h1 ⟨rfl, rfl⟩), h2⟩
    · cases e
  · cases e
abbrev M_nD_guilt : am_MD := (yX0_guilt, cX0_guilt, 1, (some .int), 1, 20)
theorem dX0_guilt_0 : decode cX0_guilt 0 = .ok (.aload_n 0, 1) := by decide +kernel
theorem dX0_guilt_1 : decode cX0_guilt 1 = .ok (.invokespecial 7, 3) := by decide +kernel
theorem dX0_guilt_4 : decode cX0_guilt 4 = .ok (.iconst 3, 1) := by decide +kernel
theorem dX0_guilt_5 : decode cX0_guilt 5 = .ok (.iadd, 1) := by decide +kernel
theorem dX0_guilt_6 : decode cX0_guilt 6 = .ok (.ireturn, 1) := by decide +kernel
noncomputable def g_nD_guilt_16 (σ : am_St) : Option (Int32 × am_St) :=
  (f_nC_guilt_16 σ).bind (fun p1 =>
    some ((p1.1 + 3, p1.2)))
noncomputable def f_nD_guilt_16 (σ : am_St) : Option (Int32 × am_St) := am_lk (g_nD_guilt_16  σ)
theorem eq_nD_guilt_16 (σ : am_St) : f_nD_guilt_16  σ = g_nD_guilt_16  σ := am_lk_eq _
set_option maxRecDepth 100000 in
set_option maxHeartbeats 4000000 in
theorem s_nD_guilt_16 (G : am_G) (σ : am_St) (r : Int32 × am_St) (Q : am_AQ) (e : f_nD_guilt_16  σ = some r) (hr : am_Pi r Q) : am_AW G M_nD_guilt 0 [(0, .ref 16)] [] σ Q :=
  (show am_Snd G M_nD_guilt 0 am_Pi _ from (sn_aload_n (pc := 0) (i := 0) dX0_guilt_0 rfl (sn_callU (pc := 1) (N := M_nC_guilt) dX0_guilt_1 (cal_nC_guilt_16 G) sh_16 rfl tw_467 tw_463 tw_67 tw_461 tw_3 tw_478 ⟨by decide +kernel, dsc_X2_guilt.2.2⟩ rfl (sn_iconst (pc := 4) (v := 3) dX0_guilt_4 rfl (sn_iadd (pc := 5) dX0_guilt_5 (sn_reti (pc := 6) (R := fun x τ => (some ((x, τ)))) dX0_guilt_6 rfl (fun _ _ _ _ e h => by cases e; exact h))))))) _ _ _ _ _ ((eq_nD_guilt_16  σ).symm.trans e) hr
noncomputable def cF_nD_guilt_16 : am_Fn := fun _ args σ K => match args with
  | [.ref q0] => match Nat.beq q0 16 with
    | true => (f_nD_guilt_16 σ).bind (fun p => K (some (.int p.1)) p.2)
    | _ => none
  | _ => none
theorem cal_nD_guilt_16 (G : am_G) : am_Cal G M_nD_guilt cF_nD_guilt_16 := by
  intro ρ args σ K r e
  unfold cF_nD_guilt_16 at e
  split at e
  · split at e
    · rename_i hq0
      obtain ⟨p, h1, h2⟩ := am_bind_some e
      rw [Nat.eq_of_beq_eq_true hq0]
      exact ⟨some (.int p.1), p.2, am_Met.of rfl (Nat.le_of_ble_eq_true rfl) (s_nD_guilt_16 G  σ p _ h1 ⟨rfl, rfl⟩), h2⟩
    · cases e
  · cases e
noncomputable def g_nC_guilt_17 (σ : am_St) : Option (Int32 × am_St) :=
  some ((5, σ))
noncomputable def f_nC_guilt_17 (σ : am_St) : Option (Int32 × am_St) := am_lk (g_nC_guilt_17  σ)
theorem eq_nC_guilt_17 (σ : am_St) : f_nC_guilt_17  σ = g_nC_guilt_17  σ := am_lk_eq _
set_option maxRecDepth 100000 in
set_option maxHeartbeats 4000000 in
theorem s_nC_guilt_17 (G : am_G) (σ : am_St) (r : Int32 × am_St) (Q : am_AQ) (e : f_nC_guilt_17  σ = some r) (hr : am_Pi r Q) : am_AW G M_nC_guilt 0 [(0, .ref 17)] [] σ Q :=
  (show am_Snd G M_nC_guilt 0 am_Pi _ from (sn_iconst (pc := 0) (v := 5) dX2_guilt_0 rfl (sn_reti (pc := 1) (R := fun x τ => (some ((x, τ)))) dX2_guilt_1 rfl (fun _ _ _ _ e h => by cases e; exact h)))) _ _ _ _ _ ((eq_nC_guilt_17  σ).symm.trans e) hr
noncomputable def cF_nC_guilt_17 : am_Fn := fun _ args σ K => match args with
  | [.ref q0] => match Nat.beq q0 17 with
    | true => (f_nC_guilt_17 σ).bind (fun p => K (some (.int p.1)) p.2)
    | _ => none
  | _ => none
theorem cal_nC_guilt_17 (G : am_G) : am_Cal G M_nC_guilt cF_nC_guilt_17 := by
  intro ρ args σ K r e
  unfold cF_nC_guilt_17 at e
  split at e
  · split at e
    · rename_i hq0
      obtain ⟨p, h1, h2⟩ := am_bind_some e
      rw [Nat.eq_of_beq_eq_true hq0]
      exact ⟨some (.int p.1), p.2, am_Met.of rfl (Nat.le_of_ble_eq_true rfl) (s_nC_guilt_17 G  σ p _ h1 ⟨rfl, rfl⟩), h2⟩
    · cases e
  · cases e
noncomputable def g_nS_guilt_17 (σ : am_St) : Option (Int32 × am_St) :=
  (f_nC_guilt_17 σ).bind (fun p1 =>
    some ((p1.1 + 1, p1.2)))
noncomputable def f_nS_guilt_17 (σ : am_St) : Option (Int32 × am_St) := am_lk (g_nS_guilt_17  σ)
theorem eq_nS_guilt_17 (σ : am_St) : f_nS_guilt_17  σ = g_nS_guilt_17  σ := am_lk_eq _
set_option maxRecDepth 100000 in
set_option maxHeartbeats 4000000 in
theorem s_nS_guilt_17 (G : am_G) (σ : am_St) (r : Int32 × am_St) (Q : am_AQ) (e : f_nS_guilt_17  σ = some r) (hr : am_Pi r Q) : am_AW G M_nS_guilt 0 [(0, .ref 17)] [] σ Q :=
  (show am_Snd G M_nS_guilt 0 am_Pi _ from (sn_aload_n (pc := 0) (i := 0) dX9_guilt_0 rfl (sn_callU (pc := 1) (N := M_nC_guilt) dX9_guilt_1 (cal_nC_guilt_17 G) sh_17 rfl tw_476 tw_463 tw_46 tw_461 tw_3 tw_478 ⟨by decide +kernel, dsc_X2_guilt.2.2⟩ rfl (sn_iconst (pc := 4) (v := 1) dX9_guilt_4 rfl (sn_iadd (pc := 5) dX9_guilt_5 (sn_reti (pc := 6) (R := fun x τ => (some ((x, τ)))) dX9_guilt_6 rfl (fun _ _ _ _ e h => by cases e; exact h))))))) _ _ _ _ _ ((eq_nS_guilt_17  σ).symm.trans e) hr
noncomputable def cF_nS_guilt_17 : am_Fn := fun _ args σ K => match args with
  | [.ref q0] => match Nat.beq q0 17 with
    | true => (f_nS_guilt_17 σ).bind (fun p => K (some (.int p.1)) p.2)
    | _ => none
  | _ => none
theorem cal_nS_guilt_17 (G : am_G) : am_Cal G M_nS_guilt cF_nS_guilt_17 := by
  intro ρ args σ K r e
  unfold cF_nS_guilt_17 at e
  split at e
  · split at e
    · rename_i hq0
      obtain ⟨p, h1, h2⟩ := am_bind_some e
      rw [Nat.eq_of_beq_eq_true hq0]
      exact ⟨some (.int p.1), p.2, am_Met.of rfl (Nat.le_of_ble_eq_true rfl) (s_nS_guilt_17 G  σ p _ h1 ⟨rfl, rfl⟩), h2⟩
    · cases e
  · cases e
abbrev M_H_guiltOf : am_MD := (yX3_guiltOf, cX3_guiltOf, 2, (some .int), 2, 43)
theorem dX3_guiltOf_0 : decode cX3_guiltOf 0 = .ok (.aload_n 0, 1) := by decide +kernel
theorem dX3_guiltOf_1 : decode cX3_guiltOf 1 = .ok (.iload_n 1, 1) := by decide +kernel
theorem dX3_guiltOf_2 : decode cX3_guiltOf 2 = .ok (.invokevirtual 116, 3) := by decide +kernel
theorem dX3_guiltOf_5 : decode cX3_guiltOf 5 = .ok (.invokevirtual 120, 3) := by decide +kernel
theorem dX3_guiltOf_8 : decode cX3_guiltOf 8 = .ok (.ireturn, 1) := by decide +kernel
noncomputable def g_H_guiltOf_1 (x1 : Int32) (σ : am_St) : Option (Int32 × am_St) :=
  (f_H_natureOf_1 x1 σ).bind (fun p1 =>
    if p1.1 = 12 then
      (f_nC_guilt_12 p1.2).bind (fun p2 =>
        some ((p2.1, p2.2)))
    else
    if p1.1 = 13 then
      (f_nS_guilt_13 p1.2).bind (fun p3 =>
        some ((p3.1, p3.2)))
    else
    if p1.1 = 14 then
      (f_nL_guilt_14 p1.2).bind (fun p4 =>
        some ((p4.1, p4.2)))
    else
    if p1.1 = 15 then
      (f_nL_guilt_15 p1.2).bind (fun p5 =>
        some ((p5.1, p5.2)))
    else
    if p1.1 = 16 then
      (f_nD_guilt_16 p1.2).bind (fun p6 =>
        some ((p6.1, p6.2)))
    else
    if p1.1 = 17 then
      (f_nS_guilt_17 p1.2).bind (fun p7 =>
        some ((p7.1, p7.2)))
    else
      none)
noncomputable def f_H_guiltOf_1 (x1 : Int32) (σ : am_St) : Option (Int32 × am_St) := am_lk (g_H_guiltOf_1 x1 σ)
theorem eq_H_guiltOf_1 (x1 : Int32) (σ : am_St) : f_H_guiltOf_1 x1 σ = g_H_guiltOf_1 x1 σ := am_lk_eq _
set_option maxRecDepth 100000 in
set_option maxHeartbeats 4000000 in
theorem s_H_guiltOf_1 (G : am_G) (x1 : Int32) (σ : am_St) (r : Int32 × am_St) (Q : am_AQ) (e : f_H_guiltOf_1 x1 σ = some r) (hr : am_Pi r Q) : am_AW G M_H_guiltOf 0 [(0, .ref 1), (1, .int x1)] [] σ Q :=
  (show am_Snd G M_H_guiltOf 0 am_Pi _ from (sn_aload_n (pc := 0) (i := 0) dX3_guiltOf_0 rfl (sn_iload_n (pc := 1) (i := 1) dX3_guiltOf_1 rfl (sn_callV (pc := 2) (N := M_H_natureOf) dX3_guiltOf_2 (cal_H_natureOf_1 G) sh_1 rfl tw_455 tw_457 tp_15 tw_2 tw_458 dsc_X3_natureOf rfl (sn_spl (n := 0) (c0 := 12) (sn_callV (pc := 5) (N := M_nC_guilt) dX3_guiltOf_5 (cal_nC_guilt_12 G) sh_12 rfl tw_460 tw_461 tw_462 tw_3 tw_478 dsc_X2_guilt rfl (sn_reti (pc := 8) (R := fun x τ => (some ((x, τ)))) dX3_guiltOf_8 rfl (fun _ _ _ _ e h => by cases e; exact h))) (sn_spl (n := 0) (c0 := 13) (sn_callO (pc := 5) (N := M_nS_guilt) dX3_guiltOf_5 (cal_nS_guilt_13 G) sh_13 rfl tw_460 tw_463 tw_461 tw_478 tw_474 tw_477 tw_4 tw_475 dsc_X2_guilt rfl (sn_reti (pc := 8) (R := fun x τ => (some ((x, τ)))) dX3_guiltOf_8 rfl (fun _ _ _ _ e h => by cases e; exact h))) (sn_spl (n := 0) (c0 := 14) (sn_callO (pc := 5) (N := M_nL_guilt) dX3_guiltOf_5 (cal_nL_guilt_14 G) sh_14 rfl tw_460 tw_463 tw_461 tw_478 tw_469 tw_472 tw_5 tw_470 dsc_X2_guilt rfl (sn_reti (pc := 8) (R := fun x τ => (some ((x, τ)))) dX3_guiltOf_8 rfl (fun _ _ _ _ e h => by cases e; exact h))) (sn_spl (n := 0) (c0 := 15) (sn_callO (pc := 5) (N := M_nL_guilt) dX3_guiltOf_5 (cal_nL_guilt_15 G) sh_15 rfl tw_460 tw_463 tw_461 tw_478 tw_469 tw_468 tw_5 tw_470 dsc_X2_guilt rfl (sn_reti (pc := 8) (R := fun x τ => (some ((x, τ)))) dX3_guiltOf_8 rfl (fun _ _ _ _ e h => by cases e; exact h))) (sn_spl (n := 0) (c0 := 16) (sn_callO (pc := 5) (N := M_nD_guilt) dX3_guiltOf_5 (cal_nD_guilt_16 G) sh_16 rfl tw_460 tw_463 tw_461 tw_478 tw_465 tw_464 tw_7 tw_466 dsc_X2_guilt rfl (sn_reti (pc := 8) (R := fun x τ => (some ((x, τ)))) dX3_guiltOf_8 rfl (fun _ _ _ _ e h => by cases e; exact h))) (sn_spl (n := 0) (c0 := 17) (sn_callO (pc := 5) (N := M_nS_guilt) dX3_guiltOf_5 (cal_nS_guilt_17 G) sh_17 rfl tw_460 tw_463 tw_461 tw_478 tw_474 tw_473 tw_4 tw_475 dsc_X2_guilt rfl (sn_reti (pc := 8) (R := fun x τ => (some ((x, τ)))) dX3_guiltOf_8 rfl (fun _ _ _ _ e h => by cases e; exact h))) sn_no)))))))))) _ _ _ _ _ ((eq_H_guiltOf_1 x1 σ).symm.trans e) hr
noncomputable def cF_H_guiltOf_1 : am_Fn := fun _ args σ K => match args with
  | [.ref q0, .int z1] => match Nat.beq q0 1 with
    | true => (f_H_guiltOf_1 z1 σ).bind (fun p => K (some (.int p.1)) p.2)
    | _ => none
  | _ => none
theorem cal_H_guiltOf_1 (G : am_G) : am_Cal G M_H_guiltOf cF_H_guiltOf_1 := by
  intro ρ args σ K r e
  unfold cF_H_guiltOf_1 at e
  split at e
  · split at e
    · rename_i hq0
      obtain ⟨p, h1, h2⟩ := am_bind_some e
      rw [Nat.eq_of_beq_eq_true hq0]
      exact ⟨some (.int p.1), p.2, am_Met.of rfl (Nat.le_of_ble_eq_true rfl) (s_H_guiltOf_1 G _ σ p _ h1 ⟨rfl, rfl⟩), h2⟩
    · cases e
  · cases e
abbrev M_nC_slipsBy : am_MD := (yX2_slipsBy, cX2_slipsBy, 2, (some .int), 0, 0)
theorem dX2_slipsBy_0 : decode cX2_slipsBy 0 = .ok (.iconst 2, 1) := by decide +kernel
theorem dX2_slipsBy_1 : decode cX2_slipsBy 1 = .ok (.ireturn, 1) := by decide +kernel
noncomputable def g_nC_slipsBy_12 (x1 : Int32) (σ : am_St) : Option (Int32 × am_St) :=
  some ((2, σ))
noncomputable def f_nC_slipsBy_12 (x1 : Int32) (σ : am_St) : Option (Int32 × am_St) := am_lk (g_nC_slipsBy_12 x1 σ)
theorem eq_nC_slipsBy_12 (x1 : Int32) (σ : am_St) : f_nC_slipsBy_12 x1 σ = g_nC_slipsBy_12 x1 σ := am_lk_eq _
set_option maxRecDepth 100000 in
set_option maxHeartbeats 4000000 in
theorem s_nC_slipsBy_12 (G : am_G) (x1 : Int32) (σ : am_St) (r : Int32 × am_St) (Q : am_AQ) (e : f_nC_slipsBy_12 x1 σ = some r) (hr : am_Pi r Q) : am_AW G M_nC_slipsBy 0 [(0, .ref 12), (1, .int x1)] [] σ Q :=
  (show am_Snd G M_nC_slipsBy 0 am_Pi _ from (sn_iconst (pc := 0) (v := 2) dX2_slipsBy_0 rfl (sn_reti (pc := 1) (R := fun x τ => (some ((x, τ)))) dX2_slipsBy_1 rfl (fun _ _ _ _ e h => by cases e; exact h)))) _ _ _ _ _ ((eq_nC_slipsBy_12 x1 σ).symm.trans e) hr
noncomputable def cF_nC_slipsBy_12 : am_Fn := fun _ args σ K => match args with
  | [.ref q0, .int z1] => match Nat.beq q0 12 with
    | true => (f_nC_slipsBy_12 z1 σ).bind (fun p => K (some (.int p.1)) p.2)
    | _ => none
  | _ => none
theorem cal_nC_slipsBy_12 (G : am_G) : am_Cal G M_nC_slipsBy cF_nC_slipsBy_12 := by
  intro ρ args σ K r e
  unfold cF_nC_slipsBy_12 at e
  split at e
  · split at e
    · rename_i hq0
      obtain ⟨p, h1, h2⟩ := am_bind_some e
      rw [Nat.eq_of_beq_eq_true hq0]
      exact ⟨some (.int p.1), p.2, am_Met.of rfl (Nat.le_of_ble_eq_true rfl) (s_nC_slipsBy_12 G _ σ p _ h1 ⟨rfl, rfl⟩), h2⟩
    · cases e
  · cases e
noncomputable def g_nC_slipsBy_13 (x1 : Int32) (σ : am_St) : Option (Int32 × am_St) :=
  some ((2, σ))
noncomputable def f_nC_slipsBy_13 (x1 : Int32) (σ : am_St) : Option (Int32 × am_St) := am_lk (g_nC_slipsBy_13 x1 σ)
theorem eq_nC_slipsBy_13 (x1 : Int32) (σ : am_St) : f_nC_slipsBy_13 x1 σ = g_nC_slipsBy_13 x1 σ := am_lk_eq _
set_option maxRecDepth 100000 in
set_option maxHeartbeats 4000000 in
theorem s_nC_slipsBy_13 (G : am_G) (x1 : Int32) (σ : am_St) (r : Int32 × am_St) (Q : am_AQ) (e : f_nC_slipsBy_13 x1 σ = some r) (hr : am_Pi r Q) : am_AW G M_nC_slipsBy 0 [(0, .ref 13), (1, .int x1)] [] σ Q :=
  (show am_Snd G M_nC_slipsBy 0 am_Pi _ from (sn_iconst (pc := 0) (v := 2) dX2_slipsBy_0 rfl (sn_reti (pc := 1) (R := fun x τ => (some ((x, τ)))) dX2_slipsBy_1 rfl (fun _ _ _ _ e h => by cases e; exact h)))) _ _ _ _ _ ((eq_nC_slipsBy_13 x1 σ).symm.trans e) hr
noncomputable def cF_nC_slipsBy_13 : am_Fn := fun _ args σ K => match args with
  | [.ref q0, .int z1] => match Nat.beq q0 13 with
    | true => (f_nC_slipsBy_13 z1 σ).bind (fun p => K (some (.int p.1)) p.2)
    | _ => none
  | _ => none
theorem cal_nC_slipsBy_13 (G : am_G) : am_Cal G M_nC_slipsBy cF_nC_slipsBy_13 := by
  intro ρ args σ K r e
  unfold cF_nC_slipsBy_13 at e
  split at e
  · split at e
    · rename_i hq0
      obtain ⟨p, h1, h2⟩ := am_bind_some e
      rw [Nat.eq_of_beq_eq_true hq0]
      exact ⟨some (.int p.1), p.2, am_Met.of rfl (Nat.le_of_ble_eq_true rfl) (s_nC_slipsBy_13 G _ σ p _ h1 ⟨rfl, rfl⟩), h2⟩
    · cases e
  · cases e
abbrev M_nS_slipsBy : am_MD := (yX9_slipsBy, cX9_slipsBy, 2, (some .int), 1, 21)
theorem dX9_slipsBy_0 : decode cX9_slipsBy 0 = .ok (.aload_n 0, 1) := by decide +kernel
theorem dX9_slipsBy_1 : decode cX9_slipsBy 1 = .ok (.iload_n 1, 1) := by decide +kernel
theorem dX9_slipsBy_2 : decode cX9_slipsBy 2 = .ok (.invokespecial 11, 3) := by decide +kernel
theorem dX9_slipsBy_5 : decode cX9_slipsBy 5 = .ok (.iconst 4, 1) := by decide +kernel
theorem dX9_slipsBy_6 : decode cX9_slipsBy 6 = .ok (.iadd, 1) := by decide +kernel
theorem dX9_slipsBy_7 : decode cX9_slipsBy 7 = .ok (.ireturn, 1) := by decide +kernel
noncomputable def g_nS_slipsBy_13 (x1 : Int32) (σ : am_St) : Option (Int32 × am_St) :=
  (f_nC_slipsBy_13 x1 σ).bind (fun p1 =>
    some ((p1.1 + 4, p1.2)))
noncomputable def f_nS_slipsBy_13 (x1 : Int32) (σ : am_St) : Option (Int32 × am_St) := am_lk (g_nS_slipsBy_13 x1 σ)
theorem eq_nS_slipsBy_13 (x1 : Int32) (σ : am_St) : f_nS_slipsBy_13 x1 σ = g_nS_slipsBy_13 x1 σ := am_lk_eq _
set_option maxRecDepth 100000 in
set_option maxHeartbeats 4000000 in
theorem s_nS_slipsBy_13 (G : am_G) (x1 : Int32) (σ : am_St) (r : Int32 × am_St) (Q : am_AQ) (e : f_nS_slipsBy_13 x1 σ = some r) (hr : am_Pi r Q) : am_AW G M_nS_slipsBy 0 [(0, .ref 13), (1, .int x1)] [] σ Q :=
  (show am_Snd G M_nS_slipsBy 0 am_Pi _ from (sn_aload_n (pc := 0) (i := 0) dX9_slipsBy_0 rfl (sn_iload_n (pc := 1) (i := 1) dX9_slipsBy_1 rfl (sn_callU (pc := 2) (N := M_nC_slipsBy) dX9_slipsBy_2 (cal_nC_slipsBy_13 G) sh_13 rfl tw_506 tw_487 tw_46 tw_485 tw_3 tw_508 ⟨by decide +kernel, dsc_X2_slipsBy.2.2⟩ rfl (sn_iconst (pc := 5) (v := 4) dX9_slipsBy_5 rfl (sn_iadd (pc := 6) dX9_slipsBy_6 (sn_reti (pc := 7) (R := fun x τ => (some ((x, τ)))) dX9_slipsBy_7 rfl (fun _ _ _ _ e h => by cases e; exact h)))))))) _ _ _ _ _ ((eq_nS_slipsBy_13 x1 σ).symm.trans e) hr
noncomputable def cF_nS_slipsBy_13 : am_Fn := fun _ args σ K => match args with
  | [.ref q0, .int z1] => match Nat.beq q0 13 with
    | true => (f_nS_slipsBy_13 z1 σ).bind (fun p => K (some (.int p.1)) p.2)
    | _ => none
  | _ => none
theorem cal_nS_slipsBy_13 (G : am_G) : am_Cal G M_nS_slipsBy cF_nS_slipsBy_13 := by
  intro ρ args σ K r e
  unfold cF_nS_slipsBy_13 at e
  split at e
  · split at e
    · rename_i hq0
      obtain ⟨p, h1, h2⟩ := am_bind_some e
      rw [Nat.eq_of_beq_eq_true hq0]
      exact ⟨some (.int p.1), p.2, am_Met.of rfl (Nat.le_of_ble_eq_true rfl) (s_nS_slipsBy_13 G _ σ p _ h1 ⟨rfl, rfl⟩), h2⟩
    · cases e
  · cases e
noncomputable def g_nC_slipsBy_14 (x1 : Int32) (σ : am_St) : Option (Int32 × am_St) :=
  some ((2, σ))
noncomputable def f_nC_slipsBy_14 (x1 : Int32) (σ : am_St) : Option (Int32 × am_St) := am_lk (g_nC_slipsBy_14 x1 σ)
theorem eq_nC_slipsBy_14 (x1 : Int32) (σ : am_St) : f_nC_slipsBy_14 x1 σ = g_nC_slipsBy_14 x1 σ := am_lk_eq _
set_option maxRecDepth 100000 in
set_option maxHeartbeats 4000000 in
theorem s_nC_slipsBy_14 (G : am_G) (x1 : Int32) (σ : am_St) (r : Int32 × am_St) (Q : am_AQ) (e : f_nC_slipsBy_14 x1 σ = some r) (hr : am_Pi r Q) : am_AW G M_nC_slipsBy 0 [(0, .ref 14), (1, .int x1)] [] σ Q :=
  (show am_Snd G M_nC_slipsBy 0 am_Pi _ from (sn_iconst (pc := 0) (v := 2) dX2_slipsBy_0 rfl (sn_reti (pc := 1) (R := fun x τ => (some ((x, τ)))) dX2_slipsBy_1 rfl (fun _ _ _ _ e h => by cases e; exact h)))) _ _ _ _ _ ((eq_nC_slipsBy_14 x1 σ).symm.trans e) hr
noncomputable def cF_nC_slipsBy_14 : am_Fn := fun _ args σ K => match args with
  | [.ref q0, .int z1] => match Nat.beq q0 14 with
    | true => (f_nC_slipsBy_14 z1 σ).bind (fun p => K (some (.int p.1)) p.2)
    | _ => none
  | _ => none
theorem cal_nC_slipsBy_14 (G : am_G) : am_Cal G M_nC_slipsBy cF_nC_slipsBy_14 := by
  intro ρ args σ K r e
  unfold cF_nC_slipsBy_14 at e
  split at e
  · split at e
    · rename_i hq0
      obtain ⟨p, h1, h2⟩ := am_bind_some e
      rw [Nat.eq_of_beq_eq_true hq0]
      exact ⟨some (.int p.1), p.2, am_Met.of rfl (Nat.le_of_ble_eq_true rfl) (s_nC_slipsBy_14 G _ σ p _ h1 ⟨rfl, rfl⟩), h2⟩
    · cases e
  · cases e
abbrev M_nL_slipsBy : am_MD := (yX5_slipsBy, cX5_slipsBy, 2, (some .int), 1, 21)
theorem dX5_slipsBy_0 : decode cX5_slipsBy 0 = .ok (.aload_n 0, 1) := by decide +kernel
theorem dX5_slipsBy_1 : decode cX5_slipsBy 1 = .ok (.iload_n 1, 1) := by decide +kernel
theorem dX5_slipsBy_2 : decode cX5_slipsBy 2 = .ok (.invokespecial 11, 3) := by decide +kernel
theorem dX5_slipsBy_5 : decode cX5_slipsBy 5 = .ok (.iconst 1, 1) := by decide +kernel
theorem dX5_slipsBy_6 : decode cX5_slipsBy 6 = .ok (.isub, 1) := by decide +kernel
theorem dX5_slipsBy_7 : decode cX5_slipsBy 7 = .ok (.ireturn, 1) := by decide +kernel
noncomputable def g_nL_slipsBy_14 (x1 : Int32) (σ : am_St) : Option (Int32 × am_St) :=
  (f_nC_slipsBy_14 x1 σ).bind (fun p1 =>
    some ((p1.1 - 1, p1.2)))
noncomputable def f_nL_slipsBy_14 (x1 : Int32) (σ : am_St) : Option (Int32 × am_St) := am_lk (g_nL_slipsBy_14 x1 σ)
theorem eq_nL_slipsBy_14 (x1 : Int32) (σ : am_St) : f_nL_slipsBy_14 x1 σ = g_nL_slipsBy_14 x1 σ := am_lk_eq _
set_option maxRecDepth 100000 in
set_option maxHeartbeats 4000000 in
theorem s_nL_slipsBy_14 (G : am_G) (x1 : Int32) (σ : am_St) (r : Int32 × am_St) (Q : am_AQ) (e : f_nL_slipsBy_14 x1 σ = some r) (hr : am_Pi r Q) : am_AW G M_nL_slipsBy 0 [(0, .ref 14), (1, .int x1)] [] σ Q :=
  (show am_Snd G M_nL_slipsBy 0 am_Pi _ from (sn_aload_n (pc := 0) (i := 0) dX5_slipsBy_0 rfl (sn_iload_n (pc := 1) (i := 1) dX5_slipsBy_1 rfl (sn_callU (pc := 2) (N := M_nC_slipsBy) dX5_slipsBy_2 (cal_nC_slipsBy_14 G) sh_14 rfl tw_498 tw_487 tw_53 tw_485 tw_3 tw_508 ⟨by decide +kernel, dsc_X2_slipsBy.2.2⟩ rfl (sn_iconst (pc := 5) (v := 1) dX5_slipsBy_5 rfl (sn_isub (pc := 6) dX5_slipsBy_6 (sn_reti (pc := 7) (R := fun x τ => (some ((x, τ)))) dX5_slipsBy_7 rfl (fun _ _ _ _ e h => by cases e; exact h)))))))) _ _ _ _ _ ((eq_nL_slipsBy_14 x1 σ).symm.trans e) hr
noncomputable def cF_nL_slipsBy_14 : am_Fn := fun _ args σ K => match args with
  | [.ref q0, .int z1] => match Nat.beq q0 14 with
    | true => (f_nL_slipsBy_14 z1 σ).bind (fun p => K (some (.int p.1)) p.2)
    | _ => none
  | _ => none
theorem cal_nL_slipsBy_14 (G : am_G) : am_Cal G M_nL_slipsBy cF_nL_slipsBy_14 := by
  intro ρ args σ K r e
  unfold cF_nL_slipsBy_14 at e
  split at e
  · split at e
    · rename_i hq0
      obtain ⟨p, h1, h2⟩ := am_bind_some e
      rw [Nat.eq_of_beq_eq_true hq0]
      exact ⟨some (.int p.1), p.2, am_Met.of rfl (Nat.le_of_ble_eq_true rfl) (s_nL_slipsBy_14 G _ σ p _ h1 ⟨rfl, rfl⟩), h2⟩
    · cases e
  · cases e
noncomputable def g_nC_slipsBy_15 (x1 : Int32) (σ : am_St) : Option (Int32 × am_St) :=
  some ((2, σ))
noncomputable def f_nC_slipsBy_15 (x1 : Int32) (σ : am_St) : Option (Int32 × am_St) := am_lk (g_nC_slipsBy_15 x1 σ)
theorem eq_nC_slipsBy_15 (x1 : Int32) (σ : am_St) : f_nC_slipsBy_15 x1 σ = g_nC_slipsBy_15 x1 σ := am_lk_eq _
set_option maxRecDepth 100000 in
set_option maxHeartbeats 4000000 in
theorem s_nC_slipsBy_15 (G : am_G) (x1 : Int32) (σ : am_St) (r : Int32 × am_St) (Q : am_AQ) (e : f_nC_slipsBy_15 x1 σ = some r) (hr : am_Pi r Q) : am_AW G M_nC_slipsBy 0 [(0, .ref 15), (1, .int x1)] [] σ Q :=
  (show am_Snd G M_nC_slipsBy 0 am_Pi _ from (sn_iconst (pc := 0) (v := 2) dX2_slipsBy_0 rfl (sn_reti (pc := 1) (R := fun x τ => (some ((x, τ)))) dX2_slipsBy_1 rfl (fun _ _ _ _ e h => by cases e; exact h)))) _ _ _ _ _ ((eq_nC_slipsBy_15 x1 σ).symm.trans e) hr
noncomputable def cF_nC_slipsBy_15 : am_Fn := fun _ args σ K => match args with
  | [.ref q0, .int z1] => match Nat.beq q0 15 with
    | true => (f_nC_slipsBy_15 z1 σ).bind (fun p => K (some (.int p.1)) p.2)
    | _ => none
  | _ => none
theorem cal_nC_slipsBy_15 (G : am_G) : am_Cal G M_nC_slipsBy cF_nC_slipsBy_15 := by
  intro ρ args σ K r e
  unfold cF_nC_slipsBy_15 at e
  split at e
  · split at e
    · rename_i hq0
      obtain ⟨p, h1, h2⟩ := am_bind_some e
      rw [Nat.eq_of_beq_eq_true hq0]
      exact ⟨some (.int p.1), p.2, am_Met.of rfl (Nat.le_of_ble_eq_true rfl) (s_nC_slipsBy_15 G _ σ p _ h1 ⟨rfl, rfl⟩), h2⟩
    · cases e
  · cases e
noncomputable def g_nL_slipsBy_15 (x1 : Int32) (σ : am_St) : Option (Int32 × am_St) :=
  (f_nC_slipsBy_15 x1 σ).bind (fun p1 =>
    some ((p1.1 - 1, p1.2)))
noncomputable def f_nL_slipsBy_15 (x1 : Int32) (σ : am_St) : Option (Int32 × am_St) := am_lk (g_nL_slipsBy_15 x1 σ)
theorem eq_nL_slipsBy_15 (x1 : Int32) (σ : am_St) : f_nL_slipsBy_15 x1 σ = g_nL_slipsBy_15 x1 σ := am_lk_eq _
set_option maxRecDepth 100000 in
set_option maxHeartbeats 4000000 in
theorem s_nL_slipsBy_15 (G : am_G) (x1 : Int32) (σ : am_St) (r : Int32 × am_St) (Q : am_AQ) (e : f_nL_slipsBy_15 x1 σ = some r) (hr : am_Pi r Q) : am_AW G M_nL_slipsBy 0 [(0, .ref 15), (1, .int x1)] [] σ Q :=
  (show am_Snd G M_nL_slipsBy 0 am_Pi _ from (sn_aload_n (pc := 0) (i := 0) dX5_slipsBy_0 rfl (sn_iload_n (pc := 1) (i := 1) dX5_slipsBy_1 rfl (sn_callU (pc := 2) (N := M_nC_slipsBy) dX5_slipsBy_2 (cal_nC_slipsBy_15 G) sh_15 rfl tw_498 tw_487 tw_53 tw_485 tw_3 tw_508 ⟨by decide +kernel, dsc_X2_slipsBy.2.2⟩ rfl (sn_iconst (pc := 5) (v := 1) dX5_slipsBy_5 rfl (sn_isub (pc := 6) dX5_slipsBy_6 (sn_reti (pc := 7) (R := fun x τ => (some ((x, τ)))) dX5_slipsBy_7 rfl (fun _ _ _ _ e h => by cases e; exact h)))))))) _ _ _ _ _ ((eq_nL_slipsBy_15 x1 σ).symm.trans e) hr
noncomputable def cF_nL_slipsBy_15 : am_Fn := fun _ args σ K => match args with
  | [.ref q0, .int z1] => match Nat.beq q0 15 with
    | true => (f_nL_slipsBy_15 z1 σ).bind (fun p => K (some (.int p.1)) p.2)
    | _ => none
  | _ => none
theorem cal_nL_slipsBy_15 (G : am_G) : am_Cal G M_nL_slipsBy cF_nL_slipsBy_15 := by
  intro ρ args σ K r e
  unfold cF_nL_slipsBy_15 at e
  split at e
  · split at e
    · rename_i hq0
      obtain ⟨p, h1, h2⟩ := am_bind_some e
      rw [Nat.eq_of_beq_eq_true hq0]
      exact ⟨some (.int p.1), p.2, am_Met.of rfl (Nat.le_of_ble_eq_true rfl) (s_nL_slipsBy_15 G _ σ p _ h1 ⟨rfl, rfl⟩), h2⟩
    · cases e
  · cases e
abbrev M_nB_slipsBy : am_MD := (yX1_slipsBy, cX1_slipsBy, 2, (some .int), 2, 42)
theorem dX1_slipsBy_0 : decode cX1_slipsBy 0 = .ok (.aload_n 0, 1) := by decide +kernel
theorem dX1_slipsBy_1 : decode cX1_slipsBy 1 = .ok (.iload_n 1, 1) := by decide +kernel
theorem dX1_slipsBy_2 : decode cX1_slipsBy 2 = .ok (.invokespecial 7, 3) := by decide +kernel
theorem dX1_slipsBy_5 : decode cX1_slipsBy 5 = .ok (.iload_n 1, 1) := by decide +kernel
theorem dX1_slipsBy_6 : decode cX1_slipsBy 6 = .ok (.iconst 2, 1) := by decide +kernel
theorem dX1_slipsBy_7 : decode cX1_slipsBy 7 = .ok (.idiv, 1) := by decide +kernel
theorem dX1_slipsBy_8 : decode cX1_slipsBy 8 = .ok (.iadd, 1) := by decide +kernel
theorem dX1_slipsBy_9 : decode cX1_slipsBy 9 = .ok (.ireturn, 1) := by decide +kernel
noncomputable def g_nB_slipsBy_15 (x1 : Int32) (σ : am_St) : Option (Int32 × am_St) :=
  (f_nL_slipsBy_15 x1 σ).bind (fun p1 =>
    some ((p1.1 + (x1 / 2), p1.2)))
noncomputable def f_nB_slipsBy_15 (x1 : Int32) (σ : am_St) : Option (Int32 × am_St) := am_lk (g_nB_slipsBy_15 x1 σ)
theorem eq_nB_slipsBy_15 (x1 : Int32) (σ : am_St) : f_nB_slipsBy_15 x1 σ = g_nB_slipsBy_15 x1 σ := am_lk_eq _
set_option maxRecDepth 100000 in
set_option maxHeartbeats 4000000 in
theorem s_nB_slipsBy_15 (G : am_G) (x1 : Int32) (σ : am_St) (r : Int32 × am_St) (Q : am_AQ) (e : f_nB_slipsBy_15 x1 σ = some r) (hr : am_Pi r Q) : am_AW G M_nB_slipsBy 0 [(0, .ref 15), (1, .int x1)] [] σ Q :=
  (show am_Snd G M_nB_slipsBy 0 am_Pi _ from (sn_aload_n (pc := 0) (i := 0) dX1_slipsBy_0 rfl (sn_iload_n (pc := 1) (i := 1) dX1_slipsBy_1 rfl (sn_callU (pc := 2) (N := M_nL_slipsBy) dX1_slipsBy_2 (cal_nL_slipsBy_15 G) sh_15 rfl tw_495 tw_1465 tw_60 tw_496 tw_5 tw_497 ⟨by decide +kernel, dsc_X5_slipsBy.2.2⟩ rfl (sn_iload_n (pc := 5) (i := 1) dX1_slipsBy_5 rfl (sn_iconst (pc := 6) (v := 2) dX1_slipsBy_6 rfl (sn_idiv (pc := 7) dX1_slipsBy_7 (sn_iadd (pc := 8) dX1_slipsBy_8 (sn_reti (pc := 9) (R := fun x τ => (some ((x, τ)))) dX1_slipsBy_9 rfl (fun _ _ _ _ e h => by cases e; exact h)))))))))) _ _ _ _ _ ((eq_nB_slipsBy_15 x1 σ).symm.trans e) hr
noncomputable def cF_nB_slipsBy_15 : am_Fn := fun _ args σ K => match args with
  | [.ref q0, .int z1] => match Nat.beq q0 15 with
    | true => (f_nB_slipsBy_15 z1 σ).bind (fun p => K (some (.int p.1)) p.2)
    | _ => none
  | _ => none
theorem cal_nB_slipsBy_15 (G : am_G) : am_Cal G M_nB_slipsBy cF_nB_slipsBy_15 := by
  intro ρ args σ K r e
  unfold cF_nB_slipsBy_15 at e
  split at e
  · split at e
    · rename_i hq0
      obtain ⟨p, h1, h2⟩ := am_bind_some e
      rw [Nat.eq_of_beq_eq_true hq0]
      exact ⟨some (.int p.1), p.2, am_Met.of rfl (Nat.le_of_ble_eq_true rfl) (s_nB_slipsBy_15 G _ σ p _ h1 ⟨rfl, rfl⟩), h2⟩
    · cases e
  · cases e
noncomputable def g_nC_slipsBy_16 (x1 : Int32) (σ : am_St) : Option (Int32 × am_St) :=
  some ((2, σ))
noncomputable def f_nC_slipsBy_16 (x1 : Int32) (σ : am_St) : Option (Int32 × am_St) := am_lk (g_nC_slipsBy_16 x1 σ)
theorem eq_nC_slipsBy_16 (x1 : Int32) (σ : am_St) : f_nC_slipsBy_16 x1 σ = g_nC_slipsBy_16 x1 σ := am_lk_eq _
set_option maxRecDepth 100000 in
set_option maxHeartbeats 4000000 in
theorem s_nC_slipsBy_16 (G : am_G) (x1 : Int32) (σ : am_St) (r : Int32 × am_St) (Q : am_AQ) (e : f_nC_slipsBy_16 x1 σ = some r) (hr : am_Pi r Q) : am_AW G M_nC_slipsBy 0 [(0, .ref 16), (1, .int x1)] [] σ Q :=
  (show am_Snd G M_nC_slipsBy 0 am_Pi _ from (sn_iconst (pc := 0) (v := 2) dX2_slipsBy_0 rfl (sn_reti (pc := 1) (R := fun x τ => (some ((x, τ)))) dX2_slipsBy_1 rfl (fun _ _ _ _ e h => by cases e; exact h)))) _ _ _ _ _ ((eq_nC_slipsBy_16 x1 σ).symm.trans e) hr
noncomputable def cF_nC_slipsBy_16 : am_Fn := fun _ args σ K => match args with
  | [.ref q0, .int z1] => match Nat.beq q0 16 with
    | true => (f_nC_slipsBy_16 z1 σ).bind (fun p => K (some (.int p.1)) p.2)
    | _ => none
  | _ => none
theorem cal_nC_slipsBy_16 (G : am_G) : am_Cal G M_nC_slipsBy cF_nC_slipsBy_16 := by
  intro ρ args σ K r e
  unfold cF_nC_slipsBy_16 at e
  split at e
  · split at e
    · rename_i hq0
      obtain ⟨p, h1, h2⟩ := am_bind_some e
      rw [Nat.eq_of_beq_eq_true hq0]
      exact ⟨some (.int p.1), p.2, am_Met.of rfl (Nat.le_of_ble_eq_true rfl) (s_nC_slipsBy_16 G _ σ p _ h1 ⟨rfl, rfl⟩), h2⟩
    · cases e
  · cases e
abbrev M_nD_slipsBy : am_MD := (yX0_slipsBy, cX0_slipsBy, 2, (some .int), 1, 21)
theorem dX0_slipsBy_0 : decode cX0_slipsBy 0 = .ok (.aload_n 0, 1) := by decide +kernel
theorem dX0_slipsBy_1 : decode cX0_slipsBy 1 = .ok (.iload_n 1, 1) := by decide +kernel
theorem dX0_slipsBy_2 : decode cX0_slipsBy 2 = .ok (.invokespecial 11, 3) := by decide +kernel
theorem dX0_slipsBy_5 : decode cX0_slipsBy 5 = .ok (.iconst 1, 1) := by decide +kernel
theorem dX0_slipsBy_6 : decode cX0_slipsBy 6 = .ok (.iadd, 1) := by decide +kernel
theorem dX0_slipsBy_7 : decode cX0_slipsBy 7 = .ok (.ireturn, 1) := by decide +kernel
noncomputable def g_nD_slipsBy_16 (x1 : Int32) (σ : am_St) : Option (Int32 × am_St) :=
  (f_nC_slipsBy_16 x1 σ).bind (fun p1 =>
    some ((p1.1 + 1, p1.2)))
noncomputable def f_nD_slipsBy_16 (x1 : Int32) (σ : am_St) : Option (Int32 × am_St) := am_lk (g_nD_slipsBy_16 x1 σ)
theorem eq_nD_slipsBy_16 (x1 : Int32) (σ : am_St) : f_nD_slipsBy_16 x1 σ = g_nD_slipsBy_16 x1 σ := am_lk_eq _
set_option maxRecDepth 100000 in
set_option maxHeartbeats 4000000 in
theorem s_nD_slipsBy_16 (G : am_G) (x1 : Int32) (σ : am_St) (r : Int32 × am_St) (Q : am_AQ) (e : f_nD_slipsBy_16 x1 σ = some r) (hr : am_Pi r Q) : am_AW G M_nD_slipsBy 0 [(0, .ref 16), (1, .int x1)] [] σ Q :=
  (show am_Snd G M_nD_slipsBy 0 am_Pi _ from (sn_aload_n (pc := 0) (i := 0) dX0_slipsBy_0 rfl (sn_iload_n (pc := 1) (i := 1) dX0_slipsBy_1 rfl (sn_callU (pc := 2) (N := M_nC_slipsBy) dX0_slipsBy_2 (cal_nC_slipsBy_16 G) sh_16 rfl tw_491 tw_487 tw_67 tw_485 tw_3 tw_508 ⟨by decide +kernel, dsc_X2_slipsBy.2.2⟩ rfl (sn_iconst (pc := 5) (v := 1) dX0_slipsBy_5 rfl (sn_iadd (pc := 6) dX0_slipsBy_6 (sn_reti (pc := 7) (R := fun x τ => (some ((x, τ)))) dX0_slipsBy_7 rfl (fun _ _ _ _ e h => by cases e; exact h)))))))) _ _ _ _ _ ((eq_nD_slipsBy_16 x1 σ).symm.trans e) hr
noncomputable def cF_nD_slipsBy_16 : am_Fn := fun _ args σ K => match args with
  | [.ref q0, .int z1] => match Nat.beq q0 16 with
    | true => (f_nD_slipsBy_16 z1 σ).bind (fun p => K (some (.int p.1)) p.2)
    | _ => none
  | _ => none
theorem cal_nD_slipsBy_16 (G : am_G) : am_Cal G M_nD_slipsBy cF_nD_slipsBy_16 := by
  intro ρ args σ K r e
  unfold cF_nD_slipsBy_16 at e
  split at e
  · split at e
    · rename_i hq0
      obtain ⟨p, h1, h2⟩ := am_bind_some e
      rw [Nat.eq_of_beq_eq_true hq0]
      exact ⟨some (.int p.1), p.2, am_Met.of rfl (Nat.le_of_ble_eq_true rfl) (s_nD_slipsBy_16 G _ σ p _ h1 ⟨rfl, rfl⟩), h2⟩
    · cases e
  · cases e
noncomputable def g_nC_slipsBy_17 (x1 : Int32) (σ : am_St) : Option (Int32 × am_St) :=
  some ((2, σ))
noncomputable def f_nC_slipsBy_17 (x1 : Int32) (σ : am_St) : Option (Int32 × am_St) := am_lk (g_nC_slipsBy_17 x1 σ)
theorem eq_nC_slipsBy_17 (x1 : Int32) (σ : am_St) : f_nC_slipsBy_17 x1 σ = g_nC_slipsBy_17 x1 σ := am_lk_eq _
set_option maxRecDepth 100000 in
set_option maxHeartbeats 4000000 in
theorem s_nC_slipsBy_17 (G : am_G) (x1 : Int32) (σ : am_St) (r : Int32 × am_St) (Q : am_AQ) (e : f_nC_slipsBy_17 x1 σ = some r) (hr : am_Pi r Q) : am_AW G M_nC_slipsBy 0 [(0, .ref 17), (1, .int x1)] [] σ Q :=
  (show am_Snd G M_nC_slipsBy 0 am_Pi _ from (sn_iconst (pc := 0) (v := 2) dX2_slipsBy_0 rfl (sn_reti (pc := 1) (R := fun x τ => (some ((x, τ)))) dX2_slipsBy_1 rfl (fun _ _ _ _ e h => by cases e; exact h)))) _ _ _ _ _ ((eq_nC_slipsBy_17 x1 σ).symm.trans e) hr
noncomputable def cF_nC_slipsBy_17 : am_Fn := fun _ args σ K => match args with
  | [.ref q0, .int z1] => match Nat.beq q0 17 with
    | true => (f_nC_slipsBy_17 z1 σ).bind (fun p => K (some (.int p.1)) p.2)
    | _ => none
  | _ => none
theorem cal_nC_slipsBy_17 (G : am_G) : am_Cal G M_nC_slipsBy cF_nC_slipsBy_17 := by
  intro ρ args σ K r e
  unfold cF_nC_slipsBy_17 at e
  split at e
  · split at e
    · rename_i hq0
      obtain ⟨p, h1, h2⟩ := am_bind_some e
      rw [Nat.eq_of_beq_eq_true hq0]
      exact ⟨some (.int p.1), p.2, am_Met.of rfl (Nat.le_of_ble_eq_true rfl) (s_nC_slipsBy_17 G _ σ p _ h1 ⟨rfl, rfl⟩), h2⟩
    · cases e
  · cases e
noncomputable def g_nS_slipsBy_17 (x1 : Int32) (σ : am_St) : Option (Int32 × am_St) :=
  (f_nC_slipsBy_17 x1 σ).bind (fun p1 =>
    some ((p1.1 + 4, p1.2)))
noncomputable def f_nS_slipsBy_17 (x1 : Int32) (σ : am_St) : Option (Int32 × am_St) := am_lk (g_nS_slipsBy_17 x1 σ)
theorem eq_nS_slipsBy_17 (x1 : Int32) (σ : am_St) : f_nS_slipsBy_17 x1 σ = g_nS_slipsBy_17 x1 σ := am_lk_eq _
set_option maxRecDepth 100000 in
set_option maxHeartbeats 4000000 in
theorem s_nS_slipsBy_17 (G : am_G) (x1 : Int32) (σ : am_St) (r : Int32 × am_St) (Q : am_AQ) (e : f_nS_slipsBy_17 x1 σ = some r) (hr : am_Pi r Q) : am_AW G M_nS_slipsBy 0 [(0, .ref 17), (1, .int x1)] [] σ Q :=
  (show am_Snd G M_nS_slipsBy 0 am_Pi _ from (sn_aload_n (pc := 0) (i := 0) dX9_slipsBy_0 rfl (sn_iload_n (pc := 1) (i := 1) dX9_slipsBy_1 rfl (sn_callU (pc := 2) (N := M_nC_slipsBy) dX9_slipsBy_2 (cal_nC_slipsBy_17 G) sh_17 rfl tw_506 tw_487 tw_46 tw_485 tw_3 tw_508 ⟨by decide +kernel, dsc_X2_slipsBy.2.2⟩ rfl (sn_iconst (pc := 5) (v := 4) dX9_slipsBy_5 rfl (sn_iadd (pc := 6) dX9_slipsBy_6 (sn_reti (pc := 7) (R := fun x τ => (some ((x, τ)))) dX9_slipsBy_7 rfl (fun _ _ _ _ e h => by cases e; exact h)))))))) _ _ _ _ _ ((eq_nS_slipsBy_17 x1 σ).symm.trans e) hr
noncomputable def cF_nS_slipsBy_17 : am_Fn := fun _ args σ K => match args with
  | [.ref q0, .int z1] => match Nat.beq q0 17 with
    | true => (f_nS_slipsBy_17 z1 σ).bind (fun p => K (some (.int p.1)) p.2)
    | _ => none
  | _ => none
theorem cal_nS_slipsBy_17 (G : am_G) : am_Cal G M_nS_slipsBy cF_nS_slipsBy_17 := by
  intro ρ args σ K r e
  unfold cF_nS_slipsBy_17 at e
  split at e
  · split at e
    · rename_i hq0
      obtain ⟨p, h1, h2⟩ := am_bind_some e
      rw [Nat.eq_of_beq_eq_true hq0]
      exact ⟨some (.int p.1), p.2, am_Met.of rfl (Nat.le_of_ble_eq_true rfl) (s_nS_slipsBy_17 G _ σ p _ h1 ⟨rfl, rfl⟩), h2⟩
    · cases e
  · cases e
abbrev M_nI_slipsBy : am_MD := (yX8_slipsBy, cX8_slipsBy, 2, (some .int), 2, 42)
theorem dX8_slipsBy_0 : decode cX8_slipsBy 0 = .ok (.aload_n 0, 1) := by decide +kernel
theorem dX8_slipsBy_1 : decode cX8_slipsBy 1 = .ok (.iload_n 1, 1) := by decide +kernel
theorem dX8_slipsBy_2 : decode cX8_slipsBy 2 = .ok (.invokespecial 9, 3) := by decide +kernel
theorem dX8_slipsBy_5 : decode cX8_slipsBy 5 = .ok (.iconst 2, 1) := by decide +kernel
theorem dX8_slipsBy_6 : decode cX8_slipsBy 6 = .ok (.idiv, 1) := by decide +kernel
theorem dX8_slipsBy_7 : decode cX8_slipsBy 7 = .ok (.ireturn, 1) := by decide +kernel
noncomputable def g_nI_slipsBy_17 (x1 : Int32) (σ : am_St) : Option (Int32 × am_St) :=
  (f_nS_slipsBy_17 x1 σ).bind (fun p1 =>
    some ((p1.1 / 2, p1.2)))
noncomputable def f_nI_slipsBy_17 (x1 : Int32) (σ : am_St) : Option (Int32 × am_St) := am_lk (g_nI_slipsBy_17 x1 σ)
theorem eq_nI_slipsBy_17 (x1 : Int32) (σ : am_St) : f_nI_slipsBy_17 x1 σ = g_nI_slipsBy_17 x1 σ := am_lk_eq _
set_option maxRecDepth 100000 in
set_option maxHeartbeats 4000000 in
theorem s_nI_slipsBy_17 (G : am_G) (x1 : Int32) (σ : am_St) (r : Int32 × am_St) (Q : am_AQ) (e : f_nI_slipsBy_17 x1 σ = some r) (hr : am_Pi r Q) : am_AW G M_nI_slipsBy 0 [(0, .ref 17), (1, .int x1)] [] σ Q :=
  (show am_Snd G M_nI_slipsBy 0 am_Pi _ from (sn_aload_n (pc := 0) (i := 0) dX8_slipsBy_0 rfl (sn_iload_n (pc := 1) (i := 1) dX8_slipsBy_1 rfl (sn_callU (pc := 2) (N := M_nS_slipsBy) dX8_slipsBy_2 (cal_nS_slipsBy_17 G) sh_17 rfl tw_503 tw_1466 tw_74 tw_504 tw_4 tw_505 ⟨by decide +kernel, dsc_X9_slipsBy.2.2⟩ rfl (sn_iconst (pc := 5) (v := 2) dX8_slipsBy_5 rfl (sn_idiv (pc := 6) dX8_slipsBy_6 (sn_reti (pc := 7) (R := fun x τ => (some ((x, τ)))) dX8_slipsBy_7 rfl (fun _ _ _ _ e h => by cases e; exact h)))))))) _ _ _ _ _ ((eq_nI_slipsBy_17 x1 σ).symm.trans e) hr
noncomputable def cF_nI_slipsBy_17 : am_Fn := fun _ args σ K => match args with
  | [.ref q0, .int z1] => match Nat.beq q0 17 with
    | true => (f_nI_slipsBy_17 z1 σ).bind (fun p => K (some (.int p.1)) p.2)
    | _ => none
  | _ => none
theorem cal_nI_slipsBy_17 (G : am_G) : am_Cal G M_nI_slipsBy cF_nI_slipsBy_17 := by
  intro ρ args σ K r e
  unfold cF_nI_slipsBy_17 at e
  split at e
  · split at e
    · rename_i hq0
      obtain ⟨p, h1, h2⟩ := am_bind_some e
      rw [Nat.eq_of_beq_eq_true hq0]
      exact ⟨some (.int p.1), p.2, am_Met.of rfl (Nat.le_of_ble_eq_true rfl) (s_nI_slipsBy_17 G _ σ p _ h1 ⟨rfl, rfl⟩), h2⟩
    · cases e
  · cases e
abbrev M_H_slipsOf : am_MD := (yX3_slipsOf, cX3_slipsOf, 3, (some .int), 3, 63)
theorem dX3_slipsOf_0 : decode cX3_slipsOf 0 = .ok (.aload_n 0, 1) := by decide +kernel
theorem dX3_slipsOf_1 : decode cX3_slipsOf 1 = .ok (.iload_n 1, 1) := by decide +kernel
theorem dX3_slipsOf_2 : decode cX3_slipsOf 2 = .ok (.invokevirtual 116, 3) := by decide +kernel
theorem dX3_slipsOf_5 : decode cX3_slipsOf 5 = .ok (.aload_n 0, 1) := by decide +kernel
theorem dX3_slipsOf_6 : decode cX3_slipsOf 6 = .ok (.iload_n 1, 1) := by decide +kernel
theorem dX3_slipsOf_7 : decode cX3_slipsOf 7 = .ok (.invokevirtual 124, 3) := by decide +kernel
theorem dX3_slipsOf_10 : decode cX3_slipsOf 10 = .ok (.invokevirtual 127, 3) := by decide +kernel
theorem dX3_slipsOf_13 : decode cX3_slipsOf 13 = .ok (.aload_n 0, 1) := by decide +kernel
theorem dX3_slipsOf_14 : decode cX3_slipsOf 14 = .ok (.iload_n 1, 1) := by decide +kernel
theorem dX3_slipsOf_15 : decode cX3_slipsOf 15 = .ok (.invokevirtual 110, 3) := by decide +kernel
theorem dX3_slipsOf_18 : decode cX3_slipsOf 18 = .ok (.iconst 3, 1) := by decide +kernel
theorem dX3_slipsOf_19 : decode cX3_slipsOf 19 = .ok (.idiv, 1) := by decide +kernel
theorem dX3_slipsOf_20 : decode cX3_slipsOf 20 = .ok (.isub, 1) := by decide +kernel
theorem dX3_slipsOf_21 : decode cX3_slipsOf 21 = .ok (.istore_n 2, 1) := by decide +kernel
theorem dX3_slipsOf_22 : decode cX3_slipsOf 22 = .ok (.iconst 0, 1) := by decide +kernel
theorem dX3_slipsOf_23 : decode cX3_slipsOf 23 = .ok (.bipush 9, 2) := by decide +kernel
theorem dX3_slipsOf_25 : decode cX3_slipsOf 25 = .ok (.iload_n 2, 1) := by decide +kernel
theorem dX3_slipsOf_26 : decode cX3_slipsOf 26 = .ok (.invokestatic 130, 3) := by decide +kernel
theorem dX3_slipsOf_29 : decode cX3_slipsOf 29 = .ok (.invokestatic 136, 3) := by decide +kernel
theorem dX3_slipsOf_32 : decode cX3_slipsOf 32 = .ok (.ireturn, 1) := by decide +kernel
noncomputable def g_H_slipsOf_1_18 (y0 : Int32) (y1 : Int32) (σ : am_St) : Option (Int32 × am_St) :=
  let v1 := y0 - (y1 / 3)
  some ((am_mmax 0 (am_mmin 9 v1), σ))
noncomputable def f_H_slipsOf_1_18 (y0 : Int32) (y1 : Int32) (σ : am_St) : Option (Int32 × am_St) := am_lk (g_H_slipsOf_1_18 y0 y1 σ)
theorem eq_H_slipsOf_1_18 (y0 : Int32) (y1 : Int32) (σ : am_St) : f_H_slipsOf_1_18 y0 y1 σ = g_H_slipsOf_1_18 y0 y1 σ := am_lk_eq _
set_option maxRecDepth 100000 in
set_option maxHeartbeats 4000000 in
theorem s_H_slipsOf_1_18 (G : am_G) (y0 : Int32) (y1 : Int32) (σ : am_St) (r : Int32 × am_St) (Q : am_AQ) (e : f_H_slipsOf_1_18 y0 y1 σ = some r) (hr : am_Pi r Q) : am_AW G M_H_slipsOf 18 [] [.int y1, .int y0] σ Q :=
  (show am_Snd G M_H_slipsOf 18 am_Pi _ from (sn_iconst (pc := 18) (v := 3) dX3_slipsOf_18 rfl (sn_idiv (pc := 19) dX3_slipsOf_19 (sn_isub (pc := 20) dX3_slipsOf_20 (sn_istore_n (pc := 21) (i := 2) dX3_slipsOf_21 rfl (Nat.le_of_ble_eq_true rfl) (sn_iconst (pc := 22) (v := 0) dX3_slipsOf_22 rfl (sn_bipush (pc := 23) (v := 9) dX3_slipsOf_23 rfl (sn_iload_n (pc := 25) (i := 2) dX3_slipsOf_25 rfl (sn_mmin (pc := 26) dX3_slipsOf_26 tw_510 tw_511 tw_14 tw_512 rfl (sn_mmax (pc := 29) dX3_slipsOf_29 tw_513 tw_514 tw_14 tw_515 rfl (sn_reti (pc := 32) (R := fun x τ => (some ((x, τ)))) dX3_slipsOf_32 rfl (fun _ _ _ _ e h => by cases e; exact h)))))))))))) _ _ _ _ _ ((eq_H_slipsOf_1_18 y0 y1 σ).symm.trans e) hr
noncomputable def g_H_slipsOf_1 (x1 : Int32) (σ : am_St) : Option (Int32 × am_St) :=
  (f_H_natureOf_1 x1 σ).bind (fun p1 =>
    (f_H_figureOf_1 x1 p1.2).bind (fun p2 =>
      if p1.1 = 12 then
        (f_nC_slipsBy_12 p2.1 p2.2).bind (fun p3 =>
          (f_H_skillOf_1 x1 p3.2).bind (fun p4 =>
            f_H_slipsOf_1_18 p3.1 p4.1 p4.2))
      else
      if p1.1 = 13 then
        (f_nS_slipsBy_13 p2.1 p2.2).bind (fun p5 =>
          (f_H_skillOf_1 x1 p5.2).bind (fun p6 =>
            f_H_slipsOf_1_18 p5.1 p6.1 p6.2))
      else
      if p1.1 = 14 then
        (f_nL_slipsBy_14 p2.1 p2.2).bind (fun p7 =>
          (f_H_skillOf_1 x1 p7.2).bind (fun p8 =>
            f_H_slipsOf_1_18 p7.1 p8.1 p8.2))
      else
      if p1.1 = 15 then
        (f_nB_slipsBy_15 p2.1 p2.2).bind (fun p9 =>
          (f_H_skillOf_1 x1 p9.2).bind (fun p10 =>
            f_H_slipsOf_1_18 p9.1 p10.1 p10.2))
      else
      if p1.1 = 16 then
        (f_nD_slipsBy_16 p2.1 p2.2).bind (fun p11 =>
          (f_H_skillOf_1 x1 p11.2).bind (fun p12 =>
            f_H_slipsOf_1_18 p11.1 p12.1 p12.2))
      else
      if p1.1 = 17 then
        (f_nI_slipsBy_17 p2.1 p2.2).bind (fun p13 =>
          (f_H_skillOf_1 x1 p13.2).bind (fun p14 =>
            f_H_slipsOf_1_18 p13.1 p14.1 p14.2))
      else
        none))
noncomputable def f_H_slipsOf_1 (x1 : Int32) (σ : am_St) : Option (Int32 × am_St) := am_lk (g_H_slipsOf_1 x1 σ)
theorem eq_H_slipsOf_1 (x1 : Int32) (σ : am_St) : f_H_slipsOf_1 x1 σ = g_H_slipsOf_1 x1 σ := am_lk_eq _
set_option maxRecDepth 100000 in
set_option maxHeartbeats 4000000 in
theorem s_H_slipsOf_1 (G : am_G) (x1 : Int32) (σ : am_St) (r : Int32 × am_St) (Q : am_AQ) (e : f_H_slipsOf_1 x1 σ = some r) (hr : am_Pi r Q) : am_AW G M_H_slipsOf 0 [(0, .ref 1), (1, .int x1)] [] σ Q :=
  (show am_Snd G M_H_slipsOf 0 am_Pi _ from (sn_aload_n (pc := 0) (i := 0) dX3_slipsOf_0 rfl (sn_iload_n (pc := 1) (i := 1) dX3_slipsOf_1 rfl (sn_callV (pc := 2) (N := M_H_natureOf) dX3_slipsOf_2 (cal_H_natureOf_1 G) sh_1 rfl tw_455 tw_457 tp_15 tw_2 tw_458 dsc_X3_natureOf rfl (sn_aload_n (pc := 5) (i := 0) dX3_slipsOf_5 rfl (sn_iload_n (pc := 6) (i := 1) dX3_slipsOf_6 rfl (sn_callV (pc := 7) (N := M_H_figureOf) dX3_slipsOf_7 (cal_H_figureOf_1 G) sh_1 rfl tw_483 tw_440 tw_441 tw_2 tw_442 dsc_X3_figureOf rfl (sn_spl (n := 1) (c0 := 12) (sn_callV (pc := 10) (N := M_nC_slipsBy) dX3_slipsOf_10 (cal_nC_slipsBy_12 G) sh_12 rfl tw_484 tw_485 tw_486 tw_3 tw_508 dsc_X2_slipsBy rfl (sn_aload_n (pc := 13) (i := 0) dX3_slipsOf_13 rfl (sn_iload_n (pc := 14) (i := 1) dX3_slipsOf_14 rfl (sn_callV (pc := 15) (N := M_H_skillOf) dX3_slipsOf_15 (cal_H_skillOf_1 G) sh_1 rfl tw_509 tw_448 tw_449 tw_2 tw_450 dsc_X3_skillOf rfl (sn_lf (pc := 18) (ln_si (fun w1 => (ln_si (fun w0 => (ln_end (o := fun τ => f_H_slipsOf_1_18 w0 w1 τ) (fun _ _ _ e h => s_H_slipsOf_1_18 G w0 w1 _ _ _ e h))))))))))) (sn_spl (n := 1) (c0 := 13) (sn_callO (pc := 10) (N := M_nS_slipsBy) dX3_slipsOf_10 (cal_nS_slipsBy_13 G) sh_13 rfl tw_484 tw_487 tw_485 tw_508 tw_504 tw_507 tw_4 tw_505 dsc_X2_slipsBy rfl (sn_aload_n (pc := 13) (i := 0) dX3_slipsOf_13 rfl (sn_iload_n (pc := 14) (i := 1) dX3_slipsOf_14 rfl (sn_callV (pc := 15) (N := M_H_skillOf) dX3_slipsOf_15 (cal_H_skillOf_1 G) sh_1 rfl tw_509 tw_448 tw_449 tw_2 tw_450 dsc_X3_skillOf rfl (sn_lf (pc := 18) (ln_si (fun w1 => (ln_si (fun w0 => (ln_end (o := fun τ => f_H_slipsOf_1_18 w0 w1 τ) (fun _ _ _ e h => s_H_slipsOf_1_18 G w0 w1 _ _ _ e h))))))))))) (sn_spl (n := 1) (c0 := 14) (sn_callO (pc := 10) (N := M_nL_slipsBy) dX3_slipsOf_10 (cal_nL_slipsBy_14 G) sh_14 rfl tw_484 tw_487 tw_485 tw_508 tw_496 tw_499 tw_5 tw_497 dsc_X2_slipsBy rfl (sn_aload_n (pc := 13) (i := 0) dX3_slipsOf_13 rfl (sn_iload_n (pc := 14) (i := 1) dX3_slipsOf_14 rfl (sn_callV (pc := 15) (N := M_H_skillOf) dX3_slipsOf_15 (cal_H_skillOf_1 G) sh_1 rfl tw_509 tw_448 tw_449 tw_2 tw_450 dsc_X3_skillOf rfl (sn_lf (pc := 18) (ln_si (fun w1 => (ln_si (fun w0 => (ln_end (o := fun τ => f_H_slipsOf_1_18 w0 w1 τ) (fun _ _ _ e h => s_H_slipsOf_1_18 G w0 w1 _ _ _ e h))))))))))) (sn_spl (n := 1) (c0 := 15) (sn_callO (pc := 10) (N := M_nB_slipsBy) dX3_slipsOf_10 (cal_nB_slipsBy_15 G) sh_15 rfl tw_484 tw_487 tw_485 tw_508 tw_493 tw_492 tw_6 tw_494 dsc_X2_slipsBy rfl (sn_aload_n (pc := 13) (i := 0) dX3_slipsOf_13 rfl (sn_iload_n (pc := 14) (i := 1) dX3_slipsOf_14 rfl (sn_callV (pc := 15) (N := M_H_skillOf) dX3_slipsOf_15 (cal_H_skillOf_1 G) sh_1 rfl tw_509 tw_448 tw_449 tw_2 tw_450 dsc_X3_skillOf rfl (sn_lf (pc := 18) (ln_si (fun w1 => (ln_si (fun w0 => (ln_end (o := fun τ => f_H_slipsOf_1_18 w0 w1 τ) (fun _ _ _ e h => s_H_slipsOf_1_18 G w0 w1 _ _ _ e h))))))))))) (sn_spl (n := 1) (c0 := 16) (sn_callO (pc := 10) (N := M_nD_slipsBy) dX3_slipsOf_10 (cal_nD_slipsBy_16 G) sh_16 rfl tw_484 tw_487 tw_485 tw_508 tw_489 tw_488 tw_7 tw_490 dsc_X2_slipsBy rfl (sn_aload_n (pc := 13) (i := 0) dX3_slipsOf_13 rfl (sn_iload_n (pc := 14) (i := 1) dX3_slipsOf_14 rfl (sn_callV (pc := 15) (N := M_H_skillOf) dX3_slipsOf_15 (cal_H_skillOf_1 G) sh_1 rfl tw_509 tw_448 tw_449 tw_2 tw_450 dsc_X3_skillOf rfl (sn_lf (pc := 18) (ln_si (fun w1 => (ln_si (fun w0 => (ln_end (o := fun τ => f_H_slipsOf_1_18 w0 w1 τ) (fun _ _ _ e h => s_H_slipsOf_1_18 G w0 w1 _ _ _ e h))))))))))) (sn_spl (n := 1) (c0 := 17) (sn_callO (pc := 10) (N := M_nI_slipsBy) dX3_slipsOf_10 (cal_nI_slipsBy_17 G) sh_17 rfl tw_484 tw_487 tw_485 tw_508 tw_501 tw_500 tw_8 tw_502 dsc_X2_slipsBy rfl (sn_aload_n (pc := 13) (i := 0) dX3_slipsOf_13 rfl (sn_iload_n (pc := 14) (i := 1) dX3_slipsOf_14 rfl (sn_callV (pc := 15) (N := M_H_skillOf) dX3_slipsOf_15 (cal_H_skillOf_1 G) sh_1 rfl tw_509 tw_448 tw_449 tw_2 tw_450 dsc_X3_skillOf rfl (sn_lf (pc := 18) (ln_si (fun w1 => (ln_si (fun w0 => (ln_end (o := fun τ => f_H_slipsOf_1_18 w0 w1 τ) (fun _ _ _ e h => s_H_slipsOf_1_18 G w0 w1 _ _ _ e h))))))))))) sn_no))))))))))))) _ _ _ _ _ ((eq_H_slipsOf_1 x1 σ).symm.trans e) hr
noncomputable def cF_H_slipsOf_1 : am_Fn := fun _ args σ K => match args with
  | [.ref q0, .int z1] => match Nat.beq q0 1 with
    | true => (f_H_slipsOf_1 z1 σ).bind (fun p => K (some (.int p.1)) p.2)
    | _ => none
  | _ => none
theorem cal_H_slipsOf_1 (G : am_G) : am_Cal G M_H_slipsOf cF_H_slipsOf_1 := by
  intro ρ args σ K r e
  unfold cF_H_slipsOf_1 at e
  split at e
  · split at e
    · rename_i hq0
      obtain ⟨p, h1, h2⟩ := am_bind_some e
      rw [Nat.eq_of_beq_eq_true hq0]
      exact ⟨some (.int p.1), p.2, am_Met.of rfl (Nat.le_of_ble_eq_true rfl) (s_H_slipsOf_1 G _ σ p _ h1 ⟨rfl, rfl⟩), h2⟩
    · cases e
  · cases e
abbrev M_X_child : am_MD := (yX11_child, cX11_child, 3, (some .int), 4, 85)
theorem dX11_child_0 : decode cX11_child 0 = .ok (.aload_n 0, 1) := by decide +kernel
theorem dX11_child_1 : decode cX11_child 1 = .ok (.getfield 10, 3) := by decide +kernel
theorem dX11_child_4 : decode cX11_child 4 = .ok (.iload_n 1, 1) := by decide +kernel
theorem dX11_child_5 : decode cX11_child 5 = .ok (.invokevirtual 81, 3) := by decide +kernel
theorem dX11_child_8 : decode cX11_child 8 = .ok (.ifCond .ne 9, 3) := by decide +kernel
theorem dX11_child_11 : decode cX11_child 11 = .ok (.aload_n 0, 1) := by decide +kernel
theorem dX11_child_12 : decode cX11_child 12 = .ok (.iconst (-1), 1) := by decide +kernel
theorem dX11_child_13 : decode cX11_child 13 = .ok (.invokevirtual 55, 3) := by decide +kernel
theorem dX11_child_16 : decode cX11_child 16 = .ok (.ireturn, 1) := by decide +kernel
theorem dX11_child_17 : decode cX11_child 17 = .ok (.iload_n 2, 1) := by decide +kernel
theorem dX11_child_18 : decode cX11_child 18 = .ok (.tableswitch 92 0 5 #[38, 47, 56, 65, 74, 83], 38) := by decide +kernel
theorem dX11_child_56 : decode cX11_child 56 = .ok (.aload_n 0, 1) := by decide +kernel
theorem dX11_child_57 : decode cX11_child 57 = .ok (.getfield 10, 3) := by decide +kernel
theorem dX11_child_60 : decode cX11_child 60 = .ok (.iload_n 1, 1) := by decide +kernel
theorem dX11_child_61 : decode cX11_child 61 = .ok (.invokevirtual 85, 3) := by decide +kernel
theorem dX11_child_64 : decode cX11_child 64 = .ok (.ireturn, 1) := by decide +kernel
theorem dX11_child_65 : decode cX11_child 65 = .ok (.aload_n 0, 1) := by decide +kernel
theorem dX11_child_66 : decode cX11_child 66 = .ok (.getfield 10, 3) := by decide +kernel
theorem dX11_child_69 : decode cX11_child 69 = .ok (.iload_n 1, 1) := by decide +kernel
theorem dX11_child_70 : decode cX11_child 70 = .ok (.invokevirtual 88, 3) := by decide +kernel
theorem dX11_child_73 : decode cX11_child 73 = .ok (.ireturn, 1) := by decide +kernel
theorem dX11_child_74 : decode cX11_child 74 = .ok (.aload_n 0, 1) := by decide +kernel
theorem dX11_child_75 : decode cX11_child 75 = .ok (.getfield 10, 3) := by decide +kernel
theorem dX11_child_78 : decode cX11_child 78 = .ok (.iload_n 1, 1) := by decide +kernel
theorem dX11_child_79 : decode cX11_child 79 = .ok (.invokevirtual 91, 3) := by decide +kernel
theorem dX11_child_82 : decode cX11_child 82 = .ok (.ireturn, 1) := by decide +kernel
theorem dX11_child_83 : decode cX11_child 83 = .ok (.aload_n 0, 1) := by decide +kernel
theorem dX11_child_84 : decode cX11_child 84 = .ok (.getfield 10, 3) := by decide +kernel
theorem dX11_child_87 : decode cX11_child 87 = .ok (.iload_n 1, 1) := by decide +kernel
theorem dX11_child_88 : decode cX11_child 88 = .ok (.invokevirtual 94, 3) := by decide +kernel
theorem dX11_child_91 : decode cX11_child 91 = .ok (.ireturn, 1) := by decide +kernel
theorem dX11_child_92 : decode cX11_child 92 = .ok (.aload_n 0, 1) := by decide +kernel
theorem dX11_child_93 : decode cX11_child 93 = .ok (.getfield 10, 3) := by decide +kernel
theorem dX11_child_96 : decode cX11_child 96 = .ok (.iload_n 1, 1) := by decide +kernel
theorem dX11_child_97 : decode cX11_child 97 = .ok (.invokevirtual 97, 3) := by decide +kernel
theorem dX11_child_100 : decode cX11_child 100 = .ok (.ireturn, 1) := by decide +kernel
theorem dX11_child_101 : decode cX11_child 101 = .ok (.aload_n 0, 1) := by decide +kernel
theorem dX11_child_102 : decode cX11_child 102 = .ok (.getfield 10, 3) := by decide +kernel
theorem dX11_child_105 : decode cX11_child 105 = .ok (.iload_n 1, 1) := by decide +kernel
theorem dX11_child_106 : decode cX11_child 106 = .ok (.invokevirtual 100, 3) := by decide +kernel
theorem dX11_child_109 : decode cX11_child 109 = .ok (.ireturn, 1) := by decide +kernel
theorem dX11_child_110 : decode cX11_child 110 = .ok (.aload_n 0, 1) := by decide +kernel
theorem dX11_child_111 : decode cX11_child 111 = .ok (.bipush (-2), 2) := by decide +kernel
theorem dX11_child_113 : decode cX11_child 113 = .ok (.invokevirtual 55, 3) := by decide +kernel
theorem dX11_child_116 : decode cX11_child 116 = .ok (.ireturn, 1) := by decide +kernel
noncomputable def g_X_child (x1 : Int32) (x2 : Int32) (σ : am_St) : Option (Int32 × am_St) :=
  (f_H_hasChild_1 x1 σ).bind (fun p1 =>
    if p1.1 = 0 then
      (f_X_refuse (-1) p1.2).bind (fun p9 =>
        some ((p9.1, p9.2)))
    else
      if x2 = 0 then
        (f_H_kindOf_1 x1 p1.2).bind (fun p2 =>
          some ((p2.1, p2.2)))
      else
      if x2 = 1 then
        (f_H_figureOf_1 x1 p1.2).bind (fun p3 =>
          some ((p3.1, p3.2)))
      else
      if x2 = 2 then
        (f_H_tieOf_1 x1 p1.2).bind (fun p4 =>
          some ((p4.1, p4.2)))
      else
      if x2 = 3 then
        (f_H_skillOf_1 x1 p1.2).bind (fun p5 =>
          some ((p5.1, p5.2)))
      else
      if x2 = 4 then
        (f_H_guiltOf_1 x1 p1.2).bind (fun p6 =>
          some ((p6.1, p6.2)))
      else
      if x2 = 5 then
        (f_H_slipsOf_1 x1 p1.2).bind (fun p7 =>
          some ((p7.1, p7.2)))
      else
      (f_X_refuse (-2) p1.2).bind (fun p8 =>
        some ((p8.1, p8.2))))
noncomputable def f_X_child (x1 : Int32) (x2 : Int32) (σ : am_St) : Option (Int32 × am_St) := am_lk (g_X_child x1 x2 σ)
theorem eq_X_child (x1 : Int32) (x2 : Int32) (σ : am_St) : f_X_child x1 x2 σ = g_X_child x1 x2 σ := am_lk_eq _
set_option maxRecDepth 100000 in
set_option maxHeartbeats 4000000 in
theorem s_X_child (G : am_G) (x1 : Int32) (x2 : Int32) (σ : am_St) (r : Int32 × am_St) (Q : am_AQ) (e : f_X_child x1 x2 σ = some r) (hr : am_Pi r Q) : am_AW G M_X_child 0 [(0, .ref 0), (1, .int x1), (2, .int x2)] [] σ Q :=
  (show am_Snd G M_X_child 0 am_Pi _ from (sn_aload_n (pc := 0) (i := 0) dX11_child_0 rfl (sn_gR (r0 := 1) (pc := 1) (h := 0) (f := 0) dX11_child_1 am_CL_10 sh_0 rfl (Nat.le_of_ble_eq_true rfl) tw_219 (sn_iload_n (pc := 4) (i := 1) dX11_child_4 rfl (sn_callV (pc := 5) (N := M_H_hasChild) dX11_child_5 (cal_H_hasChild_1 G) sh_1 rfl tw_434 tw_385 tw_386 tw_2 tw_387 dsc_X3_hasChild rfl (sn_if_ne (pc := 8) (tgt := 17) dX11_child_8 rfl (sn_iload_n (pc := 17) (i := 2) dX11_child_17 rfl (sn_tsw (pc := 18) (dt := 110) (vs := [0, 1, 2, 3, 4, 5]) (ts := [56, 65, 74, 83, 92, 101]) dX11_child_18 (by decide +kernel) (sn_aload_n (pc := 110) (i := 0) dX11_child_110 rfl (sn_bipush (pc := 111) (v := (-2)) dX11_child_111 (show (Int8.ofInt (-2)).toInt32 = (-2) by decide) (sn_callV (pc := 113) (N := M_X_refuse) dX11_child_113 (cal_X_refuse G) sh_0 rfl tw_251 tw_253 tp_0 tw_1 tw_254 dsc_X11_refuse rfl (sn_reti (pc := 116) (R := fun x τ => (some ((x, τ)))) dX11_child_116 rfl (fun _ _ _ _ e h => by cases e; exact h))))) (am_all_cons (sn_aload_n (pc := 56) (i := 0) dX11_child_56 rfl (sn_gR (r0 := 1) (pc := 57) (h := 0) (f := 0) dX11_child_57 am_CL_10 sh_0 rfl (Nat.le_of_ble_eq_true rfl) tw_219 (sn_iload_n (pc := 60) (i := 1) dX11_child_60 rfl (sn_callV (pc := 61) (N := M_H_kindOf) dX11_child_61 (cal_H_kindOf_1 G) sh_1 rfl tw_435 tw_436 tw_437 tw_2 tw_438 dsc_X3_kindOf rfl (sn_reti (pc := 64) (R := fun x τ => (some ((x, τ)))) dX11_child_64 rfl (fun _ _ _ _ e h => by cases e; exact h)))))) (am_all_cons (sn_aload_n (pc := 65) (i := 0) dX11_child_65 rfl (sn_gR (r0 := 1) (pc := 66) (h := 0) (f := 0) dX11_child_66 am_CL_10 sh_0 rfl (Nat.le_of_ble_eq_true rfl) tw_219 (sn_iload_n (pc := 69) (i := 1) dX11_child_69 rfl (sn_callV (pc := 70) (N := M_H_figureOf) dX11_child_70 (cal_H_figureOf_1 G) sh_1 rfl tw_439 tw_440 tw_441 tw_2 tw_442 dsc_X3_figureOf rfl (sn_reti (pc := 73) (R := fun x τ => (some ((x, τ)))) dX11_child_73 rfl (fun _ _ _ _ e h => by cases e; exact h)))))) (am_all_cons (sn_aload_n (pc := 74) (i := 0) dX11_child_74 rfl (sn_gR (r0 := 1) (pc := 75) (h := 0) (f := 0) dX11_child_75 am_CL_10 sh_0 rfl (Nat.le_of_ble_eq_true rfl) tw_219 (sn_iload_n (pc := 78) (i := 1) dX11_child_78 rfl (sn_callV (pc := 79) (N := M_H_tieOf) dX11_child_79 (cal_H_tieOf_1 G) sh_1 rfl tw_443 tw_444 tw_445 tw_2 tw_446 dsc_X3_tieOf rfl (sn_reti (pc := 82) (R := fun x τ => (some ((x, τ)))) dX11_child_82 rfl (fun _ _ _ _ e h => by cases e; exact h)))))) (am_all_cons (sn_aload_n (pc := 83) (i := 0) dX11_child_83 rfl (sn_gR (r0 := 1) (pc := 84) (h := 0) (f := 0) dX11_child_84 am_CL_10 sh_0 rfl (Nat.le_of_ble_eq_true rfl) tw_219 (sn_iload_n (pc := 87) (i := 1) dX11_child_87 rfl (sn_callV (pc := 88) (N := M_H_skillOf) dX11_child_88 (cal_H_skillOf_1 G) sh_1 rfl tw_447 tw_448 tw_449 tw_2 tw_450 dsc_X3_skillOf rfl (sn_reti (pc := 91) (R := fun x τ => (some ((x, τ)))) dX11_child_91 rfl (fun _ _ _ _ e h => by cases e; exact h)))))) (am_all_cons (sn_aload_n (pc := 92) (i := 0) dX11_child_92 rfl (sn_gR (r0 := 1) (pc := 93) (h := 0) (f := 0) dX11_child_93 am_CL_10 sh_0 rfl (Nat.le_of_ble_eq_true rfl) tw_219 (sn_iload_n (pc := 96) (i := 1) dX11_child_96 rfl (sn_callV (pc := 97) (N := M_H_guiltOf) dX11_child_97 (cal_H_guiltOf_1 G) sh_1 rfl tw_451 tw_452 tw_453 tw_2 tw_454 dsc_X3_guiltOf rfl (sn_reti (pc := 100) (R := fun x τ => (some ((x, τ)))) dX11_child_100 rfl (fun _ _ _ _ e h => by cases e; exact h)))))) (am_all_cons (sn_aload_n (pc := 101) (i := 0) dX11_child_101 rfl (sn_gR (r0 := 1) (pc := 102) (h := 0) (f := 0) dX11_child_102 am_CL_10 sh_0 rfl (Nat.le_of_ble_eq_true rfl) tw_219 (sn_iload_n (pc := 105) (i := 1) dX11_child_105 rfl (sn_callV (pc := 106) (N := M_H_slipsOf) dX11_child_106 (cal_H_slipsOf_1 G) sh_1 rfl tw_479 tw_480 tw_481 tw_2 tw_482 dsc_X3_slipsOf rfl (sn_reti (pc := 109) (R := fun x τ => (some ((x, τ)))) dX11_child_109 rfl (fun _ _ _ _ e h => by cases e; exact h)))))) am_all_nil)))))))) (sn_aload_n (pc := 11) (i := 0) dX11_child_11 rfl (sn_iconst (pc := 12) (v := (-1)) dX11_child_12 (show Int32.ofInt (-1) = (-1) by decide) (sn_callV (pc := 13) (N := M_X_refuse) dX11_child_13 (cal_X_refuse G) sh_0 rfl tw_251 tw_253 tp_0 tw_1 tw_254 dsc_X11_refuse rfl (sn_reti (pc := 16) (R := fun x τ => (some ((x, τ)))) dX11_child_16 rfl (fun _ _ _ _ e h => by cases e; exact h))))))))))) _ _ _ _ _ ((eq_X_child x1 x2 σ).symm.trans e) hr
noncomputable def cF_X_child : am_Fn := fun _ args σ K => match args with
  | [.ref q0, .int z1, .int z2] => match Nat.beq q0 0 with
    | true => (f_X_child z1 z2 σ).bind (fun p => K (some (.int p.1)) p.2)
    | _ => none
  | _ => none
theorem cal_X_child (G : am_G) : am_Cal G M_X_child cF_X_child := by
  intro ρ args σ K r e
  unfold cF_X_child at e
  split at e
  · split at e
    · rename_i hq0
      obtain ⟨p, h1, h2⟩ := am_bind_some e
      rw [Nat.eq_of_beq_eq_true hq0]
      exact ⟨some (.int p.1), p.2, am_Met.of rfl (Nat.le_of_ble_eq_true rfl) (s_X_child G _ _ σ p _ h1 ⟨rfl, rfl⟩), h2⟩
    · cases e
  · cases e
noncomputable def g_H_hasMinute_1 (x1 : Int32) (σ : am_St) : Option (Int32 × am_St) :=
  if x1 < 0 then
    some ((0, σ))
  else
    if (σ.1 1 1) ≤ x1 then
      some ((0, σ))
    else
      some ((1, σ))
noncomputable def f_H_hasMinute_1 (x1 : Int32) (σ : am_St) : Option (Int32 × am_St) := am_lk (g_H_hasMinute_1 x1 σ)
theorem eq_H_hasMinute_1 (x1 : Int32) (σ : am_St) : f_H_hasMinute_1 x1 σ = g_H_hasMinute_1 x1 σ := am_lk_eq _
set_option maxRecDepth 100000 in
set_option maxHeartbeats 4000000 in
theorem s_H_hasMinute_1 (G : am_G) (x1 : Int32) (σ : am_St) (r : Int32 × am_St) (Q : am_AQ) (e : f_H_hasMinute_1 x1 σ = some r) (hr : am_Pi r Q) : am_AW G M_H_hasMinute 0 [(0, .ref 1), (1, .int x1)] [] σ Q :=
  (show am_Snd G M_H_hasMinute 0 am_Pi _ from (sn_iload_n (pc := 0) (i := 1) dX3_hasMinute_0 rfl (sn_if_lt (pc := 1) (tgt := 16) dX3_hasMinute_1 rfl (sn_iconst (pc := 16) (v := 0) dX3_hasMinute_16 rfl (sn_retz (pc := 17) (R := fun x τ => (some ((x, τ)))) dX3_hasMinute_17 rfl (fun _ _ _ _ e h => by cases e; exact h))) (sn_iload_n (pc := 4) (i := 1) dX3_hasMinute_4 rfl (sn_aload_n (pc := 5) (i := 0) dX3_hasMinute_5 rfl (sn_gI (pc := 6) (h := 1) (f := 1) dX3_hasMinute_6 am_CL_3 sh_1 rfl (Nat.le_of_ble_eq_true rfl) tw_78 (sn_icmp_ge (pc := 9) (tgt := 16) dX3_hasMinute_9 rfl (sn_iconst (pc := 16) (v := 0) dX3_hasMinute_16 rfl (sn_retz (pc := 17) (R := fun x τ => (some ((x, τ)))) dX3_hasMinute_17 rfl (fun _ _ _ _ e h => by cases e; exact h))) (sn_iconst (pc := 12) (v := 1) dX3_hasMinute_12 rfl (sn_goto (pc := 13) (tgt := 17) dX3_hasMinute_13 rfl (sn_retz (pc := 17) (R := fun x τ => (some ((x, τ)))) dX3_hasMinute_17 rfl (fun _ _ _ _ e h => by cases e; exact h))))))))))) _ _ _ _ _ ((eq_H_hasMinute_1 x1 σ).symm.trans e) hr
noncomputable def cF_H_hasMinute_1 : am_Fn := fun _ args σ K => match args with
  | [.ref q0, .int z1] => match Nat.beq q0 1 with
    | true => (f_H_hasMinute_1 z1 σ).bind (fun p => K (some (.int p.1)) p.2)
    | _ => none
  | _ => none
theorem cal_H_hasMinute_1 (G : am_G) : am_Cal G M_H_hasMinute cF_H_hasMinute_1 := by
  intro ρ args σ K r e
  unfold cF_H_hasMinute_1 at e
  split at e
  · split at e
    · rename_i hq0
      obtain ⟨p, h1, h2⟩ := am_bind_some e
      rw [Nat.eq_of_beq_eq_true hq0]
      exact ⟨some (.int p.1), p.2, am_Met.of rfl (Nat.le_of_ble_eq_true rfl) (s_H_hasMinute_1 G _ σ p _ h1 ⟨rfl, rfl⟩), h2⟩
    · cases e
  · cases e
abbrev M_H_placeOf : am_MD := (yX3_placeOf, cX3_placeOf, 3, (some .int), 1, 21)
theorem dX3_placeOf_0 : decode cX3_placeOf 0 = .ok (.aload_n 0, 1) := by decide +kernel
theorem dX3_placeOf_1 : decode cX3_placeOf 1 = .ok (.iload_n 1, 1) := by decide +kernel
theorem dX3_placeOf_2 : decode cX3_placeOf 2 = .ok (.invokevirtual 139, 3) := by decide +kernel
theorem dX3_placeOf_5 : decode cX3_placeOf 5 = .ok (.ifCond .eq 25, 3) := by decide +kernel
theorem dX3_placeOf_8 : decode cX3_placeOf 8 = .ok (.aload_n 0, 1) := by decide +kernel
theorem dX3_placeOf_9 : decode cX3_placeOf 9 = .ok (.iload_n 2, 1) := by decide +kernel
theorem dX3_placeOf_10 : decode cX3_placeOf 10 = .ok (.invokevirtual 142, 3) := by decide +kernel
theorem dX3_placeOf_13 : decode cX3_placeOf 13 = .ok (.ifCond .eq 17, 3) := by decide +kernel
theorem dX3_placeOf_16 : decode cX3_placeOf 16 = .ok (.aload_n 0, 1) := by decide +kernel
theorem dX3_placeOf_17 : decode cX3_placeOf 17 = .ok (.getfield 34, 3) := by decide +kernel
theorem dX3_placeOf_20 : decode cX3_placeOf 20 = .ok (.iload_n 1, 1) := by decide +kernel
theorem dX3_placeOf_21 : decode cX3_placeOf 21 = .ok (.bipush 6, 2) := by decide +kernel
theorem dX3_placeOf_23 : decode cX3_placeOf 23 = .ok (.imul, 1) := by decide +kernel
theorem dX3_placeOf_24 : decode cX3_placeOf 24 = .ok (.iload_n 2, 1) := by decide +kernel
theorem dX3_placeOf_25 : decode cX3_placeOf 25 = .ok (.iadd, 1) := by decide +kernel
theorem dX3_placeOf_26 : decode cX3_placeOf 26 = .ok (.iaload, 1) := by decide +kernel
theorem dX3_placeOf_27 : decode cX3_placeOf 27 = .ok (.goto 5, 3) := by decide +kernel
theorem dX3_placeOf_30 : decode cX3_placeOf 30 = .ok (.bipush (-9), 2) := by decide +kernel
theorem dX3_placeOf_32 : decode cX3_placeOf 32 = .ok (.ireturn, 1) := by decide +kernel
noncomputable def g_H_placeOf_1 (x1 : Int32) (x2 : Int32) (σ : am_St) : Option (Int32 × am_St) :=
  (f_H_hasChild_1 x1 σ).bind (fun p1 =>
    if p1.1 = 0 then
      some (((-9), p1.2))
    else
      (f_H_hasMinute_1 x2 p1.2).bind (fun p2 =>
        if p2.1 = 0 then
          some (((-9), p2.2))
        else
          if am_ix ((x1 * 6) + x2) 24 = true then
            some ((p2.2.1 7 ((x1 * 6) + x2).toNatClampNeg, p2.2))
          else none))
noncomputable def f_H_placeOf_1 (x1 : Int32) (x2 : Int32) (σ : am_St) : Option (Int32 × am_St) := am_lk (g_H_placeOf_1 x1 x2 σ)
theorem eq_H_placeOf_1 (x1 : Int32) (x2 : Int32) (σ : am_St) : f_H_placeOf_1 x1 x2 σ = g_H_placeOf_1 x1 x2 σ := am_lk_eq _
set_option maxRecDepth 100000 in
set_option maxHeartbeats 4000000 in
theorem s_H_placeOf_1 (G : am_G) (x1 : Int32) (x2 : Int32) (σ : am_St) (r : Int32 × am_St) (Q : am_AQ) (e : f_H_placeOf_1 x1 x2 σ = some r) (hr : am_Pi r Q) : am_AW G M_H_placeOf 0 [(0, .ref 1), (1, .int x1), (2, .int x2)] [] σ Q :=
  (show am_Snd G M_H_placeOf 0 am_Pi _ from (sn_aload_n (pc := 0) (i := 0) dX3_placeOf_0 rfl (sn_iload_n (pc := 1) (i := 1) dX3_placeOf_1 rfl (sn_callV (pc := 2) (N := M_H_hasChild) dX3_placeOf_2 (cal_H_hasChild_1 G) sh_1 rfl tw_396 tw_385 tw_386 tw_2 tw_387 dsc_X3_hasChild rfl (sn_if_eq (pc := 5) (tgt := 30) dX3_placeOf_5 rfl (sn_bipush (pc := 30) (v := (-9)) dX3_placeOf_30 (show (Int8.ofInt (-9)).toInt32 = (-9) by decide) (sn_reti (pc := 32) (R := fun x τ => (some ((x, τ)))) dX3_placeOf_32 rfl (fun _ _ _ _ e h => by cases e; exact h))) (sn_aload_n (pc := 8) (i := 0) dX3_placeOf_8 rfl (sn_iload_n (pc := 9) (i := 2) dX3_placeOf_9 rfl (sn_callV (pc := 10) (N := M_H_hasMinute) dX3_placeOf_10 (cal_H_hasMinute_1 G) sh_1 rfl tw_397 tw_398 tw_399 tw_2 tw_400 dsc_X3_hasMinute rfl (sn_if_eq (pc := 13) (tgt := 30) dX3_placeOf_13 rfl (sn_bipush (pc := 30) (v := (-9)) dX3_placeOf_30 (show (Int8.ofInt (-9)).toInt32 = (-9) by decide) (sn_reti (pc := 32) (R := fun x τ => (some ((x, τ)))) dX3_placeOf_32 rfl (fun _ _ _ _ e h => by cases e; exact h))) (sn_aload_n (pc := 16) (i := 0) dX3_placeOf_16 rfl (sn_gR (r0 := 7) (pc := 17) (h := 1) (f := 12) dX3_placeOf_17 am_CL_3 sh_1 rfl (Nat.le_of_ble_eq_true rfl) tw_112 (sn_iload_n (pc := 20) (i := 1) dX3_placeOf_20 rfl (sn_bipush (pc := 21) (v := 6) dX3_placeOf_21 rfl (sn_imul (pc := 23) dX3_placeOf_23 (sn_iload_n (pc := 24) (i := 2) dX3_placeOf_24 rfl (sn_iadd (pc := 25) dX3_placeOf_25 (sn_aI (pc := 26) (h := 7) dX3_placeOf_26 sh_7 (sn_goto (pc := 27) (tgt := 32) dX3_placeOf_27 rfl (sn_reti (pc := 32) (R := fun x τ => (some ((x, τ)))) dX3_placeOf_32 rfl (fun _ _ _ _ e h => by cases e; exact h)))))))))))))))))))) _ _ _ _ _ ((eq_H_placeOf_1 x1 x2 σ).symm.trans e) hr
noncomputable def cF_H_placeOf_1 : am_Fn := fun _ args σ K => match args with
  | [.ref q0, .int z1, .int z2] => match Nat.beq q0 1 with
    | true => (f_H_placeOf_1 z1 z2 σ).bind (fun p => K (some (.int p.1)) p.2)
    | _ => none
  | _ => none
theorem cal_H_placeOf_1 (G : am_G) : am_Cal G M_H_placeOf cF_H_placeOf_1 := by
  intro ρ args σ K r e
  unfold cF_H_placeOf_1 at e
  split at e
  · split at e
    · rename_i hq0
      obtain ⟨p, h1, h2⟩ := am_bind_some e
      rw [Nat.eq_of_beq_eq_true hq0]
      exact ⟨some (.int p.1), p.2, am_Met.of rfl (Nat.le_of_ble_eq_true rfl) (s_H_placeOf_1 G _ _ σ p _ h1 ⟨rfl, rfl⟩), h2⟩
    · cases e
  · cases e
abbrev M_X_was : am_MD := (yX11_was, cX11_was, 3, (some .int), 2, 43)
theorem dX11_was_0 : decode cX11_was 0 = .ok (.aload_n 0, 1) := by decide +kernel
theorem dX11_was_1 : decode cX11_was 1 = .ok (.getfield 10, 3) := by decide +kernel
theorem dX11_was_4 : decode cX11_was 4 = .ok (.iload_n 1, 1) := by decide +kernel
theorem dX11_was_5 : decode cX11_was 5 = .ok (.invokevirtual 81, 3) := by decide +kernel
theorem dX11_was_8 : decode cX11_was 8 = .ok (.ifCond .eq 14, 3) := by decide +kernel
theorem dX11_was_11 : decode cX11_was 11 = .ok (.aload_n 0, 1) := by decide +kernel
theorem dX11_was_12 : decode cX11_was 12 = .ok (.getfield 10, 3) := by decide +kernel
theorem dX11_was_15 : decode cX11_was 15 = .ok (.iload_n 2, 1) := by decide +kernel
theorem dX11_was_16 : decode cX11_was 16 = .ok (.invokevirtual 103, 3) := by decide +kernel
theorem dX11_was_19 : decode cX11_was 19 = .ok (.ifCond .ne 9, 3) := by decide +kernel
theorem dX11_was_22 : decode cX11_was 22 = .ok (.aload_n 0, 1) := by decide +kernel
theorem dX11_was_23 : decode cX11_was 23 = .ok (.iconst (-1), 1) := by decide +kernel
theorem dX11_was_24 : decode cX11_was 24 = .ok (.invokevirtual 55, 3) := by decide +kernel
theorem dX11_was_27 : decode cX11_was 27 = .ok (.ireturn, 1) := by decide +kernel
theorem dX11_was_28 : decode cX11_was 28 = .ok (.aload_n 0, 1) := by decide +kernel
theorem dX11_was_29 : decode cX11_was 29 = .ok (.getfield 10, 3) := by decide +kernel
theorem dX11_was_32 : decode cX11_was 32 = .ok (.iload_n 1, 1) := by decide +kernel
theorem dX11_was_33 : decode cX11_was 33 = .ok (.iload_n 2, 1) := by decide +kernel
theorem dX11_was_34 : decode cX11_was 34 = .ok (.invokevirtual 106, 3) := by decide +kernel
theorem dX11_was_37 : decode cX11_was 37 = .ok (.ireturn, 1) := by decide +kernel
noncomputable def g_X_was_22 (σ : am_St) : Option (Int32 × am_St) :=
  (f_X_refuse (-1) σ).bind (fun p1 =>
    some ((p1.1, p1.2)))
noncomputable def f_X_was_22 (σ : am_St) : Option (Int32 × am_St) := am_lk (g_X_was_22  σ)
theorem eq_X_was_22 (σ : am_St) : f_X_was_22  σ = g_X_was_22  σ := am_lk_eq _
set_option maxRecDepth 100000 in
set_option maxHeartbeats 4000000 in
theorem s_X_was_22 (G : am_G) (σ : am_St) (r : Int32 × am_St) (Q : am_AQ) (e : f_X_was_22  σ = some r) (hr : am_Pi r Q) : am_AW G M_X_was 22 [(0, .ref 0)] [] σ Q :=
  (show am_Snd G M_X_was 22 am_Pi _ from (sn_aload_n (pc := 22) (i := 0) dX11_was_22 rfl (sn_iconst (pc := 23) (v := (-1)) dX11_was_23 (show Int32.ofInt (-1) = (-1) by decide) (sn_callV (pc := 24) (N := M_X_refuse) dX11_was_24 (cal_X_refuse G) sh_0 rfl tw_251 tw_253 tp_0 tw_1 tw_254 dsc_X11_refuse rfl (sn_reti (pc := 27) (R := fun x τ => (some ((x, τ)))) dX11_was_27 rfl (fun _ _ _ _ e h => by cases e; exact h)))))) _ _ _ _ _ ((eq_X_was_22  σ).symm.trans e) hr
noncomputable def g_X_was (x1 : Int32) (x2 : Int32) (σ : am_St) : Option (Int32 × am_St) :=
  (f_H_hasChild_1 x1 σ).bind (fun p1 =>
    if p1.1 = 0 then
      f_X_was_22 p1.2
    else
      (f_H_hasMinute_1 x2 p1.2).bind (fun p2 =>
        if p2.1 = 0 then
          f_X_was_22 p2.2
        else
          (f_H_placeOf_1 x1 x2 p2.2).bind (fun p3 =>
            some ((p3.1, p3.2)))))
noncomputable def f_X_was (x1 : Int32) (x2 : Int32) (σ : am_St) : Option (Int32 × am_St) := am_lk (g_X_was x1 x2 σ)
theorem eq_X_was (x1 : Int32) (x2 : Int32) (σ : am_St) : f_X_was x1 x2 σ = g_X_was x1 x2 σ := am_lk_eq _
set_option maxRecDepth 100000 in
set_option maxHeartbeats 4000000 in
theorem s_X_was (G : am_G) (x1 : Int32) (x2 : Int32) (σ : am_St) (r : Int32 × am_St) (Q : am_AQ) (e : f_X_was x1 x2 σ = some r) (hr : am_Pi r Q) : am_AW G M_X_was 0 [(0, .ref 0), (1, .int x1), (2, .int x2)] [] σ Q :=
  (show am_Snd G M_X_was 0 am_Pi _ from (sn_aload_n (pc := 0) (i := 0) dX11_was_0 rfl (sn_gR (r0 := 1) (pc := 1) (h := 0) (f := 0) dX11_was_1 am_CL_10 sh_0 rfl (Nat.le_of_ble_eq_true rfl) tw_219 (sn_iload_n (pc := 4) (i := 1) dX11_was_4 rfl (sn_callV (pc := 5) (N := M_H_hasChild) dX11_was_5 (cal_H_hasChild_1 G) sh_1 rfl tw_434 tw_385 tw_386 tw_2 tw_387 dsc_X3_hasChild rfl (sn_if_eq (pc := 8) (tgt := 22) dX11_was_8 rfl (sn_lf (pc := 22) (ln_a (i := 0) (q := 0) (ln_end (o := fun τ => f_X_was_22 τ) (fun _ _ _ e h => s_X_was_22 G  _ _ _ e h)))) (sn_aload_n (pc := 11) (i := 0) dX11_was_11 rfl (sn_gR (r0 := 1) (pc := 12) (h := 0) (f := 0) dX11_was_12 am_CL_10 sh_0 rfl (Nat.le_of_ble_eq_true rfl) tw_219 (sn_iload_n (pc := 15) (i := 2) dX11_was_15 rfl (sn_callV (pc := 16) (N := M_H_hasMinute) dX11_was_16 (cal_H_hasMinute_1 G) sh_1 rfl tw_520 tw_398 tw_399 tw_2 tw_400 dsc_X3_hasMinute rfl (sn_if_ne (pc := 19) (tgt := 28) dX11_was_19 rfl (sn_aload_n (pc := 28) (i := 0) dX11_was_28 rfl (sn_gR (r0 := 1) (pc := 29) (h := 0) (f := 0) dX11_was_29 am_CL_10 sh_0 rfl (Nat.le_of_ble_eq_true rfl) tw_219 (sn_iload_n (pc := 32) (i := 1) dX11_was_32 rfl (sn_iload_n (pc := 33) (i := 2) dX11_was_33 rfl (sn_callV (pc := 34) (N := M_H_placeOf) dX11_was_34 (cal_H_placeOf_1 G) sh_1 rfl tw_521 tw_522 tw_523 tw_2 tw_524 dsc_X3_placeOf rfl (sn_reti (pc := 37) (R := fun x τ => (some ((x, τ)))) dX11_was_37 rfl (fun _ _ _ _ e h => by cases e; exact h))))))) (sn_lf (pc := 22) (ln_a (i := 0) (q := 0) (ln_end (o := fun τ => f_X_was_22 τ) (fun _ _ _ e h => s_X_was_22 G  _ _ _ e h))))))))))))))) _ _ _ _ _ ((eq_X_was x1 x2 σ).symm.trans e) hr
noncomputable def cF_X_was : am_Fn := fun _ args σ K => match args with
  | [.ref q0, .int z1, .int z2] => match Nat.beq q0 0 with
    | true => (f_X_was z1 z2 σ).bind (fun p => K (some (.int p.1)) p.2)
    | _ => none
  | _ => none
theorem cal_X_was (G : am_G) : am_Cal G M_X_was cF_X_was := by
  intro ρ args σ K r e
  unfold cF_X_was at e
  split at e
  · split at e
    · rename_i hq0
      obtain ⟨p, h1, h2⟩ := am_bind_some e
      rw [Nat.eq_of_beq_eq_true hq0]
      exact ⟨some (.int p.1), p.2, am_Met.of rfl (Nat.le_of_ble_eq_true rfl) (s_X_was G _ _ σ p _ h1 ⟨rfl, rfl⟩), h2⟩
    · cases e
  · cases e
noncomputable def g_H_hasRoom_1 (x1 : Int32) (σ : am_St) : Option (Int32 × am_St) :=
  if x1 < 0 then
    some ((0, σ))
  else
    if (σ.1 1 0) ≤ x1 then
      some ((0, σ))
    else
      some ((1, σ))
noncomputable def f_H_hasRoom_1 (x1 : Int32) (σ : am_St) : Option (Int32 × am_St) := am_lk (g_H_hasRoom_1 x1 σ)
theorem eq_H_hasRoom_1 (x1 : Int32) (σ : am_St) : f_H_hasRoom_1 x1 σ = g_H_hasRoom_1 x1 σ := am_lk_eq _
set_option maxRecDepth 100000 in
set_option maxHeartbeats 4000000 in
theorem s_H_hasRoom_1 (G : am_G) (x1 : Int32) (σ : am_St) (r : Int32 × am_St) (Q : am_AQ) (e : f_H_hasRoom_1 x1 σ = some r) (hr : am_Pi r Q) : am_AW G M_H_hasRoom 0 [(0, .ref 1), (1, .int x1)] [] σ Q :=
  (show am_Snd G M_H_hasRoom 0 am_Pi _ from (sn_iload_n (pc := 0) (i := 1) dX3_hasRoom_0 rfl (sn_if_lt (pc := 1) (tgt := 16) dX3_hasRoom_1 rfl (sn_iconst (pc := 16) (v := 0) dX3_hasRoom_16 rfl (sn_retz (pc := 17) (R := fun x τ => (some ((x, τ)))) dX3_hasRoom_17 rfl (fun _ _ _ _ e h => by cases e; exact h))) (sn_iload_n (pc := 4) (i := 1) dX3_hasRoom_4 rfl (sn_aload_n (pc := 5) (i := 0) dX3_hasRoom_5 rfl (sn_gI (pc := 6) (h := 1) (f := 0) dX3_hasRoom_6 am_CL_3 sh_1 rfl (Nat.le_of_ble_eq_true rfl) tw_75 (sn_icmp_ge (pc := 9) (tgt := 16) dX3_hasRoom_9 rfl (sn_iconst (pc := 16) (v := 0) dX3_hasRoom_16 rfl (sn_retz (pc := 17) (R := fun x τ => (some ((x, τ)))) dX3_hasRoom_17 rfl (fun _ _ _ _ e h => by cases e; exact h))) (sn_iconst (pc := 12) (v := 1) dX3_hasRoom_12 rfl (sn_goto (pc := 13) (tgt := 17) dX3_hasRoom_13 rfl (sn_retz (pc := 17) (R := fun x τ => (some ((x, τ)))) dX3_hasRoom_17 rfl (fun _ _ _ _ e h => by cases e; exact h))))))))))) _ _ _ _ _ ((eq_H_hasRoom_1 x1 σ).symm.trans e) hr
noncomputable def cF_H_hasRoom_1 : am_Fn := fun _ args σ K => match args with
  | [.ref q0, .int z1] => match Nat.beq q0 1 with
    | true => (f_H_hasRoom_1 z1 σ).bind (fun p => K (some (.int p.1)) p.2)
    | _ => none
  | _ => none
theorem cal_H_hasRoom_1 (G : am_G) : am_Cal G M_H_hasRoom cF_H_hasRoom_1 := by
  intro ρ args σ K r e
  unfold cF_H_hasRoom_1 at e
  split at e
  · split at e
    · rename_i hq0
      obtain ⟨p, h1, h2⟩ := am_bind_some e
      rw [Nat.eq_of_beq_eq_true hq0]
      exact ⟨some (.int p.1), p.2, am_Met.of rfl (Nat.le_of_ble_eq_true rfl) (s_H_hasRoom_1 G _ σ p _ h1 ⟨rfl, rfl⟩), h2⟩
    · cases e
  · cases e
noncomputable def g_H_isStep_1 (x1 : Int32) (x2 : Int32) (σ : am_St) : Option (Int32 × am_St) :=
  (f_H_hasRoom_1 x1 σ).bind (fun p1 =>
    if p1.1 = 0 then
      some ((0, p1.2))
    else
      (f_H_hasRoom_1 x2 p1.2).bind (fun p2 =>
        if p2.1 = 0 then
          some ((0, p2.2))
        else
          if x1 = x2 then
            some ((1, p2.2))
          else
            if am_ix x1 4 = true then
              if (((p2.2.1 2 x1.toNatClampNeg) >>> (x2 &&& 31)) &&& 1) = 1 then
                some ((1, p2.2))
              else
                some ((0, p2.2))
            else none))
noncomputable def f_H_isStep_1 (x1 : Int32) (x2 : Int32) (σ : am_St) : Option (Int32 × am_St) := am_lk (g_H_isStep_1 x1 x2 σ)
theorem eq_H_isStep_1 (x1 : Int32) (x2 : Int32) (σ : am_St) : f_H_isStep_1 x1 x2 σ = g_H_isStep_1 x1 x2 σ := am_lk_eq _
set_option maxRecDepth 100000 in
set_option maxHeartbeats 4000000 in
theorem s_H_isStep_1 (G : am_G) (x1 : Int32) (x2 : Int32) (σ : am_St) (r : Int32 × am_St) (Q : am_AQ) (e : f_H_isStep_1 x1 x2 σ = some r) (hr : am_Pi r Q) : am_AW G M_H_isStep 0 [(0, .ref 1), (1, .int x1), (2, .int x2)] [] σ Q :=
  (show am_Snd G M_H_isStep 0 am_Pi _ from (sn_aload_n (pc := 0) (i := 0) dX3_isStep_0 rfl (sn_iload_n (pc := 1) (i := 1) dX3_isStep_1 rfl (sn_callV (pc := 2) (N := M_H_hasRoom) dX3_isStep_2 (cal_H_hasRoom_1 G) sh_1 rfl tw_331 tw_324 tw_325 tw_2 tw_326 dsc_X3_hasRoom rfl (sn_if_eq (pc := 5) (tgt := 39) dX3_isStep_5 rfl (sn_iconst (pc := 39) (v := 0) dX3_isStep_39 rfl (sn_retz (pc := 40) (R := fun x τ => (some ((x, τ)))) dX3_isStep_40 rfl (fun _ _ _ _ e h => by cases e; exact h))) (sn_aload_n (pc := 8) (i := 0) dX3_isStep_8 rfl (sn_iload_n (pc := 9) (i := 2) dX3_isStep_9 rfl (sn_callV (pc := 10) (N := M_H_hasRoom) dX3_isStep_10 (cal_H_hasRoom_1 G) sh_1 rfl tw_331 tw_324 tw_325 tw_2 tw_326 dsc_X3_hasRoom rfl (sn_if_eq (pc := 13) (tgt := 39) dX3_isStep_13 rfl (sn_iconst (pc := 39) (v := 0) dX3_isStep_39 rfl (sn_retz (pc := 40) (R := fun x τ => (some ((x, τ)))) dX3_isStep_40 rfl (fun _ _ _ _ e h => by cases e; exact h))) (sn_iload_n (pc := 16) (i := 1) dX3_isStep_16 rfl (sn_iload_n (pc := 17) (i := 2) dX3_isStep_17 rfl (sn_icmp_eq (pc := 18) (tgt := 35) dX3_isStep_18 rfl (sn_iconst (pc := 35) (v := 1) dX3_isStep_35 rfl (sn_goto (pc := 36) (tgt := 40) dX3_isStep_36 rfl (sn_retz (pc := 40) (R := fun x τ => (some ((x, τ)))) dX3_isStep_40 rfl (fun _ _ _ _ e h => by cases e; exact h)))) (sn_aload_n (pc := 21) (i := 0) dX3_isStep_21 rfl (sn_gR (r0 := 2) (pc := 22) (h := 1) (f := 7) dX3_isStep_22 am_CL_3 sh_1 rfl (Nat.le_of_ble_eq_true rfl) tw_107 (sn_iload_n (pc := 25) (i := 1) dX3_isStep_25 rfl (sn_aI (pc := 26) (h := 2) dX3_isStep_26 sh_2 (sn_iload_n (pc := 27) (i := 2) dX3_isStep_27 rfl (sn_ishr (pc := 28) dX3_isStep_28 (sn_iconst (pc := 29) (v := 1) dX3_isStep_29 rfl (sn_iand (pc := 30) dX3_isStep_30 (sn_iconst (pc := 31) (v := 1) dX3_isStep_31 rfl (sn_icmp_ne (pc := 32) (tgt := 39) dX3_isStep_32 rfl (sn_iconst (pc := 39) (v := 0) dX3_isStep_39 rfl (sn_retz (pc := 40) (R := fun x τ => (some ((x, τ)))) dX3_isStep_40 rfl (fun _ _ _ _ e h => by cases e; exact h))) (sn_iconst (pc := 35) (v := 1) dX3_isStep_35 rfl (sn_goto (pc := 36) (tgt := 40) dX3_isStep_36 rfl (sn_retz (pc := 40) (R := fun x τ => (some ((x, τ)))) dX3_isStep_40 rfl (fun _ _ _ _ e h => by cases e; exact h)))))))))))))))))))))))))) _ _ _ _ _ ((eq_H_isStep_1 x1 x2 σ).symm.trans e) hr
noncomputable def cF_H_isStep_1 : am_Fn := fun _ args σ K => match args with
  | [.ref q0, .int z1, .int z2] => match Nat.beq q0 1 with
    | true => (f_H_isStep_1 z1 z2 σ).bind (fun p => K (some (.int p.1)) p.2)
    | _ => none
  | _ => none
theorem cal_H_isStep_1 (G : am_G) : am_Cal G M_H_isStep cF_H_isStep_1 := by
  intro ρ args σ K r e
  unfold cF_H_isStep_1 at e
  split at e
  · split at e
    · rename_i hq0
      obtain ⟨p, h1, h2⟩ := am_bind_some e
      rw [Nat.eq_of_beq_eq_true hq0]
      exact ⟨some (.int p.1), p.2, am_Met.of rfl (Nat.le_of_ble_eq_true rfl) (s_H_isStep_1 G _ _ σ p _ h1 ⟨rfl, rfl⟩), h2⟩
    · cases e
  · cases e
abbrev M_X_door : am_MD := (yX11_door, cX11_door, 3, (some .int), 2, 43)
theorem dX11_door_0 : decode cX11_door 0 = .ok (.aload_n 0, 1) := by decide +kernel
theorem dX11_door_1 : decode cX11_door 1 = .ok (.getfield 10, 3) := by decide +kernel
theorem dX11_door_4 : decode cX11_door 4 = .ok (.iload_n 1, 1) := by decide +kernel
theorem dX11_door_5 : decode cX11_door 5 = .ok (.invokevirtual 110, 3) := by decide +kernel
theorem dX11_door_8 : decode cX11_door 8 = .ok (.ifCond .eq 19, 3) := by decide +kernel
theorem dX11_door_11 : decode cX11_door 11 = .ok (.aload_n 0, 1) := by decide +kernel
theorem dX11_door_12 : decode cX11_door 12 = .ok (.getfield 10, 3) := by decide +kernel
theorem dX11_door_15 : decode cX11_door 15 = .ok (.iload_n 2, 1) := by decide +kernel
theorem dX11_door_16 : decode cX11_door 16 = .ok (.invokevirtual 110, 3) := by decide +kernel
theorem dX11_door_19 : decode cX11_door 19 = .ok (.ifCond .eq 8, 3) := by decide +kernel
theorem dX11_door_22 : decode cX11_door 22 = .ok (.iload_n 1, 1) := by decide +kernel
theorem dX11_door_23 : decode cX11_door 23 = .ok (.iload_n 2, 1) := by decide +kernel
theorem dX11_door_24 : decode cX11_door 24 = .ok (.if_icmp .ne 9, 3) := by decide +kernel
theorem dX11_door_27 : decode cX11_door 27 = .ok (.aload_n 0, 1) := by decide +kernel
theorem dX11_door_28 : decode cX11_door 28 = .ok (.iconst (-1), 1) := by decide +kernel
theorem dX11_door_29 : decode cX11_door 29 = .ok (.invokevirtual 55, 3) := by decide +kernel
theorem dX11_door_32 : decode cX11_door 32 = .ok (.ireturn, 1) := by decide +kernel
theorem dX11_door_33 : decode cX11_door 33 = .ok (.aload_n 0, 1) := by decide +kernel
theorem dX11_door_34 : decode cX11_door 34 = .ok (.getfield 10, 3) := by decide +kernel
theorem dX11_door_37 : decode cX11_door 37 = .ok (.iload_n 1, 1) := by decide +kernel
theorem dX11_door_38 : decode cX11_door 38 = .ok (.iload_n 2, 1) := by decide +kernel
theorem dX11_door_39 : decode cX11_door 39 = .ok (.invokevirtual 113, 3) := by decide +kernel
theorem dX11_door_42 : decode cX11_door 42 = .ok (.invokestatic 117, 3) := by decide +kernel
theorem dX11_door_45 : decode cX11_door 45 = .ok (.ireturn, 1) := by decide +kernel
noncomputable def g_X_door_27 (σ : am_St) : Option (Int32 × am_St) :=
  (f_X_refuse (-1) σ).bind (fun p1 =>
    some ((p1.1, p1.2)))
noncomputable def f_X_door_27 (σ : am_St) : Option (Int32 × am_St) := am_lk (g_X_door_27  σ)
theorem eq_X_door_27 (σ : am_St) : f_X_door_27  σ = g_X_door_27  σ := am_lk_eq _
set_option maxRecDepth 100000 in
set_option maxHeartbeats 4000000 in
theorem s_X_door_27 (G : am_G) (σ : am_St) (r : Int32 × am_St) (Q : am_AQ) (e : f_X_door_27  σ = some r) (hr : am_Pi r Q) : am_AW G M_X_door 27 [(0, .ref 0)] [] σ Q :=
  (show am_Snd G M_X_door 27 am_Pi _ from (sn_aload_n (pc := 27) (i := 0) dX11_door_27 rfl (sn_iconst (pc := 28) (v := (-1)) dX11_door_28 (show Int32.ofInt (-1) = (-1) by decide) (sn_callV (pc := 29) (N := M_X_refuse) dX11_door_29 (cal_X_refuse G) sh_0 rfl tw_251 tw_253 tp_0 tw_1 tw_254 dsc_X11_refuse rfl (sn_reti (pc := 32) (R := fun x τ => (some ((x, τ)))) dX11_door_32 rfl (fun _ _ _ _ e h => by cases e; exact h)))))) _ _ _ _ _ ((eq_X_door_27  σ).symm.trans e) hr
noncomputable def g_X_door_33 (x1 : Int32) (x2 : Int32) (σ : am_St) : Option (Int32 × am_St) :=
  (f_H_isStep_1 x1 x2 σ).bind (fun p1 =>
    (f_X_bit p1.1 p1.2).bind (fun p2 =>
      some ((p2.1, p2.2))))
noncomputable def f_X_door_33 (x1 : Int32) (x2 : Int32) (σ : am_St) : Option (Int32 × am_St) := am_lk (g_X_door_33 x1 x2 σ)
theorem eq_X_door_33 (x1 : Int32) (x2 : Int32) (σ : am_St) : f_X_door_33 x1 x2 σ = g_X_door_33 x1 x2 σ := am_lk_eq _
set_option maxRecDepth 100000 in
set_option maxHeartbeats 4000000 in
theorem s_X_door_33 (G : am_G) (x1 : Int32) (x2 : Int32) (σ : am_St) (r : Int32 × am_St) (Q : am_AQ) (e : f_X_door_33 x1 x2 σ = some r) (hr : am_Pi r Q) : am_AW G M_X_door 33 [(2, .int x2), (1, .int x1), (0, .ref 0)] [] σ Q :=
  (show am_Snd G M_X_door 33 am_Pi _ from (sn_aload_n (pc := 33) (i := 0) dX11_door_33 rfl (sn_gR (r0 := 1) (pc := 34) (h := 0) (f := 0) dX11_door_34 am_CL_10 sh_0 rfl (Nat.le_of_ble_eq_true rfl) tw_219 (sn_iload_n (pc := 37) (i := 1) dX11_door_37 rfl (sn_iload_n (pc := 38) (i := 2) dX11_door_38 rfl (sn_callV (pc := 39) (N := M_H_isStep) dX11_door_39 (cal_H_isStep_1 G) sh_1 rfl tw_530 tw_389 tw_390 tw_2 tw_391 dsc_X3_isStep rfl (sn_callS (pc := 42) (N := M_X_bit) dX11_door_42 (cal_X_bit G) tw_531 tw_412 tw_1 tw_413 dsc_X11_bit rfl (sn_reti (pc := 45) (R := fun x τ => (some ((x, τ)))) dX11_door_45 rfl (fun _ _ _ _ e h => by cases e; exact h))))))))) _ _ _ _ _ ((eq_X_door_33 x1 x2 σ).symm.trans e) hr
noncomputable def g_X_door (x1 : Int32) (x2 : Int32) (σ : am_St) : Option (Int32 × am_St) :=
  (f_H_hasRoom_1 x1 σ).bind (fun p1 =>
    if p1.1 = 0 then
      f_X_door_27 p1.2
    else
      (f_H_hasRoom_1 x2 p1.2).bind (fun p2 =>
        if p2.1 = 0 then
          f_X_door_27 p2.2
        else
          if x1 = x2 then
            f_X_door_27 p2.2
          else
            f_X_door_33 x1 x2 p2.2))
noncomputable def f_X_door (x1 : Int32) (x2 : Int32) (σ : am_St) : Option (Int32 × am_St) := am_lk (g_X_door x1 x2 σ)
theorem eq_X_door (x1 : Int32) (x2 : Int32) (σ : am_St) : f_X_door x1 x2 σ = g_X_door x1 x2 σ := am_lk_eq _
set_option maxRecDepth 100000 in
set_option maxHeartbeats 4000000 in
theorem s_X_door (G : am_G) (x1 : Int32) (x2 : Int32) (σ : am_St) (r : Int32 × am_St) (Q : am_AQ) (e : f_X_door x1 x2 σ = some r) (hr : am_Pi r Q) : am_AW G M_X_door 0 [(0, .ref 0), (1, .int x1), (2, .int x2)] [] σ Q :=
  (show am_Snd G M_X_door 0 am_Pi _ from (sn_aload_n (pc := 0) (i := 0) dX11_door_0 rfl (sn_gR (r0 := 1) (pc := 1) (h := 0) (f := 0) dX11_door_1 am_CL_10 sh_0 rfl (Nat.le_of_ble_eq_true rfl) tw_219 (sn_iload_n (pc := 4) (i := 1) dX11_door_4 rfl (sn_callV (pc := 5) (N := M_H_hasRoom) dX11_door_5 (cal_H_hasRoom_1 G) sh_1 rfl tw_529 tw_324 tw_325 tw_2 tw_326 dsc_X3_hasRoom rfl (sn_if_eq (pc := 8) (tgt := 27) dX11_door_8 rfl (sn_lf (pc := 27) (ln_a (i := 0) (q := 0) (ln_end (o := fun τ => f_X_door_27 τ) (fun _ _ _ e h => s_X_door_27 G  _ _ _ e h)))) (sn_aload_n (pc := 11) (i := 0) dX11_door_11 rfl (sn_gR (r0 := 1) (pc := 12) (h := 0) (f := 0) dX11_door_12 am_CL_10 sh_0 rfl (Nat.le_of_ble_eq_true rfl) tw_219 (sn_iload_n (pc := 15) (i := 2) dX11_door_15 rfl (sn_callV (pc := 16) (N := M_H_hasRoom) dX11_door_16 (cal_H_hasRoom_1 G) sh_1 rfl tw_529 tw_324 tw_325 tw_2 tw_326 dsc_X3_hasRoom rfl (sn_if_eq (pc := 19) (tgt := 27) dX11_door_19 rfl (sn_lf (pc := 27) (ln_a (i := 0) (q := 0) (ln_end (o := fun τ => f_X_door_27 τ) (fun _ _ _ e h => s_X_door_27 G  _ _ _ e h)))) (sn_iload_n (pc := 22) (i := 1) dX11_door_22 rfl (sn_iload_n (pc := 23) (i := 2) dX11_door_23 rfl (sn_icmp_ne (pc := 24) (tgt := 33) dX11_door_24 rfl (sn_lf (pc := 33) (ln_a (i := 0) (q := 0) (ln_i (i := 1) (fun z0 => (ln_i (i := 2) (fun z1 => (ln_end (o := fun τ => f_X_door_33 z0 z1 τ) (fun _ _ _ e h => s_X_door_33 G z0 z1 _ _ _ e h)))))))) (sn_lf (pc := 27) (ln_a (i := 0) (q := 0) (ln_end (o := fun τ => f_X_door_27 τ) (fun _ _ _ e h => s_X_door_27 G  _ _ _ e h)))))))))))))))))) _ _ _ _ _ ((eq_X_door x1 x2 σ).symm.trans e) hr
noncomputable def cF_X_door : am_Fn := fun _ args σ K => match args with
  | [.ref q0, .int z1, .int z2] => match Nat.beq q0 0 with
    | true => (f_X_door z1 z2 σ).bind (fun p => K (some (.int p.1)) p.2)
    | _ => none
  | _ => none
theorem cal_X_door (G : am_G) : am_Cal G M_X_door cF_X_door := by
  intro ρ args σ K r e
  unfold cF_X_door at e
  split at e
  · split at e
    · rename_i hq0
      obtain ⟨p, h1, h2⟩ := am_bind_some e
      rw [Nat.eq_of_beq_eq_true hq0]
      exact ⟨some (.int p.1), p.2, am_Met.of rfl (Nat.le_of_ble_eq_true rfl) (s_X_door G _ _ σ p _ h1 ⟨rfl, rfl⟩), h2⟩
    · cases e
  · cases e
abbrev M_H_deedInOne : am_MD := (yX3_deedInOne, cX3_deedInOne, 1, (some .int), 0, 0)
theorem dX3_deedInOne_0 : decode cX3_deedInOne 0 = .ok (.bipush 10, 2) := by decide +kernel
theorem dX3_deedInOne_2 : decode cX3_deedInOne 2 = .ok (.aload_n 0, 1) := by decide +kernel
theorem dX3_deedInOne_3 : decode cX3_deedInOne 3 = .ok (.getfield 71, 3) := by decide +kernel
theorem dX3_deedInOne_6 : decode cX3_deedInOne 6 = .ok (.imul, 1) := by decide +kernel
theorem dX3_deedInOne_7 : decode cX3_deedInOne 7 = .ok (.aload_n 0, 1) := by decide +kernel
theorem dX3_deedInOne_8 : decode cX3_deedInOne 8 = .ok (.getfield 74, 3) := by decide +kernel
theorem dX3_deedInOne_11 : decode cX3_deedInOne 11 = .ok (.iadd, 1) := by decide +kernel
theorem dX3_deedInOne_12 : decode cX3_deedInOne 12 = .ok (.ireturn, 1) := by decide +kernel
noncomputable def g_H_deedInOne_1 (σ : am_St) : Option (Int32 × am_St) :=
  some (((10 * (σ.1 1 3)) + (σ.1 1 4), σ))
noncomputable def f_H_deedInOne_1 (σ : am_St) : Option (Int32 × am_St) := am_lk (g_H_deedInOne_1  σ)
theorem eq_H_deedInOne_1 (σ : am_St) : f_H_deedInOne_1  σ = g_H_deedInOne_1  σ := am_lk_eq _
set_option maxRecDepth 100000 in
set_option maxHeartbeats 4000000 in
theorem s_H_deedInOne_1 (G : am_G) (σ : am_St) (r : Int32 × am_St) (Q : am_AQ) (e : f_H_deedInOne_1  σ = some r) (hr : am_Pi r Q) : am_AW G M_H_deedInOne 0 [(0, .ref 1)] [] σ Q :=
  (show am_Snd G M_H_deedInOne 0 am_Pi _ from (sn_bipush (pc := 0) (v := 10) dX3_deedInOne_0 rfl (sn_aload_n (pc := 2) (i := 0) dX3_deedInOne_2 rfl (sn_gI (pc := 3) (h := 1) (f := 3) dX3_deedInOne_3 am_CL_3 sh_1 rfl (Nat.le_of_ble_eq_true rfl) tw_88 (sn_imul (pc := 6) dX3_deedInOne_6 (sn_aload_n (pc := 7) (i := 0) dX3_deedInOne_7 rfl (sn_gI (pc := 8) (h := 1) (f := 4) dX3_deedInOne_8 am_CL_3 sh_1 rfl (Nat.le_of_ble_eq_true rfl) tw_94 (sn_iadd (pc := 11) dX3_deedInOne_11 (sn_reti (pc := 12) (R := fun x τ => (some ((x, τ)))) dX3_deedInOne_12 rfl (fun _ _ _ _ e h => by cases e; exact h)))))))))) _ _ _ _ _ ((eq_H_deedInOne_1  σ).symm.trans e) hr
noncomputable def cF_H_deedInOne_1 : am_Fn := fun _ args σ K => match args with
  | [.ref q0] => match Nat.beq q0 1 with
    | true => (f_H_deedInOne_1 σ).bind (fun p => K (some (.int p.1)) p.2)
    | _ => none
  | _ => none
theorem cal_H_deedInOne_1 (G : am_G) : am_Cal G M_H_deedInOne cF_H_deedInOne_1 := by
  intro ρ args σ K r e
  unfold cF_H_deedInOne_1 at e
  split at e
  · split at e
    · rename_i hq0
      obtain ⟨p, h1, h2⟩ := am_bind_some e
      rw [Nat.eq_of_beq_eq_true hq0]
      exact ⟨some (.int p.1), p.2, am_Met.of rfl (Nat.le_of_ble_eq_true rfl) (s_H_deedInOne_1 G  σ p _ h1 ⟨rfl, rfl⟩), h2⟩
    · cases e
  · cases e
noncomputable def g_H_putDeed_1 (x1 : Int32) (x2 : Int32) (σ : am_St) : Option (am_St) :=
  let s1 := am_sI σ 1 3 x1
  let s2 := am_sI s1 1 4 x2
  some (s2)
noncomputable def f_H_putDeed_1 (x1 : Int32) (x2 : Int32) (σ : am_St) : Option (am_St) := am_lk (g_H_putDeed_1 x1 x2 σ)
theorem eq_H_putDeed_1 (x1 : Int32) (x2 : Int32) (σ : am_St) : f_H_putDeed_1 x1 x2 σ = g_H_putDeed_1 x1 x2 σ := am_lk_eq _
set_option maxRecDepth 100000 in
set_option maxHeartbeats 4000000 in
theorem s_H_putDeed_1 (G : am_G) (x1 : Int32) (x2 : Int32) (σ : am_St) (r : am_St) (Q : am_AQ) (e : f_H_putDeed_1 x1 x2 σ = some r) (hr : am_Pv r Q) : am_AW G M_H_putDeed 0 [(0, .ref 1), (1, .int x1), (2, .int x2)] [] σ Q :=
  (show am_Snd G M_H_putDeed 0 am_Pv _ from (sn_aload_n (pc := 0) (i := 0) dX3_putDeed_0 rfl (sn_iload_n (pc := 1) (i := 1) dX3_putDeed_1 rfl (sn_pI (pc := 2) (h := 1) (f := 3) dX3_putDeed_2 am_CL_3 sh_1 rfl (Nat.le_of_ble_eq_true rfl) tw_88 rfl rfl (sn_aload_n (pc := 5) (i := 0) dX3_putDeed_5 rfl (sn_iload_n (pc := 6) (i := 2) dX3_putDeed_6 rfl (sn_pI (pc := 7) (h := 1) (f := 4) dX3_putDeed_7 am_CL_3 sh_1 rfl (Nat.le_of_ble_eq_true rfl) tw_94 rfl rfl (sn_retv (pc := 10) (R := fun τ => (some (τ))) dX3_putDeed_10 rfl (fun _ _ _ e h => by cases e; exact h))))))))) _ _ _ _ _ ((eq_H_putDeed_1 x1 x2 σ).symm.trans e) hr
noncomputable def cF_H_putDeed_1 : am_Fn := fun _ args σ K => match args with
  | [.ref q0, .int z1, .int z2] => match Nat.beq q0 1 with
    | true => (f_H_putDeed_1 z1 z2 σ).bind (fun p => K none p)
    | _ => none
  | _ => none
theorem cal_H_putDeed_1 (G : am_G) : am_Cal G M_H_putDeed cF_H_putDeed_1 := by
  intro ρ args σ K r e
  unfold cF_H_putDeed_1 at e
  split at e
  · split at e
    · rename_i hq0
      obtain ⟨p, h1, h2⟩ := am_bind_some e
      rw [Nat.eq_of_beq_eq_true hq0]
      exact ⟨none, p, am_Met.of rfl (Nat.le_of_ble_eq_true rfl) (s_H_putDeed_1 G _ _ σ p _ h1 ⟨rfl, rfl⟩), h2⟩
    · cases e
  · cases e
