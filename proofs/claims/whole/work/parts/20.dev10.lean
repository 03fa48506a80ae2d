abbrev M_H_doorsInAll : am_MD := (yX3_doorsInAll, cX3_doorsInAll, 3, (some .int), 2, 42)
theorem dX3_doorsInAll_0 : decode cX3_doorsInAll 0 = .ok (.iconst 0, 1) := by decide +kernel
theorem dX3_doorsInAll_1 : decode cX3_doorsInAll 1 = .ok (.istore_n 1, 1) := by decide +kernel
theorem dX3_doorsInAll_2 : decode cX3_doorsInAll 2 = .ok (.iconst 0, 1) := by decide +kernel
theorem dX3_doorsInAll_3 : decode cX3_doorsInAll 3 = .ok (.istore_n 2, 1) := by decide +kernel
theorem dX3_doorsInAll_4 : decode cX3_doorsInAll 4 = .ok (.iload_n 2, 1) := by decide +kernel
theorem dX3_doorsInAll_5 : decode cX3_doorsInAll 5 = .ok (.aload_n 0, 1) := by decide +kernel
theorem dX3_doorsInAll_6 : decode cX3_doorsInAll 6 = .ok (.getfield 9, 3) := by decide +kernel
theorem dX3_doorsInAll_9 : decode cX3_doorsInAll 9 = .ok (.if_icmp .ge 17, 3) := by decide +kernel
theorem dX3_doorsInAll_12 : decode cX3_doorsInAll 12 = .ok (.iload_n 1, 1) := by decide +kernel
theorem dX3_doorsInAll_13 : decode cX3_doorsInAll 13 = .ok (.aload_n 0, 1) := by decide +kernel
theorem dX3_doorsInAll_14 : decode cX3_doorsInAll 14 = .ok (.iload_n 2, 1) := by decide +kernel
theorem dX3_doorsInAll_15 : decode cX3_doorsInAll 15 = .ok (.invokevirtual 103, 3) := by decide +kernel
theorem dX3_doorsInAll_18 : decode cX3_doorsInAll 18 = .ok (.iadd, 1) := by decide +kernel
theorem dX3_doorsInAll_19 : decode cX3_doorsInAll 19 = .ok (.istore_n 1, 1) := by decide +kernel
theorem dX3_doorsInAll_20 : decode cX3_doorsInAll 20 = .ok (.iinc 2 1, 3) := by decide +kernel
theorem dX3_doorsInAll_23 : decode cX3_doorsInAll 23 = .ok (.goto (-19), 3) := by decide +kernel
theorem dX3_doorsInAll_26 : decode cX3_doorsInAll 26 = .ok (.iload_n 1, 1) := by decide +kernel
theorem dX3_doorsInAll_27 : decode cX3_doorsInAll 27 = .ok (.iconst 2, 1) := by decide +kernel
theorem dX3_doorsInAll_28 : decode cX3_doorsInAll 28 = .ok (.idiv, 1) := by decide +kernel
theorem dX3_doorsInAll_29 : decode cX3_doorsInAll 29 = .ok (.ireturn, 1) := by decide +kernel
abbrev Pl_H_doorsInAll_1_4 (G : am_G) : ((Int32 × Int32 × am_St) ⊕ (Int32 × am_St)) → am_AQ → Prop := am_PL G M_H_doorsInAll 4 (fun s : Int32 × Int32 × am_St => [(2, .int s.2.1), (1, .int s.1), (0, .ref 1)]) (fun s => s.2.2) am_Pi
noncomputable def b_H_doorsInAll_1_4 (x1 : Int32) (x2 : Int32) (σ : am_St) : Option ((Int32 × Int32 × am_St) ⊕ (Int32 × am_St)) :=
  if (σ.1 1 0) ≤ x2 then
    some (.inr ((x1 / 2, σ)))
  else
    (f_H_doorsOf_1 x2 σ).bind (fun p1 =>
      let v2 := x1 + p1.1
      let v3 := x2 + 1
      some (.inl (v2, v3, p1.2)))
noncomputable def f_H_doorsInAll_1_4 (x1 : Int32) (x2 : Int32) (σ : am_St) : Option (Int32 × am_St) := am_lp (fun s : Int32 × Int32 × am_St => b_H_doorsInAll_1_4 s.1 s.2.1 s.2.2) (x1, x2, σ)
set_option maxRecDepth 100000 in
set_option maxHeartbeats 4000000 in
theorem sb_H_doorsInAll_1_4 (G : am_G) (x1 : Int32) (x2 : Int32) (σ : am_St) (r : (Int32 × Int32 × am_St) ⊕ (Int32 × am_St)) (Q : am_AQ) (e : b_H_doorsInAll_1_4 x1 x2 σ = some r) (hr : Pl_H_doorsInAll_1_4 G r Q) : am_AW G M_H_doorsInAll 4 [(2, .int x2), (1, .int x1), (0, .ref 1)] [] σ Q :=
  (show am_Snd G M_H_doorsInAll 4 (Pl_H_doorsInAll_1_4 G) _ from (sn_iload_n (pc := 4) (i := 2) dX3_doorsInAll_4 rfl (sn_aload_n (pc := 5) (i := 0) dX3_doorsInAll_5 rfl (sn_gI (pc := 6) (h := 1) (f := 0) dX3_doorsInAll_6 am_CL_3 sh_1 rfl (Nat.le_of_ble_eq_true rfl) tw_75 (sn_icmp_ge (pc := 9) (tgt := 26) dX3_doorsInAll_9 rfl (sn_iload_n (pc := 26) (i := 1) dX3_doorsInAll_26 rfl (sn_iconst (pc := 27) (v := 2) dX3_doorsInAll_27 rfl (sn_idiv (pc := 28) dX3_doorsInAll_28 (sn_reti (pc := 29) (R := fun x τ => (some (.inr ((x, τ))) : Option ((Int32 × Int32 × am_St) ⊕ (Int32 × am_St)))) dX3_doorsInAll_29 rfl (fun _ _ _ _ e h => by cases e; exact h))))) (sn_iload_n (pc := 12) (i := 1) dX3_doorsInAll_12 rfl (sn_aload_n (pc := 13) (i := 0) dX3_doorsInAll_13 rfl (sn_iload_n (pc := 14) (i := 2) dX3_doorsInAll_14 rfl (sn_callV (pc := 15) (N := M_H_doorsOf) dX3_doorsInAll_15 (cal_H_doorsOf_1 G) sh_1 rfl tw_926 tw_899 tw_900 tw_2 tw_901 dsc_X3_doorsOf rfl (sn_iadd (pc := 18) dX3_doorsInAll_18 (sn_istore_n (pc := 19) (i := 1) dX3_doorsInAll_19 rfl (Nat.le_of_ble_eq_true rfl) (sn_iinc (pc := 20) (v := 1) dX3_doorsInAll_20 rfl (Nat.le_of_ble_eq_true rfl) (sn_goto (pc := 23) (tgt := 4) dX3_doorsInAll_23 rfl (sn_lf (pc := 4) (ln_a (i := 0) (q := 1) (ln_i (i := 1) (fun z0 => (ln_i (i := 2) (fun z1 => (ln_end (o := fun τ => (some (.inl (z0, z1, τ)) : Option ((Int32 × Int32 × am_St) ⊕ (Int32 × am_St)))) (fun _ _ _ e h => by cases e; exact h))))))))))))))))))))) _ _ _ _ _ e hr
theorem s_H_doorsInAll_1_4 (G : am_G) (x1 : Int32) (x2 : Int32) (σ : am_St) (r : Int32 × am_St) (Q : am_AQ) (e : f_H_doorsInAll_1_4 x1 x2 σ = some r) (hr : am_Pi r Q) : am_AW G M_H_doorsInAll 4 [(2, .int x2), (1, .int x1), (0, .ref 1)] [] σ Q :=
  am_loop (P := am_Pi) (L := fun s : Int32 × Int32 × am_St => [(2, .int s.2.1), (1, .int s.1), (0, .ref 1)]) (g := fun s => s.2.2) (fun s o Q e hr => sb_H_doorsInAll_1_4 G s.1 s.2.1 s.2.2 o Q e hr) (x1, x2, σ) r Q e hr
noncomputable def g_H_doorsInAll_1 (σ : am_St) : Option (Int32 × am_St) :=
  f_H_doorsInAll_1_4 0 0 σ
noncomputable def f_H_doorsInAll_1 (σ : am_St) : Option (Int32 × am_St) := am_lk (g_H_doorsInAll_1  σ)
theorem eq_H_doorsInAll_1 (σ : am_St) : f_H_doorsInAll_1  σ = g_H_doorsInAll_1  σ := am_lk_eq _
set_option maxRecDepth 100000 in
set_option maxHeartbeats 4000000 in
theorem s_H_doorsInAll_1 (G : am_G) (σ : am_St) (r : Int32 × am_St) (Q : am_AQ) (e : f_H_doorsInAll_1  σ = some r) (hr : am_Pi r Q) : am_AW G M_H_doorsInAll 0 [(0, .ref 1)] [] σ Q :=
  (show am_Snd G M_H_doorsInAll 0 am_Pi _ from (sn_iconst (pc := 0) (v := 0) dX3_doorsInAll_0 rfl (sn_istore_n (pc := 1) (i := 1) dX3_doorsInAll_1 rfl (Nat.le_of_ble_eq_true rfl) (sn_iconst (pc := 2) (v := 0) dX3_doorsInAll_2 rfl (sn_istore_n (pc := 3) (i := 2) dX3_doorsInAll_3 rfl (Nat.le_of_ble_eq_true rfl) (sn_lf (pc := 4) (ln_a (i := 0) (q := 1) (ln_i (i := 1) (fun z0 => (ln_i (i := 2) (fun z1 => (ln_end (o := fun τ => f_H_doorsInAll_1_4 z0 z1 τ) (fun _ _ _ e h => s_H_doorsInAll_1_4 G z0 z1 _ _ _ e h))))))))))))) _ _ _ _ _ ((eq_H_doorsInAll_1  σ).symm.trans e) hr
noncomputable def cF_H_doorsInAll_1 : am_Fn := fun _ args σ K => match args with
  | [.ref q0] => match Nat.beq q0 1 with
    | true => (f_H_doorsInAll_1 σ).bind (fun p => K (some (.int p.1)) p.2)
    | _ => none
  | _ => none
theorem cal_H_doorsInAll_1 (G : am_G) : am_Cal G M_H_doorsInAll cF_H_doorsInAll_1 := by
  intro ρ args σ K r e
  unfold cF_H_doorsInAll_1 at e
  split at e
  · split at e
    · rename_i hq0
      obtain ⟨p, h1, h2⟩ := am_bind_some e
      rw [Nat.eq_of_beq_eq_true hq0]
      exact ⟨some (.int p.1), p.2, am_Met.of rfl (Nat.le_of_ble_eq_true rfl) (s_H_doorsInAll_1 G  σ p _ h1 ⟨rfl, rfl⟩), h2⟩
    · cases e
  · cases e
abbrev M_T_howMany : am_MD := (yX4_howMany, cX4_howMany, 1, (some .int), 0, 0)
theorem dX4_howMany_0 : decode cX4_howMany 0 = .ok (.aload_n 0, 1) := by decide +kernel
theorem dX4_howMany_1 : decode cX4_howMany 1 = .ok (.getfield 15, 3) := by decide +kernel
theorem dX4_howMany_4 : decode cX4_howMany 4 = .ok (.ireturn, 1) := by decide +kernel
noncomputable def g_T_howMany (σ : am_St) : Option (Int32 × am_St) :=
  some ((σ.1 35 1, σ))
noncomputable def f_T_howMany (σ : am_St) : Option (Int32 × am_St) := am_lk (g_T_howMany  σ)
theorem eq_T_howMany (σ : am_St) : f_T_howMany  σ = g_T_howMany  σ := am_lk_eq _
set_option maxRecDepth 100000 in
set_option maxHeartbeats 4000000 in
theorem s_T_howMany (G : am_G) (σ : am_St) (r : Int32 × am_St) (Q : am_AQ) (e : f_T_howMany  σ = some r) (hr : am_Pi r Q) : am_AW G M_T_howMany 0 [(0, .ref 35)] [] σ Q :=
  (show am_Snd G M_T_howMany 0 am_Pi _ from (sn_aload_n (pc := 0) (i := 0) dX4_howMany_0 rfl (sn_gI (pc := 1) (h := 35) (f := 1) dX4_howMany_1 am_CL_4 sh_35 rfl (Nat.le_of_ble_eq_true rfl) tw_161 (sn_reti (pc := 4) (R := fun x τ => (some ((x, τ)))) dX4_howMany_4 rfl (fun _ _ _ _ e h => by cases e; exact h))))) _ _ _ _ _ ((eq_T_howMany  σ).symm.trans e) hr
noncomputable def cF_T_howMany : am_Fn := fun _ args σ K => match args with
  | [.ref q0] => match Nat.beq q0 35 with
    | true => (f_T_howMany σ).bind (fun p => K (some (.int p.1)) p.2)
    | _ => none
  | _ => none
theorem cal_T_howMany (G : am_G) : am_Cal G M_T_howMany cF_T_howMany := by
  intro ρ args σ K r e
  unfold cF_T_howMany at e
  split at e
  · split at e
    · rename_i hq0
      obtain ⟨p, h1, h2⟩ := am_bind_some e
      rw [Nat.eq_of_beq_eq_true hq0]
      exact ⟨some (.int p.1), p.2, am_Met.of rfl (Nat.le_of_ble_eq_true rfl) (s_T_howMany G  σ p _ h1 ⟨rfl, rfl⟩), h2⟩
    · cases e
  · cases e
abbrev M_H_skillsInAll : am_MD := (yX3_skillsInAll, cX3_skillsInAll, 3, (some .int), 1, 21)
theorem dX3_skillsInAll_0 : decode cX3_skillsInAll 0 = .ok (.iconst 0, 1) := by decide +kernel
theorem dX3_skillsInAll_1 : decode cX3_skillsInAll 1 = .ok (.istore_n 1, 1) := by decide +kernel
theorem dX3_skillsInAll_2 : decode cX3_skillsInAll 2 = .ok (.iconst 0, 1) := by decide +kernel
theorem dX3_skillsInAll_3 : decode cX3_skillsInAll 3 = .ok (.istore_n 2, 1) := by decide +kernel
theorem dX3_skillsInAll_4 : decode cX3_skillsInAll 4 = .ok (.iload_n 2, 1) := by decide +kernel
theorem dX3_skillsInAll_5 : decode cX3_skillsInAll 5 = .ok (.aload_n 0, 1) := by decide +kernel
theorem dX3_skillsInAll_6 : decode cX3_skillsInAll 6 = .ok (.getfield 68, 3) := by decide +kernel
theorem dX3_skillsInAll_9 : decode cX3_skillsInAll 9 = .ok (.if_icmp .ge 17, 3) := by decide +kernel
theorem dX3_skillsInAll_12 : decode cX3_skillsInAll 12 = .ok (.iload_n 1, 1) := by decide +kernel
theorem dX3_skillsInAll_13 : decode cX3_skillsInAll 13 = .ok (.aload_n 0, 1) := by decide +kernel
theorem dX3_skillsInAll_14 : decode cX3_skillsInAll 14 = .ok (.iload_n 2, 1) := by decide +kernel
theorem dX3_skillsInAll_15 : decode cX3_skillsInAll 15 = .ok (.invokevirtual 110, 3) := by decide +kernel
theorem dX3_skillsInAll_18 : decode cX3_skillsInAll 18 = .ok (.iadd, 1) := by decide +kernel
theorem dX3_skillsInAll_19 : decode cX3_skillsInAll 19 = .ok (.istore_n 1, 1) := by decide +kernel
theorem dX3_skillsInAll_20 : decode cX3_skillsInAll 20 = .ok (.iinc 2 1, 3) := by decide +kernel
theorem dX3_skillsInAll_23 : decode cX3_skillsInAll 23 = .ok (.goto (-19), 3) := by decide +kernel
theorem dX3_skillsInAll_26 : decode cX3_skillsInAll 26 = .ok (.iload_n 1, 1) := by decide +kernel
theorem dX3_skillsInAll_27 : decode cX3_skillsInAll 27 = .ok (.ireturn, 1) := by decide +kernel
abbrev Pl_H_skillsInAll_1_4 (G : am_G) : ((Int32 × Int32 × am_St) ⊕ (Int32 × am_St)) → am_AQ → Prop := am_PL G M_H_skillsInAll 4 (fun s : Int32 × Int32 × am_St => [(2, .int s.2.1), (1, .int s.1), (0, .ref 1)]) (fun s => s.2.2) am_Pi
noncomputable def b_H_skillsInAll_1_4 (x1 : Int32) (x2 : Int32) (σ : am_St) : Option ((Int32 × Int32 × am_St) ⊕ (Int32 × am_St)) :=
  if (σ.1 1 2) ≤ x2 then
    some (.inr ((x1, σ)))
  else
    (f_H_skillOf_1 x2 σ).bind (fun p1 =>
      let v2 := x1 + p1.1
      let v3 := x2 + 1
      some (.inl (v2, v3, p1.2)))
noncomputable def f_H_skillsInAll_1_4 (x1 : Int32) (x2 : Int32) (σ : am_St) : Option (Int32 × am_St) := am_lp (fun s : Int32 × Int32 × am_St => b_H_skillsInAll_1_4 s.1 s.2.1 s.2.2) (x1, x2, σ)
set_option maxRecDepth 100000 in
set_option maxHeartbeats 4000000 in
theorem sb_H_skillsInAll_1_4 (G : am_G) (x1 : Int32) (x2 : Int32) (σ : am_St) (r : (Int32 × Int32 × am_St) ⊕ (Int32 × am_St)) (Q : am_AQ) (e : b_H_skillsInAll_1_4 x1 x2 σ = some r) (hr : Pl_H_skillsInAll_1_4 G r Q) : am_AW G M_H_skillsInAll 4 [(2, .int x2), (1, .int x1), (0, .ref 1)] [] σ Q :=
  (show am_Snd G M_H_skillsInAll 4 (Pl_H_skillsInAll_1_4 G) _ from (sn_iload_n (pc := 4) (i := 2) dX3_skillsInAll_4 rfl (sn_aload_n (pc := 5) (i := 0) dX3_skillsInAll_5 rfl (sn_gI (pc := 6) (h := 1) (f := 2) dX3_skillsInAll_6 am_CL_3 sh_1 rfl (Nat.le_of_ble_eq_true rfl) tw_83 (sn_icmp_ge (pc := 9) (tgt := 26) dX3_skillsInAll_9 rfl (sn_iload_n (pc := 26) (i := 1) dX3_skillsInAll_26 rfl (sn_reti (pc := 27) (R := fun x τ => (some (.inr ((x, τ))) : Option ((Int32 × Int32 × am_St) ⊕ (Int32 × am_St)))) dX3_skillsInAll_27 rfl (fun _ _ _ _ e h => by cases e; exact h))) (sn_iload_n (pc := 12) (i := 1) dX3_skillsInAll_12 rfl (sn_aload_n (pc := 13) (i := 0) dX3_skillsInAll_13 rfl (sn_iload_n (pc := 14) (i := 2) dX3_skillsInAll_14 rfl (sn_callV (pc := 15) (N := M_H_skillOf) dX3_skillsInAll_15 (cal_H_skillOf_1 G) sh_1 rfl tw_509 tw_448 tw_449 tw_2 tw_450 dsc_X3_skillOf rfl (sn_iadd (pc := 18) dX3_skillsInAll_18 (sn_istore_n (pc := 19) (i := 1) dX3_skillsInAll_19 rfl (Nat.le_of_ble_eq_true rfl) (sn_iinc (pc := 20) (v := 1) dX3_skillsInAll_20 rfl (Nat.le_of_ble_eq_true rfl) (sn_goto (pc := 23) (tgt := 4) dX3_skillsInAll_23 rfl (sn_lf (pc := 4) (ln_a (i := 0) (q := 1) (ln_i (i := 1) (fun z0 => (ln_i (i := 2) (fun z1 => (ln_end (o := fun τ => (some (.inl (z0, z1, τ)) : Option ((Int32 × Int32 × am_St) ⊕ (Int32 × am_St)))) (fun _ _ _ e h => by cases e; exact h))))))))))))))))))))) _ _ _ _ _ e hr
theorem s_H_skillsInAll_1_4 (G : am_G) (x1 : Int32) (x2 : Int32) (σ : am_St) (r : Int32 × am_St) (Q : am_AQ) (e : f_H_skillsInAll_1_4 x1 x2 σ = some r) (hr : am_Pi r Q) : am_AW G M_H_skillsInAll 4 [(2, .int x2), (1, .int x1), (0, .ref 1)] [] σ Q :=
  am_loop (P := am_Pi) (L := fun s : Int32 × Int32 × am_St => [(2, .int s.2.1), (1, .int s.1), (0, .ref 1)]) (g := fun s => s.2.2) (fun s o Q e hr => sb_H_skillsInAll_1_4 G s.1 s.2.1 s.2.2 o Q e hr) (x1, x2, σ) r Q e hr
noncomputable def g_H_skillsInAll_1 (σ : am_St) : Option (Int32 × am_St) :=
  f_H_skillsInAll_1_4 0 0 σ
noncomputable def f_H_skillsInAll_1 (σ : am_St) : Option (Int32 × am_St) := am_lk (g_H_skillsInAll_1  σ)
theorem eq_H_skillsInAll_1 (σ : am_St) : f_H_skillsInAll_1  σ = g_H_skillsInAll_1  σ := am_lk_eq _
set_option maxRecDepth 100000 in
set_option maxHeartbeats 4000000 in
theorem s_H_skillsInAll_1 (G : am_G) (σ : am_St) (r : Int32 × am_St) (Q : am_AQ) (e : f_H_skillsInAll_1  σ = some r) (hr : am_Pi r Q) : am_AW G M_H_skillsInAll 0 [(0, .ref 1)] [] σ Q :=
  (show am_Snd G M_H_skillsInAll 0 am_Pi _ from (sn_iconst (pc := 0) (v := 0) dX3_skillsInAll_0 rfl (sn_istore_n (pc := 1) (i := 1) dX3_skillsInAll_1 rfl (Nat.le_of_ble_eq_true rfl) (sn_iconst (pc := 2) (v := 0) dX3_skillsInAll_2 rfl (sn_istore_n (pc := 3) (i := 2) dX3_skillsInAll_3 rfl (Nat.le_of_ble_eq_true rfl) (sn_lf (pc := 4) (ln_a (i := 0) (q := 1) (ln_i (i := 1) (fun z0 => (ln_i (i := 2) (fun z1 => (ln_end (o := fun τ => f_H_skillsInAll_1_4 z0 z1 τ) (fun _ _ _ e h => s_H_skillsInAll_1_4 G z0 z1 _ _ _ e h))))))))))))) _ _ _ _ _ ((eq_H_skillsInAll_1  σ).symm.trans e) hr
noncomputable def cF_H_skillsInAll_1 : am_Fn := fun _ args σ K => match args with
  | [.ref q0] => match Nat.beq q0 1 with
    | true => (f_H_skillsInAll_1 σ).bind (fun p => K (some (.int p.1)) p.2)
    | _ => none
  | _ => none
theorem cal_H_skillsInAll_1 (G : am_G) : am_Cal G M_H_skillsInAll cF_H_skillsInAll_1 := by
  intro ρ args σ K r e
  unfold cF_H_skillsInAll_1 at e
  split at e
  · split at e
    · rename_i hq0
      obtain ⟨p, h1, h2⟩ := am_bind_some e
      rw [Nat.eq_of_beq_eq_true hq0]
      exact ⟨some (.int p.1), p.2, am_Met.of rfl (Nat.le_of_ble_eq_true rfl) (s_H_skillsInAll_1 G  σ p _ h1 ⟨rfl, rfl⟩), h2⟩
    · cases e
  · cases e
abbrev M_X_count : am_MD := (yX11_count, cX11_count, 2, (some .int), 3, 64)
theorem dX11_count_0 : decode cX11_count 0 = .ok (.iload_n 1, 1) := by decide +kernel
theorem dX11_count_1 : decode cX11_count 1 = .ok (.tableswitch 132 0 9 #[55, 63, 71, 79, 87, 95, 103, 111, 119, 124], 55) := by decide +kernel
theorem dX11_count_56 : decode cX11_count 56 = .ok (.aload_n 0, 1) := by decide +kernel
theorem dX11_count_57 : decode cX11_count 57 = .ok (.getfield 10, 3) := by decide +kernel
theorem dX11_count_60 : decode cX11_count 60 = .ok (.getfield 174, 3) := by decide +kernel
theorem dX11_count_63 : decode cX11_count 63 = .ok (.ireturn, 1) := by decide +kernel
theorem dX11_count_64 : decode cX11_count 64 = .ok (.aload_n 0, 1) := by decide +kernel
theorem dX11_count_65 : decode cX11_count 65 = .ok (.getfield 10, 3) := by decide +kernel
theorem dX11_count_68 : decode cX11_count 68 = .ok (.getfield 225, 3) := by decide +kernel
theorem dX11_count_71 : decode cX11_count 71 = .ok (.ireturn, 1) := by decide +kernel
theorem dX11_count_72 : decode cX11_count 72 = .ok (.aload_n 0, 1) := by decide +kernel
theorem dX11_count_73 : decode cX11_count 73 = .ok (.getfield 10, 3) := by decide +kernel
theorem dX11_count_76 : decode cX11_count 76 = .ok (.getfield 171, 3) := by decide +kernel
theorem dX11_count_79 : decode cX11_count 79 = .ok (.ireturn, 1) := by decide +kernel
theorem dX11_count_80 : decode cX11_count 80 = .ok (.aload_n 0, 1) := by decide +kernel
theorem dX11_count_81 : decode cX11_count 81 = .ok (.getfield 10, 3) := by decide +kernel
theorem dX11_count_84 : decode cX11_count 84 = .ok (.invokevirtual 285, 3) := by decide +kernel
theorem dX11_count_87 : decode cX11_count 87 = .ok (.ireturn, 1) := by decide +kernel
theorem dX11_count_88 : decode cX11_count 88 = .ok (.aload_n 0, 1) := by decide +kernel
theorem dX11_count_89 : decode cX11_count 89 = .ok (.getfield 10, 3) := by decide +kernel
theorem dX11_count_92 : decode cX11_count 92 = .ok (.getfield 135, 3) := by decide +kernel
theorem dX11_count_95 : decode cX11_count 95 = .ok (.ireturn, 1) := by decide +kernel
theorem dX11_count_96 : decode cX11_count 96 = .ok (.aload_n 0, 1) := by decide +kernel
theorem dX11_count_97 : decode cX11_count 97 = .ok (.getfield 10, 3) := by decide +kernel
theorem dX11_count_100 : decode cX11_count 100 = .ok (.getfield 192, 3) := by decide +kernel
theorem dX11_count_103 : decode cX11_count 103 = .ok (.ireturn, 1) := by decide +kernel
theorem dX11_count_104 : decode cX11_count 104 = .ok (.aload_n 0, 1) := by decide +kernel
theorem dX11_count_105 : decode cX11_count 105 = .ok (.getfield 10, 3) := by decide +kernel
theorem dX11_count_108 : decode cX11_count 108 = .ok (.invokevirtual 121, 3) := by decide +kernel
theorem dX11_count_111 : decode cX11_count 111 = .ok (.ireturn, 1) := by decide +kernel
theorem dX11_count_112 : decode cX11_count 112 = .ok (.aload_n 0, 1) := by decide +kernel
theorem dX11_count_113 : decode cX11_count 113 = .ok (.getfield 26, 3) := by decide +kernel
theorem dX11_count_116 : decode cX11_count 116 = .ok (.invokevirtual 288, 3) := by decide +kernel
theorem dX11_count_119 : decode cX11_count 119 = .ok (.ireturn, 1) := by decide +kernel
theorem dX11_count_120 : decode cX11_count 120 = .ok (.aload_n 0, 1) := by decide +kernel
theorem dX11_count_121 : decode cX11_count 121 = .ok (.getfield 48, 3) := by decide +kernel
theorem dX11_count_124 : decode cX11_count 124 = .ok (.ireturn, 1) := by decide +kernel
theorem dX11_count_125 : decode cX11_count 125 = .ok (.aload_n 0, 1) := by decide +kernel
theorem dX11_count_126 : decode cX11_count 126 = .ok (.getfield 10, 3) := by decide +kernel
theorem dX11_count_129 : decode cX11_count 129 = .ok (.invokevirtual 291, 3) := by decide +kernel
theorem dX11_count_132 : decode cX11_count 132 = .ok (.ireturn, 1) := by decide +kernel
theorem dX11_count_133 : decode cX11_count 133 = .ok (.iload_n 1, 1) := by decide +kernel
theorem dX11_count_134 : decode cX11_count 134 = .ok (.bipush 11, 2) := by decide +kernel
theorem dX11_count_136 : decode cX11_count 136 = .ok (.if_icmp .lt 21, 3) := by decide +kernel
theorem dX11_count_139 : decode cX11_count 139 = .ok (.iload_n 1, 1) := by decide +kernel
theorem dX11_count_140 : decode cX11_count 140 = .ok (.bipush 16, 2) := by decide +kernel
theorem dX11_count_142 : decode cX11_count 142 = .ok (.if_icmp .gt 15, 3) := by decide +kernel
theorem dX11_count_145 : decode cX11_count 145 = .ok (.aload_n 0, 1) := by decide +kernel
theorem dX11_count_146 : decode cX11_count 146 = .ok (.getfield 52, 3) := by decide +kernel
theorem dX11_count_149 : decode cX11_count 149 = .ok (.iload_n 1, 1) := by decide +kernel
theorem dX11_count_150 : decode cX11_count 150 = .ok (.bipush 10, 2) := by decide +kernel
theorem dX11_count_152 : decode cX11_count 152 = .ok (.isub, 1) := by decide +kernel
theorem dX11_count_153 : decode cX11_count 153 = .ok (.iaload, 1) := by decide +kernel
theorem dX11_count_154 : decode cX11_count 154 = .ok (.goto 5, 3) := by decide +kernel
theorem dX11_count_157 : decode cX11_count 157 = .ok (.bipush (-9), 2) := by decide +kernel
theorem dX11_count_159 : decode cX11_count 159 = .ok (.ireturn, 1) := by decide +kernel
noncomputable def g_X_count (x1 : Int32) (σ : am_St) : Option (Int32 × am_St) :=
  if x1 = 0 then
    some ((σ.1 1 0, σ))
  else
  if x1 = 1 then
    some ((σ.1 1 1, σ))
  else
  if x1 = 2 then
    some ((σ.1 1 2, σ))
  else
  if x1 = 3 then
    (f_H_doorsInAll_1 σ).bind (fun p1 =>
      some ((p1.1, p1.2)))
  else
  if x1 = 4 then
    some ((σ.1 1 5, σ))
  else
  if x1 = 5 then
    some ((σ.1 1 6, σ))
  else
  if x1 = 6 then
    (f_H_deedInOne_1 σ).bind (fun p2 =>
      some ((p2.1, p2.2)))
  else
  if x1 = 7 then
    (f_T_howMany σ).bind (fun p3 =>
      some ((p3.1, p3.2)))
  else
  if x1 = 8 then
    some ((σ.1 0 7, σ))
  else
  if x1 = 9 then
    (f_H_skillsInAll_1 σ).bind (fun p4 =>
      some ((p4.1, p4.2)))
  else
  if x1 < 11 then
    some (((-9), σ))
  else
    if 16 < x1 then
      some (((-9), σ))
    else
      if am_ix (x1 - 10) 7 = true then
        some ((σ.1 65 (x1 - 10).toNatClampNeg, σ))
      else none
noncomputable def f_X_count (x1 : Int32) (σ : am_St) : Option (Int32 × am_St) := am_lk (g_X_count x1 σ)
theorem eq_X_count (x1 : Int32) (σ : am_St) : f_X_count x1 σ = g_X_count x1 σ := am_lk_eq _
set_option maxRecDepth 100000 in
set_option maxHeartbeats 4000000 in
theorem s_X_count (G : am_G) (x1 : Int32) (σ : am_St) (r : Int32 × am_St) (Q : am_AQ) (e : f_X_count x1 σ = some r) (hr : am_Pi r Q) : am_AW G M_X_count 0 [(0, .ref 0), (1, .int x1)] [] σ Q :=
  (show am_Snd G M_X_count 0 am_Pi _ from (sn_iload_n (pc := 0) (i := 1) dX11_count_0 rfl (sn_tsw (pc := 1) (dt := 133) (vs := [0, 1, 2, 3, 4, 5, 6, 7, 8, 9]) (ts := [56, 64, 72, 80, 88, 96, 104, 112, 120, 125]) dX11_count_1 (by decide +kernel) (sn_iload_n (pc := 133) (i := 1) dX11_count_133 rfl (sn_bipush (pc := 134) (v := 11) dX11_count_134 rfl (sn_icmp_lt (pc := 136) (tgt := 157) dX11_count_136 rfl (sn_bipush (pc := 157) (v := (-9)) dX11_count_157 (show (Int8.ofInt (-9)).toInt32 = (-9) by decide) (sn_reti (pc := 159) (R := fun x τ => (some ((x, τ)))) dX11_count_159 rfl (fun _ _ _ _ e h => by cases e; exact h))) (sn_iload_n (pc := 139) (i := 1) dX11_count_139 rfl (sn_bipush (pc := 140) (v := 16) dX11_count_140 rfl (sn_icmp_gt (pc := 142) (tgt := 157) dX11_count_142 rfl (sn_bipush (pc := 157) (v := (-9)) dX11_count_157 (show (Int8.ofInt (-9)).toInt32 = (-9) by decide) (sn_reti (pc := 159) (R := fun x τ => (some ((x, τ)))) dX11_count_159 rfl (fun _ _ _ _ e h => by cases e; exact h))) (sn_aload_n (pc := 145) (i := 0) dX11_count_145 rfl (sn_gR (r0 := 65) (pc := 146) (h := 0) (f := 8) dX11_count_146 am_CL_10 sh_0 rfl (Nat.le_of_ble_eq_true rfl) tw_227 (sn_iload_n (pc := 149) (i := 1) dX11_count_149 rfl (sn_bipush (pc := 150) (v := 10) dX11_count_150 rfl (sn_isub (pc := 152) dX11_count_152 (sn_aI (pc := 153) (h := 65) dX11_count_153 sh_65 (sn_goto (pc := 154) (tgt := 159) dX11_count_154 rfl (sn_reti (pc := 159) (R := fun x τ => (some ((x, τ)))) dX11_count_159 rfl (fun _ _ _ _ e h => by cases e; exact h))))))))))))))) (am_all_cons (sn_aload_n (pc := 56) (i := 0) dX11_count_56 rfl (sn_gR (r0 := 1) (pc := 57) (h := 0) (f := 0) dX11_count_57 am_CL_10 sh_0 rfl (Nat.le_of_ble_eq_true rfl) tw_219 (sn_gI (pc := 60) (h := 1) (f := 0) dX11_count_60 am_CL_3 sh_1 rfl (Nat.le_of_ble_eq_true rfl) tw_77 (sn_reti (pc := 63) (R := fun x τ => (some ((x, τ)))) dX11_count_63 rfl (fun _ _ _ _ e h => by cases e; exact h))))) (am_all_cons (sn_aload_n (pc := 64) (i := 0) dX11_count_64 rfl (sn_gR (r0 := 1) (pc := 65) (h := 0) (f := 0) dX11_count_65 am_CL_10 sh_0 rfl (Nat.le_of_ble_eq_true rfl) tw_219 (sn_gI (pc := 68) (h := 1) (f := 1) dX11_count_68 am_CL_3 sh_1 rfl (Nat.le_of_ble_eq_true rfl) tw_82 (sn_reti (pc := 71) (R := fun x τ => (some ((x, τ)))) dX11_count_71 rfl (fun _ _ _ _ e h => by cases e; exact h))))) (am_all_cons (sn_aload_n (pc := 72) (i := 0) dX11_count_72 rfl (sn_gR (r0 := 1) (pc := 73) (h := 0) (f := 0) dX11_count_73 am_CL_10 sh_0 rfl (Nat.le_of_ble_eq_true rfl) tw_219 (sn_gI (pc := 76) (h := 1) (f := 2) dX11_count_76 am_CL_3 sh_1 rfl (Nat.le_of_ble_eq_true rfl) tw_85 (sn_reti (pc := 79) (R := fun x τ => (some ((x, τ)))) dX11_count_79 rfl (fun _ _ _ _ e h => by cases e; exact h))))) (am_all_cons (sn_aload_n (pc := 80) (i := 0) dX11_count_80 rfl (sn_gR (r0 := 1) (pc := 81) (h := 0) (f := 0) dX11_count_81 am_CL_10 sh_0 rfl (Nat.le_of_ble_eq_true rfl) tw_219 (sn_callV (pc := 84) (N := M_H_doorsInAll) dX11_count_84 (cal_H_doorsInAll_1 G) sh_1 rfl tw_922 tw_923 tw_924 tw_2 tw_925 dsc_X3_doorsInAll rfl (sn_reti (pc := 87) (R := fun x τ => (some ((x, τ)))) dX11_count_87 rfl (fun _ _ _ _ e h => by cases e; exact h))))) (am_all_cons (sn_aload_n (pc := 88) (i := 0) dX11_count_88 rfl (sn_gR (r0 := 1) (pc := 89) (h := 0) (f := 0) dX11_count_89 am_CL_10 sh_0 rfl (Nat.le_of_ble_eq_true rfl) tw_219 (sn_gI (pc := 92) (h := 1) (f := 5) dX11_count_92 am_CL_3 sh_1 rfl (Nat.le_of_ble_eq_true rfl) tw_102 (sn_reti (pc := 95) (R := fun x τ => (some ((x, τ)))) dX11_count_95 rfl (fun _ _ _ _ e h => by cases e; exact h))))) (am_all_cons (sn_aload_n (pc := 96) (i := 0) dX11_count_96 rfl (sn_gR (r0 := 1) (pc := 97) (h := 0) (f := 0) dX11_count_97 am_CL_10 sh_0 rfl (Nat.le_of_ble_eq_true rfl) tw_219 (sn_gI (pc := 100) (h := 1) (f := 6) dX11_count_100 am_CL_3 sh_1 rfl (Nat.le_of_ble_eq_true rfl) tw_106 (sn_reti (pc := 103) (R := fun x τ => (some ((x, τ)))) dX11_count_103 rfl (fun _ _ _ _ e h => by cases e; exact h))))) (am_all_cons (sn_aload_n (pc := 104) (i := 0) dX11_count_104 rfl (sn_gR (r0 := 1) (pc := 105) (h := 0) (f := 0) dX11_count_105 am_CL_10 sh_0 rfl (Nat.le_of_ble_eq_true rfl) tw_219 (sn_callV (pc := 108) (N := M_H_deedInOne) dX11_count_108 (cal_H_deedInOne_1 G) sh_1 rfl tw_536 tw_537 tw_538 tw_2 tw_539 dsc_X3_deedInOne rfl (sn_reti (pc := 111) (R := fun x τ => (some ((x, τ)))) dX11_count_111 rfl (fun _ _ _ _ e h => by cases e; exact h))))) (am_all_cons (sn_aload_n (pc := 112) (i := 0) dX11_count_112 rfl (sn_gR (r0 := 35) (pc := 113) (h := 0) (f := 3) dX11_count_113 am_CL_10 sh_0 rfl (Nat.le_of_ble_eq_true rfl) tw_222 (sn_callV (pc := 116) (N := M_T_howMany) dX11_count_116 (cal_T_howMany G) sh_35 rfl tw_927 tw_928 tw_929 tw_9 tw_930 dsc_X4_howMany rfl (sn_reti (pc := 119) (R := fun x τ => (some ((x, τ)))) dX11_count_119 rfl (fun _ _ _ _ e h => by cases e; exact h))))) (am_all_cons (sn_aload_n (pc := 120) (i := 0) dX11_count_120 rfl (sn_gI (pc := 121) (h := 0) (f := 7) dX11_count_121 am_CL_10 sh_0 rfl (Nat.le_of_ble_eq_true rfl) tw_226 (sn_reti (pc := 124) (R := fun x τ => (some ((x, τ)))) dX11_count_124 rfl (fun _ _ _ _ e h => by cases e; exact h)))) (am_all_cons (sn_aload_n (pc := 125) (i := 0) dX11_count_125 rfl (sn_gR (r0 := 1) (pc := 126) (h := 0) (f := 0) dX11_count_126 am_CL_10 sh_0 rfl (Nat.le_of_ble_eq_true rfl) tw_219 (sn_callV (pc := 129) (N := M_H_skillsInAll) dX11_count_129 (cal_H_skillsInAll_1 G) sh_1 rfl tw_931 tw_932 tw_933 tw_2 tw_934 dsc_X3_skillsInAll rfl (sn_reti (pc := 132) (R := fun x τ => (some ((x, τ)))) dX11_count_132 rfl (fun _ _ _ _ e h => by cases e; exact h))))) am_all_nil))))))))))))) _ _ _ _ _ ((eq_X_count x1 σ).symm.trans e) hr
noncomputable def cF_X_count : am_Fn := fun _ args σ K => match args with
  | [.ref q0, .int z1] => match Nat.beq q0 0 with
    | true => (f_X_count z1 σ).bind (fun p => K (some (.int p.1)) p.2)
    | _ => none
  | _ => none
theorem cal_X_count (G : am_G) : am_Cal G M_X_count cF_X_count := by
  intro ρ args σ K r e
  unfold cF_X_count at e
  split at e
  · split at e
    · rename_i hq0
      obtain ⟨p, h1, h2⟩ := am_bind_some e
      rw [Nat.eq_of_beq_eq_true hq0]
      exact ⟨some (.int p.1), p.2, am_Met.of rfl (Nat.le_of_ble_eq_true rfl) (s_X_count G _ σ p _ h1 ⟨rfl, rfl⟩), h2⟩
    · cases e
  · cases e
