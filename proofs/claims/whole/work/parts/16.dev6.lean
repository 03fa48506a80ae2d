abbrev M_X_holds : am_MD := (yX11_holds, cX11_holds, 2, (some .int), 4, 99)
theorem dX11_holds_0 : decode cX11_holds 0 = .ok (.iload_n 1, 1) := by decide +kernel
theorem dX11_holds_1 : decode cX11_holds 1 = .ok (.ifCond .lt 14, 3) := by decide +kernel
theorem dX11_holds_4 : decode cX11_holds 4 = .ok (.iload_n 1, 1) := by decide +kernel
theorem dX11_holds_5 : decode cX11_holds 5 = .ok (.aload_n 0, 1) := by decide +kernel
theorem dX11_holds_6 : decode cX11_holds 6 = .ok (.getfield 10, 3) := by decide +kernel
theorem dX11_holds_9 : decode cX11_holds 9 = .ok (.getfield 192, 3) := by decide +kernel
theorem dX11_holds_12 : decode cX11_holds 12 = .ok (.if_icmp .lt 9, 3) := by decide +kernel
theorem dX11_holds_15 : decode cX11_holds 15 = .ok (.aload_n 0, 1) := by decide +kernel
theorem dX11_holds_16 : decode cX11_holds 16 = .ok (.iconst (-1), 1) := by decide +kernel
theorem dX11_holds_17 : decode cX11_holds 17 = .ok (.invokevirtual 55, 3) := by decide +kernel
theorem dX11_holds_20 : decode cX11_holds 20 = .ok (.ireturn, 1) := by decide +kernel
theorem dX11_holds_21 : decode cX11_holds 21 = .ok (.aload_n 0, 1) := by decide +kernel
theorem dX11_holds_22 : decode cX11_holds 22 = .ok (.getfield 33, 3) := by decide +kernel
theorem dX11_holds_25 : decode cX11_holds 25 = .ok (.aload_n 0, 1) := by decide +kernel
theorem dX11_holds_26 : decode cX11_holds 26 = .ok (.getfield 10, 3) := by decide +kernel
theorem dX11_holds_29 : decode cX11_holds 29 = .ok (.iload_n 1, 1) := by decide +kernel
theorem dX11_holds_30 : decode cX11_holds 30 = .ok (.invokevirtual 199, 3) := by decide +kernel
theorem dX11_holds_33 : decode cX11_holds 33 = .ok (.ireturn, 1) := by decide +kernel
noncomputable def g_X_holds_15 (σ : am_St) : Option (Int32 × am_St) :=
  (f_X_refuse (-1) σ).bind (fun p1 =>
    some ((p1.1, p1.2)))
noncomputable def f_X_holds_15 (σ : am_St) : Option (Int32 × am_St) := am_lk (g_X_holds_15  σ)
theorem eq_X_holds_15 (σ : am_St) : f_X_holds_15  σ = g_X_holds_15  σ := am_lk_eq _
set_option maxRecDepth 100000 in
set_option maxHeartbeats 4000000 in
theorem s_X_holds_15 (G : am_G) (σ : am_St) (r : Int32 × am_St) (Q : am_AQ) (e : f_X_holds_15  σ = some r) (hr : am_Pi r Q) : am_AW G M_X_holds 15 [(0, .ref 0)] [] σ Q :=
  (show am_Snd G M_X_holds 15 am_Pi _ from (sn_aload_n (pc := 15) (i := 0) dX11_holds_15 rfl (sn_iconst (pc := 16) (v := (-1)) dX11_holds_16 (show Int32.ofInt (-1) = (-1) by decide) (sn_callV (pc := 17) (N := M_X_refuse) dX11_holds_17 (cal_X_refuse G) sh_0 rfl tw_251 tw_253 tp_0 tw_1 tw_254 dsc_X11_refuse rfl (sn_reti (pc := 20) (R := fun x τ => (some ((x, τ)))) dX11_holds_20 rfl (fun _ _ _ _ e h => by cases e; exact h)))))) _ _ _ _ _ ((eq_X_holds_15  σ).symm.trans e) hr
noncomputable def g_X_holds (x1 : Int32) (σ : am_St) : Option (Int32 × am_St) :=
  if x1 < 0 then
    f_X_holds_15 σ
  else
    if x1 < (σ.1 1 6) then
      (f_W_leftBy_1 x1 σ).bind (fun p1 =>
        some ((p1.1, p1.2)))
    else
      f_X_holds_15 σ
noncomputable def f_X_holds (x1 : Int32) (σ : am_St) : Option (Int32 × am_St) := am_lk (g_X_holds x1 σ)
theorem eq_X_holds (x1 : Int32) (σ : am_St) : f_X_holds x1 σ = g_X_holds x1 σ := am_lk_eq _
set_option maxRecDepth 100000 in
set_option maxHeartbeats 4000000 in
theorem s_X_holds (G : am_G) (x1 : Int32) (σ : am_St) (r : Int32 × am_St) (Q : am_AQ) (e : f_X_holds x1 σ = some r) (hr : am_Pi r Q) : am_AW G M_X_holds 0 [(0, .ref 0), (1, .int x1)] [] σ Q :=
  (show am_Snd G M_X_holds 0 am_Pi _ from (sn_iload_n (pc := 0) (i := 1) dX11_holds_0 rfl (sn_if_lt (pc := 1) (tgt := 15) dX11_holds_1 rfl (sn_lf (pc := 15) (ln_a (i := 0) (q := 0) (ln_end (o := fun τ => f_X_holds_15 τ) (fun _ _ _ e h => s_X_holds_15 G  _ _ _ e h)))) (sn_iload_n (pc := 4) (i := 1) dX11_holds_4 rfl (sn_aload_n (pc := 5) (i := 0) dX11_holds_5 rfl (sn_gR (r0 := 1) (pc := 6) (h := 0) (f := 0) dX11_holds_6 am_CL_10 sh_0 rfl (Nat.le_of_ble_eq_true rfl) tw_219 (sn_gI (pc := 9) (h := 1) (f := 6) dX11_holds_9 am_CL_3 sh_1 rfl (Nat.le_of_ble_eq_true rfl) tw_106 (sn_icmp_lt (pc := 12) (tgt := 21) dX11_holds_12 rfl (sn_aload_n (pc := 21) (i := 0) dX11_holds_21 rfl (sn_gR (r0 := 54) (pc := 22) (h := 0) (f := 4) dX11_holds_22 am_CL_10 sh_0 rfl (Nat.le_of_ble_eq_true rfl) tw_223 (sn_aload_n (pc := 25) (i := 0) dX11_holds_25 rfl (sn_gR (r0 := 1) (pc := 26) (h := 0) (f := 0) dX11_holds_26 am_CL_10 sh_0 rfl (Nat.le_of_ble_eq_true rfl) tw_219 (sn_iload_n (pc := 29) (i := 1) dX11_holds_29 rfl (sn_callV (pc := 30) (N := M_W_leftBy) dX11_holds_30 (cal_W_leftBy_1 G) sh_54 rfl tw_650 tw_651 tw_652 tw_10 tw_653 dsc_X10_leftBy rfl (sn_reti (pc := 33) (R := fun x τ => (some ((x, τ)))) dX11_holds_33 rfl (fun _ _ _ _ e h => by cases e; exact h)))))))) (sn_lf (pc := 15) (ln_a (i := 0) (q := 0) (ln_end (o := fun τ => f_X_holds_15 τ) (fun _ _ _ e h => s_X_holds_15 G  _ _ _ e h)))))))))))) _ _ _ _ _ ((eq_X_holds x1 σ).symm.trans e) hr
noncomputable def cF_X_holds : am_Fn := fun _ args σ K => match args with
  | [.ref q0, .int z1] => match Nat.beq q0 0 with
    | true => (f_X_holds z1 σ).bind (fun p => K (some (.int p.1)) p.2)
    | _ => none
  | _ => none
theorem cal_X_holds (G : am_G) : am_Cal G M_X_holds cF_X_holds := by
  intro ρ args σ K r e
  unfold cF_X_holds at e
  split at e
  · split at e
    · rename_i hq0
      obtain ⟨p, h1, h2⟩ := am_bind_some e
      rw [Nat.eq_of_beq_eq_true hq0]
      exact ⟨some (.int p.1), p.2, am_Met.of rfl (Nat.le_of_ble_eq_true rfl) (s_X_holds G _ σ p _ h1 ⟨rfl, rfl⟩), h2⟩
    · cases e
  · cases e
abbrev M_W_openBySayings : am_MD := (yX10_openBySayings, cX10_openBySayings, 6, none, 1, 22)
theorem dX10_openBySayings_0 : decode cX10_openBySayings 0 = .ok (.iconst 0, 1) := by decide +kernel
theorem dX10_openBySayings_1 : decode cX10_openBySayings 1 = .ok (.istore 4, 2) := by decide +kernel
theorem dX10_openBySayings_3 : decode cX10_openBySayings 3 = .ok (.iload 4, 2) := by decide +kernel
theorem dX10_openBySayings_5 : decode cX10_openBySayings 5 = .ok (.aload_n 1, 1) := by decide +kernel
theorem dX10_openBySayings_6 : decode cX10_openBySayings 6 = .ok (.getfield 77, 3) := by decide +kernel
theorem dX10_openBySayings_9 : decode cX10_openBySayings 9 = .ok (.if_icmp .ge 52, 3) := by decide +kernel
theorem dX10_openBySayings_12 : decode cX10_openBySayings 12 = .ok (.aload_n 1, 1) := by decide +kernel
theorem dX10_openBySayings_13 : decode cX10_openBySayings 13 = .ok (.iload 4, 2) := by decide +kernel
theorem dX10_openBySayings_15 : decode cX10_openBySayings 15 = .ok (.invokevirtual 80, 3) := by decide +kernel
theorem dX10_openBySayings_18 : decode cX10_openBySayings 18 = .ok (.istore 5, 2) := by decide +kernel
theorem dX10_openBySayings_20 : decode cX10_openBySayings 20 = .ok (.iload_n 3, 1) := by decide +kernel
theorem dX10_openBySayings_21 : decode cX10_openBySayings 21 = .ok (.iload 4, 2) := by decide +kernel
theorem dX10_openBySayings_23 : decode cX10_openBySayings 23 = .ok (.ishr, 1) := by decide +kernel
theorem dX10_openBySayings_24 : decode cX10_openBySayings 24 = .ok (.iconst 1, 1) := by decide +kernel
theorem dX10_openBySayings_25 : decode cX10_openBySayings 25 = .ok (.iand, 1) := by decide +kernel
theorem dX10_openBySayings_26 : decode cX10_openBySayings 26 = .ok (.iconst 1, 1) := by decide +kernel
theorem dX10_openBySayings_27 : decode cX10_openBySayings 27 = .ok (.if_icmp .ne 28, 3) := by decide +kernel
theorem dX10_openBySayings_30 : decode cX10_openBySayings 30 = .ok (.iload 5, 2) := by decide +kernel
theorem dX10_openBySayings_32 : decode cX10_openBySayings 32 = .ok (.invokestatic 61, 3) := by decide +kernel
theorem dX10_openBySayings_35 : decode cX10_openBySayings 35 = .ok (.iload_n 2, 1) := by decide +kernel
theorem dX10_openBySayings_36 : decode cX10_openBySayings 36 = .ok (.if_icmp .ne 19, 3) := by decide +kernel
theorem dX10_openBySayings_39 : decode cX10_openBySayings 39 = .ok (.aload_n 0, 1) := by decide +kernel
theorem dX10_openBySayings_40 : decode cX10_openBySayings 40 = .ok (.iload 5, 2) := by decide +kernel
theorem dX10_openBySayings_42 : decode cX10_openBySayings 42 = .ok (.invokestatic 67, 3) := by decide +kernel
theorem dX10_openBySayings_45 : decode cX10_openBySayings 45 = .ok (.iconst 1, 1) := by decide +kernel
theorem dX10_openBySayings_46 : decode cX10_openBySayings 46 = .ok (.iload 5, 2) := by decide +kernel
theorem dX10_openBySayings_48 : decode cX10_openBySayings 48 = .ok (.invokestatic 64, 3) := by decide +kernel
theorem dX10_openBySayings_51 : decode cX10_openBySayings 51 = .ok (.ishl, 1) := by decide +kernel
theorem dX10_openBySayings_52 : decode cX10_openBySayings 52 = .ok (.invokevirtual 73, 3) := by decide +kernel
theorem dX10_openBySayings_55 : decode cX10_openBySayings 55 = .ok (.iinc 4 1, 3) := by decide +kernel
theorem dX10_openBySayings_58 : decode cX10_openBySayings 58 = .ok (.goto (-55), 3) := by decide +kernel
theorem dX10_openBySayings_61 : decode cX10_openBySayings 61 = .ok (.return_, 1) := by decide +kernel
abbrev Pl_W_openBySayings_1_3 (G : am_G) : ((Int32 × Int32 × Int32 × am_St) ⊕ (am_St)) → am_AQ → Prop := am_PL G M_W_openBySayings 3 (fun s : Int32 × Int32 × Int32 × am_St => [(4, .int s.2.2.1), (3, .int s.2.1), (2, .int s.1), (1, .ref 1), (0, .ref 54)]) (fun s => s.2.2.2) am_Pv
noncomputable def g_W_openBySayings_1_55 (x2 : Int32) (x3 : Int32) (x4 : Int32) (σ : am_St) : Option ((Int32 × Int32 × Int32 × am_St) ⊕ (am_St)) :=
  let v1 := x4 + 1
  some (.inl (x2, x3, v1, σ))
noncomputable def f_W_openBySayings_1_55 (x2 : Int32) (x3 : Int32) (x4 : Int32) (σ : am_St) : Option ((Int32 × Int32 × Int32 × am_St) ⊕ (am_St)) := am_lk (g_W_openBySayings_1_55 x2 x3 x4 σ)
theorem eq_W_openBySayings_1_55 (x2 : Int32) (x3 : Int32) (x4 : Int32) (σ : am_St) : f_W_openBySayings_1_55 x2 x3 x4 σ = g_W_openBySayings_1_55 x2 x3 x4 σ := am_lk_eq _
set_option maxRecDepth 100000 in
set_option maxHeartbeats 4000000 in
theorem s_W_openBySayings_1_55 (G : am_G) (x2 : Int32) (x3 : Int32) (x4 : Int32) (σ : am_St) (r : (Int32 × Int32 × Int32 × am_St) ⊕ (am_St)) (Q : am_AQ) (e : f_W_openBySayings_1_55 x2 x3 x4 σ = some r) (hr : (Pl_W_openBySayings_1_3 G) r Q) : am_AW G M_W_openBySayings 55 [(4, .int x4), (3, .int x3), (2, .int x2), (1, .ref 1), (0, .ref 54)] [] σ Q :=
  (show am_Snd G M_W_openBySayings 55 (Pl_W_openBySayings_1_3 G) _ from (sn_iinc (pc := 55) (v := 1) dX10_openBySayings_55 rfl (Nat.le_of_ble_eq_true rfl) (sn_goto (pc := 58) (tgt := 3) dX10_openBySayings_58 rfl (sn_lf (pc := 3) (ln_a (i := 0) (q := 54) (ln_a (i := 1) (q := 1) (ln_i (i := 2) (fun z0 => (ln_i (i := 3) (fun z1 => (ln_i (i := 4) (fun z2 => (ln_end (o := fun τ => (some (.inl (z0, z1, z2, τ)) : Option ((Int32 × Int32 × Int32 × am_St) ⊕ (am_St)))) (fun _ _ _ e h => by cases e; exact h)))))))))))))) _ _ _ _ _ ((eq_W_openBySayings_1_55 x2 x3 x4 σ).symm.trans e) hr
noncomputable def g_W_openBySayings_1_39 (x2 : Int32) (x3 : Int32) (x4 : Int32) (x5 : Int32) (σ : am_St) : Option ((Int32 × Int32 × Int32 × am_St) ⊕ (am_St)) :=
  (f_H_minuteIn x5 σ).bind (fun p1 =>
    (f_H_roomIn x5 p1.2).bind (fun p2 =>
      (f_W_narrow p1.1 (1 <<< (p2.1 &&& 31)) p2.2).bind (fun p3 =>
        f_W_openBySayings_1_55 x2 x3 x4 p3)))
noncomputable def f_W_openBySayings_1_39 (x2 : Int32) (x3 : Int32) (x4 : Int32) (x5 : Int32) (σ : am_St) : Option ((Int32 × Int32 × Int32 × am_St) ⊕ (am_St)) := am_lk (g_W_openBySayings_1_39 x2 x3 x4 x5 σ)
theorem eq_W_openBySayings_1_39 (x2 : Int32) (x3 : Int32) (x4 : Int32) (x5 : Int32) (σ : am_St) : f_W_openBySayings_1_39 x2 x3 x4 x5 σ = g_W_openBySayings_1_39 x2 x3 x4 x5 σ := am_lk_eq _
set_option maxRecDepth 100000 in
set_option maxHeartbeats 4000000 in
theorem s_W_openBySayings_1_39 (G : am_G) (x2 : Int32) (x3 : Int32) (x4 : Int32) (x5 : Int32) (σ : am_St) (r : (Int32 × Int32 × Int32 × am_St) ⊕ (am_St)) (Q : am_AQ) (e : f_W_openBySayings_1_39 x2 x3 x4 x5 σ = some r) (hr : (Pl_W_openBySayings_1_3 G) r Q) : am_AW G M_W_openBySayings 39 [(5, .int x5), (4, .int x4), (3, .int x3), (2, .int x2), (1, .ref 1), (0, .ref 54)] [] σ Q :=
  (show am_Snd G M_W_openBySayings 39 (Pl_W_openBySayings_1_3 G) _ from (sn_aload_n (pc := 39) (i := 0) dX10_openBySayings_39 rfl (sn_iload (pc := 40) dX10_openBySayings_40 (sn_callS (pc := 42) (N := M_H_minuteIn) dX10_openBySayings_42 (cal_H_minuteIn G) tw_354 tw_355 tw_2 tw_356 dsc_X3_minuteIn rfl (sn_iconst (pc := 45) (v := 1) dX10_openBySayings_45 rfl (sn_iload (pc := 46) dX10_openBySayings_46 (sn_callS (pc := 48) (N := M_H_roomIn) dX10_openBySayings_48 (cal_H_roomIn G) tw_351 tw_352 tw_2 tw_353 dsc_X3_roomIn rfl (sn_ishl (pc := 51) dX10_openBySayings_51 (sn_callV (pc := 52) (N := M_W_narrow) dX10_openBySayings_52 (cal_W_narrow G) sh_54 rfl tw_360 tw_362 tp_9 tw_10 tw_363 dsc_X10_narrow rfl (sn_lf (pc := 55) (ln_a (i := 0) (q := 54) (ln_a (i := 1) (q := 1) (ln_i (i := 2) (fun z0 => (ln_i (i := 3) (fun z1 => (ln_i (i := 4) (fun z2 => (ln_end (o := fun τ => f_W_openBySayings_1_55 z0 z1 z2 τ) (fun _ _ _ e h => s_W_openBySayings_1_55 G z0 z1 z2 _ _ _ e h)))))))))))))))))))) _ _ _ _ _ ((eq_W_openBySayings_1_39 x2 x3 x4 x5 σ).symm.trans e) hr
noncomputable def b_W_openBySayings_1_3 (x2 : Int32) (x3 : Int32) (x4 : Int32) (σ : am_St) : Option ((Int32 × Int32 × Int32 × am_St) ⊕ (am_St)) :=
  if (σ.1 1 6) ≤ x4 then
    some (.inr (σ))
  else
    (f_H_sayingAt_1 x4 σ).bind (fun p1 =>
      if ((x3 >>> (x4 &&& 31)) &&& 1) = 1 then
        (f_H_childIn p1.1 p1.2).bind (fun p2 =>
          if p2.1 = x2 then
            f_W_openBySayings_1_39 x2 x3 x4 p1.1 p2.2
          else
            f_W_openBySayings_1_55 x2 x3 x4 p2.2)
      else
        f_W_openBySayings_1_55 x2 x3 x4 p1.2)
noncomputable def f_W_openBySayings_1_3 (x2 : Int32) (x3 : Int32) (x4 : Int32) (σ : am_St) : Option (am_St) := am_lp (fun s : Int32 × Int32 × Int32 × am_St => b_W_openBySayings_1_3 s.1 s.2.1 s.2.2.1 s.2.2.2) (x2, x3, x4, σ)
set_option maxRecDepth 100000 in
set_option maxHeartbeats 4000000 in
theorem sb_W_openBySayings_1_3 (G : am_G) (x2 : Int32) (x3 : Int32) (x4 : Int32) (σ : am_St) (r : (Int32 × Int32 × Int32 × am_St) ⊕ (am_St)) (Q : am_AQ) (e : b_W_openBySayings_1_3 x2 x3 x4 σ = some r) (hr : Pl_W_openBySayings_1_3 G r Q) : am_AW G M_W_openBySayings 3 [(4, .int x4), (3, .int x3), (2, .int x2), (1, .ref 1), (0, .ref 54)] [] σ Q :=
  (show am_Snd G M_W_openBySayings 3 (Pl_W_openBySayings_1_3 G) _ from (sn_iload (pc := 3) dX10_openBySayings_3 (sn_aload_n (pc := 5) (i := 1) dX10_openBySayings_5 rfl (sn_gI (pc := 6) (h := 1) (f := 6) dX10_openBySayings_6 am_CL_3 sh_1 rfl (Nat.le_of_ble_eq_true rfl) tw_104 (sn_icmp_ge (pc := 9) (tgt := 61) dX10_openBySayings_9 rfl (sn_retv (pc := 61) (R := fun τ => (some (.inr (τ)) : Option ((Int32 × Int32 × Int32 × am_St) ⊕ (am_St)))) dX10_openBySayings_61 rfl (fun _ _ _ e h => by cases e; exact h)) (sn_aload_n (pc := 12) (i := 1) dX10_openBySayings_12 rfl (sn_iload (pc := 13) dX10_openBySayings_13 (sn_callV (pc := 15) (N := M_H_sayingAt) dX10_openBySayings_15 (cal_H_sayingAt_1 G) sh_1 rfl tw_654 tw_655 tw_656 tw_2 tw_657 dsc_X3_sayingAt rfl (sn_istore (pc := 18) dX10_openBySayings_18 (Nat.le_of_ble_eq_true rfl) (sn_iload_n (pc := 20) (i := 3) dX10_openBySayings_20 rfl (sn_iload (pc := 21) dX10_openBySayings_21 (sn_ishr (pc := 23) dX10_openBySayings_23 (sn_iconst (pc := 24) (v := 1) dX10_openBySayings_24 rfl (sn_iand (pc := 25) dX10_openBySayings_25 (sn_iconst (pc := 26) (v := 1) dX10_openBySayings_26 rfl (sn_icmp_ne (pc := 27) (tgt := 55) dX10_openBySayings_27 rfl (sn_lf (pc := 55) (ln_a (i := 0) (q := 54) (ln_a (i := 1) (q := 1) (ln_i (i := 2) (fun z0 => (ln_i (i := 3) (fun z1 => (ln_i (i := 4) (fun z2 => (ln_end (o := fun τ => f_W_openBySayings_1_55 z0 z1 z2 τ) (fun _ _ _ e h => s_W_openBySayings_1_55 G z0 z1 z2 _ _ _ e h))))))))))) (sn_iload (pc := 30) dX10_openBySayings_30 (sn_callS (pc := 32) (N := M_H_childIn) dX10_openBySayings_32 (cal_H_childIn G) tw_348 tw_349 tw_2 tw_350 dsc_X3_childIn rfl (sn_iload_n (pc := 35) (i := 2) dX10_openBySayings_35 rfl (sn_icmp_ne (pc := 36) (tgt := 55) dX10_openBySayings_36 rfl (sn_lf (pc := 55) (ln_a (i := 0) (q := 54) (ln_a (i := 1) (q := 1) (ln_i (i := 2) (fun z0 => (ln_i (i := 3) (fun z1 => (ln_i (i := 4) (fun z2 => (ln_end (o := fun τ => f_W_openBySayings_1_55 z0 z1 z2 τ) (fun _ _ _ e h => s_W_openBySayings_1_55 G z0 z1 z2 _ _ _ e h))))))))))) (sn_lf (pc := 39) (ln_a (i := 0) (q := 54) (ln_a (i := 1) (q := 1) (ln_i (i := 2) (fun z0 => (ln_i (i := 3) (fun z1 => (ln_i (i := 4) (fun z2 => (ln_i (i := 5) (fun z3 => (ln_end (o := fun τ => f_W_openBySayings_1_39 z0 z1 z2 z3 τ) (fun _ _ _ e h => s_W_openBySayings_1_39 G z0 z1 z2 z3 _ _ _ e h))))))))))))))))))))))))))))))))) _ _ _ _ _ e hr
theorem s_W_openBySayings_1_3 (G : am_G) (x2 : Int32) (x3 : Int32) (x4 : Int32) (σ : am_St) (r : am_St) (Q : am_AQ) (e : f_W_openBySayings_1_3 x2 x3 x4 σ = some r) (hr : am_Pv r Q) : am_AW G M_W_openBySayings 3 [(4, .int x4), (3, .int x3), (2, .int x2), (1, .ref 1), (0, .ref 54)] [] σ Q :=
  am_loop (P := am_Pv) (L := fun s : Int32 × Int32 × Int32 × am_St => [(4, .int s.2.2.1), (3, .int s.2.1), (2, .int s.1), (1, .ref 1), (0, .ref 54)]) (g := fun s => s.2.2.2) (fun s o Q e hr => sb_W_openBySayings_1_3 G s.1 s.2.1 s.2.2.1 s.2.2.2 o Q e hr) (x2, x3, x4, σ) r Q e hr
noncomputable def g_W_openBySayings_1 (x2 : Int32) (x3 : Int32) (σ : am_St) : Option (am_St) :=
  f_W_openBySayings_1_3 x2 x3 0 σ
noncomputable def f_W_openBySayings_1 (x2 : Int32) (x3 : Int32) (σ : am_St) : Option (am_St) := am_lk (g_W_openBySayings_1 x2 x3 σ)
theorem eq_W_openBySayings_1 (x2 : Int32) (x3 : Int32) (σ : am_St) : f_W_openBySayings_1 x2 x3 σ = g_W_openBySayings_1 x2 x3 σ := am_lk_eq _
set_option maxRecDepth 100000 in
set_option maxHeartbeats 4000000 in
theorem s_W_openBySayings_1 (G : am_G) (x2 : Int32) (x3 : Int32) (σ : am_St) (r : am_St) (Q : am_AQ) (e : f_W_openBySayings_1 x2 x3 σ = some r) (hr : am_Pv r Q) : am_AW G M_W_openBySayings 0 [(0, .ref 54), (1, .ref 1), (2, .int x2), (3, .int x3)] [] σ Q :=
  (show am_Snd G M_W_openBySayings 0 am_Pv _ from (sn_iconst (pc := 0) (v := 0) dX10_openBySayings_0 rfl (sn_istore (pc := 1) dX10_openBySayings_1 (Nat.le_of_ble_eq_true rfl) (sn_lf (pc := 3) (ln_a (i := 0) (q := 54) (ln_a (i := 1) (q := 1) (ln_i (i := 2) (fun z0 => (ln_i (i := 3) (fun z1 => (ln_i (i := 4) (fun z2 => (ln_end (o := fun τ => f_W_openBySayings_1_3 z0 z1 z2 τ) (fun _ _ _ e h => s_W_openBySayings_1_3 G z0 z1 z2 _ _ _ e h)))))))))))))) _ _ _ _ _ ((eq_W_openBySayings_1 x2 x3 σ).symm.trans e) hr
noncomputable def cF_W_openBySayings_1 : am_Fn := fun _ args σ K => match args with
  | [.ref q0, .ref q1, .int z2, .int z3] => match Nat.beq q0 54, Nat.beq q1 1 with
    | true, true => (f_W_openBySayings_1 z2 z3 σ).bind (fun p => K none p)
    | _, _ => none
  | _ => none
theorem cal_W_openBySayings_1 (G : am_G) : am_Cal G M_W_openBySayings cF_W_openBySayings_1 := by
  intro ρ args σ K r e
  unfold cF_W_openBySayings_1 at e
  split at e
  · split at e
    · rename_i hq0 hq1
      obtain ⟨p, h1, h2⟩ := am_bind_some e
      rw [Nat.eq_of_beq_eq_true hq0]
      rw [Nat.eq_of_beq_eq_true hq1]
      exact ⟨none, p, am_Met.of rfl (Nat.le_of_ble_eq_true rfl) (s_W_openBySayings_1 G _ _ σ p _ h1 ⟨rfl, rfl⟩), h2⟩
    · cases e
  · cases e
abbrev M_W_agree : am_MD := (yX10_agree, cX10_agree, 4, (some .boolean), 2, 54)
theorem dX10_agree_0 : decode cX10_agree 0 = .ok (.aload_n 0, 1) := by decide +kernel
theorem dX10_agree_1 : decode cX10_agree 1 = .ok (.aload_n 1, 1) := by decide +kernel
theorem dX10_agree_2 : decode cX10_agree 2 = .ok (.iload_n 2, 1) := by decide +kernel
theorem dX10_agree_3 : decode cX10_agree 3 = .ok (.invokevirtual 28, 3) := by decide +kernel
theorem dX10_agree_6 : decode cX10_agree 6 = .ok (.aload_n 0, 1) := by decide +kernel
theorem dX10_agree_7 : decode cX10_agree 7 = .ok (.aload_n 1, 1) := by decide +kernel
theorem dX10_agree_8 : decode cX10_agree 8 = .ok (.iload_n 2, 1) := by decide +kernel
theorem dX10_agree_9 : decode cX10_agree 9 = .ok (.iload_n 3, 1) := by decide +kernel
theorem dX10_agree_10 : decode cX10_agree 10 = .ok (.invokevirtual 99, 3) := by decide +kernel
theorem dX10_agree_13 : decode cX10_agree 13 = .ok (.aload_n 0, 1) := by decide +kernel
theorem dX10_agree_14 : decode cX10_agree 14 = .ok (.aload_n 0, 1) := by decide +kernel
theorem dX10_agree_15 : decode cX10_agree 15 = .ok (.getfield 18, 3) := by decide +kernel
theorem dX10_agree_18 : decode cX10_agree 18 = .ok (.iconst 0, 1) := by decide +kernel
theorem dX10_agree_19 : decode cX10_agree 19 = .ok (.iconst 1, 1) := by decide +kernel
theorem dX10_agree_20 : decode cX10_agree 20 = .ok (.invokevirtual 32, 3) := by decide +kernel
theorem dX10_agree_23 : decode cX10_agree 23 = .ok (.aload_n 0, 1) := by decide +kernel
theorem dX10_agree_24 : decode cX10_agree 24 = .ok (.invokevirtual 40, 3) := by decide +kernel
theorem dX10_agree_27 : decode cX10_agree 27 = .ok (.ifCond .le 7, 3) := by decide +kernel
theorem dX10_agree_30 : decode cX10_agree 30 = .ok (.iconst 1, 1) := by decide +kernel
theorem dX10_agree_31 : decode cX10_agree 31 = .ok (.goto 4, 3) := by decide +kernel
theorem dX10_agree_34 : decode cX10_agree 34 = .ok (.iconst 0, 1) := by decide +kernel
theorem dX10_agree_35 : decode cX10_agree 35 = .ok (.ireturn, 1) := by decide +kernel
noncomputable def g_W_agree_1_23 (σ : am_St) : Option (Int32 × am_St) :=
  (f_W_all σ).bind (fun p1 =>
    if p1.1 ≤ 0 then
      some ((0, p1.2))
    else
      some ((1, p1.2)))
noncomputable def f_W_agree_1_23 (σ : am_St) : Option (Int32 × am_St) := am_lk (g_W_agree_1_23  σ)
theorem eq_W_agree_1_23 (σ : am_St) : f_W_agree_1_23  σ = g_W_agree_1_23  σ := am_lk_eq _
set_option maxRecDepth 100000 in
set_option maxHeartbeats 4000000 in
theorem s_W_agree_1_23 (G : am_G) (σ : am_St) (r : Int32 × am_St) (Q : am_AQ) (e : f_W_agree_1_23  σ = some r) (hr : am_Pi r Q) : am_AW G M_W_agree 23 [(0, .ref 54)] [] σ Q :=
  (show am_Snd G M_W_agree 23 am_Pi _ from (sn_aload_n (pc := 23) (i := 0) dX10_agree_23 rfl (sn_callV (pc := 24) (N := M_W_all) dX10_agree_24 (cal_W_all G) sh_54 rfl tw_372 tw_373 tw_374 tw_10 tw_375 dsc_X10_all rfl (sn_if_le (pc := 27) (tgt := 34) dX10_agree_27 rfl (sn_iconst (pc := 34) (v := 0) dX10_agree_34 rfl (sn_retz (pc := 35) (R := fun x τ => (some ((x, τ)))) dX10_agree_35 rfl (fun _ _ _ _ e h => by cases e; exact h))) (sn_iconst (pc := 30) (v := 1) dX10_agree_30 rfl (sn_goto (pc := 31) (tgt := 35) dX10_agree_31 rfl (sn_retz (pc := 35) (R := fun x τ => (some ((x, τ)))) dX10_agree_35 rfl (fun _ _ _ _ e h => by cases e; exact h)))))))) _ _ _ _ _ ((eq_W_agree_1_23  σ).symm.trans e) hr
noncomputable def g_W_agree_1 (x2 : Int32) (x3 : Int32) (σ : am_St) : Option (Int32 × am_St) :=
  (f_W_openByFacts_1 x2 σ).bind (fun p1 =>
    (f_W_openBySayings_1 x2 x3 p1).bind (fun p2 =>
      (f_W_sum_57 0 1 p2).bind (fun p3 =>
        f_W_agree_1_23 p3)))
noncomputable def f_W_agree_1 (x2 : Int32) (x3 : Int32) (σ : am_St) : Option (Int32 × am_St) := am_lk (g_W_agree_1 x2 x3 σ)
theorem eq_W_agree_1 (x2 : Int32) (x3 : Int32) (σ : am_St) : f_W_agree_1 x2 x3 σ = g_W_agree_1 x2 x3 σ := am_lk_eq _
set_option maxRecDepth 100000 in
set_option maxHeartbeats 4000000 in
theorem s_W_agree_1 (G : am_G) (x2 : Int32) (x3 : Int32) (σ : am_St) (r : Int32 × am_St) (Q : am_AQ) (e : f_W_agree_1 x2 x3 σ = some r) (hr : am_Pi r Q) : am_AW G M_W_agree 0 [(0, .ref 54), (1, .ref 1), (2, .int x2), (3, .int x3)] [] σ Q :=
  (show am_Snd G M_W_agree 0 am_Pi _ from (sn_aload_n (pc := 0) (i := 0) dX10_agree_0 rfl (sn_aload_n (pc := 1) (i := 1) dX10_agree_1 rfl (sn_iload_n (pc := 2) (i := 2) dX10_agree_2 rfl (sn_callV (pc := 3) (N := M_W_openByFacts) dX10_agree_3 (cal_W_openByFacts_1 G) sh_54 rfl tw_336 tw_338 tp_8 tw_10 tw_339 dsc_X10_openByFacts rfl (sn_aload_n (pc := 6) (i := 0) dX10_agree_6 rfl (sn_aload_n (pc := 7) (i := 1) dX10_agree_7 rfl (sn_iload_n (pc := 8) (i := 2) dX10_agree_8 rfl (sn_iload_n (pc := 9) (i := 3) dX10_agree_9 rfl (sn_callV (pc := 10) (N := M_W_openBySayings) dX10_agree_10 (cal_W_openBySayings_1 G) sh_54 rfl tw_672 tw_674 tp_20 tw_10 tw_675 dsc_X10_openBySayings rfl (sn_aload_n (pc := 13) (i := 0) dX10_agree_13 rfl (sn_aload_n (pc := 14) (i := 0) dX10_agree_14 rfl (sn_gR (r0 := 57) (pc := 15) (h := 54) (f := 2) dX10_agree_15 am_CL_9 sh_54 rfl (Nat.le_of_ble_eq_true rfl) tw_178 (sn_iconst (pc := 18) (v := 0) dX10_agree_18 rfl (sn_iconst (pc := 19) (v := 1) dX10_agree_19 rfl (sn_callV (pc := 20) (N := M_W_sum) dX10_agree_20 (cal_W_sum_57 G) sh_54 rfl tw_364 tw_366 tp_10 tw_10 tw_367 dsc_X10_sum rfl (sn_lf (pc := 23) (ln_a (i := 0) (q := 54) (ln_end (o := fun τ => f_W_agree_1_23 τ) (fun _ _ _ e h => s_W_agree_1_23 G  _ _ _ e h)))))))))))))))))))) _ _ _ _ _ ((eq_W_agree_1 x2 x3 σ).symm.trans e) hr
noncomputable def cF_W_agree_1 : am_Fn := fun _ args σ K => match args with
  | [.ref q0, .ref q1, .int z2, .int z3] => match Nat.beq q0 54, Nat.beq q1 1 with
    | true, true => (f_W_agree_1 z2 z3 σ).bind (fun p => K (some (.int p.1)) p.2)
    | _, _ => none
  | _ => none
theorem cal_W_agree_1 (G : am_G) : am_Cal G M_W_agree cF_W_agree_1 := by
  intro ρ args σ K r e
  unfold cF_W_agree_1 at e
  split at e
  · split at e
    · rename_i hq0 hq1
      obtain ⟨p, h1, h2⟩ := am_bind_some e
      rw [Nat.eq_of_beq_eq_true hq0]
      rw [Nat.eq_of_beq_eq_true hq1]
      exact ⟨some (.int p.1), p.2, am_Met.of rfl (Nat.le_of_ble_eq_true rfl) (s_W_agree_1 G _ _ σ p _ h1 ⟨rfl, rfl⟩), h2⟩
    · cases e
  · cases e
abbrev M_W_allAgree : am_MD := (yX10_allAgree, cX10_allAgree, 4, (some .boolean), 3, 77)
theorem dX10_allAgree_0 : decode cX10_allAgree 0 = .ok (.iconst 0, 1) := by decide +kernel
theorem dX10_allAgree_1 : decode cX10_allAgree 1 = .ok (.istore_n 3, 1) := by decide +kernel
theorem dX10_allAgree_2 : decode cX10_allAgree 2 = .ok (.iload_n 3, 1) := by decide +kernel
theorem dX10_allAgree_3 : decode cX10_allAgree 3 = .ok (.aload_n 1, 1) := by decide +kernel
theorem dX10_allAgree_4 : decode cX10_allAgree 4 = .ok (.getfield 103, 3) := by decide +kernel
theorem dX10_allAgree_7 : decode cX10_allAgree 7 = .ok (.if_icmp .ge 21, 3) := by decide +kernel
theorem dX10_allAgree_10 : decode cX10_allAgree 10 = .ok (.aload_n 0, 1) := by decide +kernel
theorem dX10_allAgree_11 : decode cX10_allAgree 11 = .ok (.aload_n 1, 1) := by decide +kernel
theorem dX10_allAgree_12 : decode cX10_allAgree 12 = .ok (.iload_n 3, 1) := by decide +kernel
theorem dX10_allAgree_13 : decode cX10_allAgree 13 = .ok (.iload_n 2, 1) := by decide +kernel
theorem dX10_allAgree_14 : decode cX10_allAgree 14 = .ok (.invokevirtual 106, 3) := by decide +kernel
theorem dX10_allAgree_17 : decode cX10_allAgree 17 = .ok (.ifCond .ne 5, 3) := by decide +kernel
theorem dX10_allAgree_20 : decode cX10_allAgree 20 = .ok (.iconst 0, 1) := by decide +kernel
theorem dX10_allAgree_21 : decode cX10_allAgree 21 = .ok (.ireturn, 1) := by decide +kernel
theorem dX10_allAgree_22 : decode cX10_allAgree 22 = .ok (.iinc 3 1, 3) := by decide +kernel
theorem dX10_allAgree_25 : decode cX10_allAgree 25 = .ok (.goto (-23), 3) := by decide +kernel
theorem dX10_allAgree_28 : decode cX10_allAgree 28 = .ok (.iconst 1, 1) := by decide +kernel
theorem dX10_allAgree_29 : decode cX10_allAgree 29 = .ok (.ireturn, 1) := by decide +kernel
abbrev Pl_W_allAgree_1_2 (G : am_G) : ((Int32 × Int32 × am_St) ⊕ (Int32 × am_St)) → am_AQ → Prop := am_PL G M_W_allAgree 2 (fun s : Int32 × Int32 × am_St => [(3, .int s.2.1), (2, .int s.1), (1, .ref 1), (0, .ref 54)]) (fun s => s.2.2) am_Pi
noncomputable def b_W_allAgree_1_2 (x2 : Int32) (x3 : Int32) (σ : am_St) : Option ((Int32 × Int32 × am_St) ⊕ (Int32 × am_St)) :=
  if (σ.1 1 2) ≤ x3 then
    some (.inr ((1, σ)))
  else
    (f_W_agree_1 x3 x2 σ).bind (fun p1 =>
      if p1.1 = 0 then
        some (.inr ((0, p1.2)))
      else
        let v2 := x3 + 1
        some (.inl (x2, v2, p1.2)))
noncomputable def f_W_allAgree_1_2 (x2 : Int32) (x3 : Int32) (σ : am_St) : Option (Int32 × am_St) := am_lp (fun s : Int32 × Int32 × am_St => b_W_allAgree_1_2 s.1 s.2.1 s.2.2) (x2, x3, σ)
set_option maxRecDepth 100000 in
set_option maxHeartbeats 4000000 in
theorem sb_W_allAgree_1_2 (G : am_G) (x2 : Int32) (x3 : Int32) (σ : am_St) (r : (Int32 × Int32 × am_St) ⊕ (Int32 × am_St)) (Q : am_AQ) (e : b_W_allAgree_1_2 x2 x3 σ = some r) (hr : Pl_W_allAgree_1_2 G r Q) : am_AW G M_W_allAgree 2 [(3, .int x3), (2, .int x2), (1, .ref 1), (0, .ref 54)] [] σ Q :=
  (show am_Snd G M_W_allAgree 2 (Pl_W_allAgree_1_2 G) _ from (sn_iload_n (pc := 2) (i := 3) dX10_allAgree_2 rfl (sn_aload_n (pc := 3) (i := 1) dX10_allAgree_3 rfl (sn_gI (pc := 4) (h := 1) (f := 2) dX10_allAgree_4 am_CL_3 sh_1 rfl (Nat.le_of_ble_eq_true rfl) tw_86 (sn_icmp_ge (pc := 7) (tgt := 28) dX10_allAgree_7 rfl (sn_iconst (pc := 28) (v := 1) dX10_allAgree_28 rfl (sn_retz (pc := 29) (R := fun x τ => (some (.inr ((x, τ))) : Option ((Int32 × Int32 × am_St) ⊕ (Int32 × am_St)))) dX10_allAgree_29 rfl (fun _ _ _ _ e h => by cases e; exact h))) (sn_aload_n (pc := 10) (i := 0) dX10_allAgree_10 rfl (sn_aload_n (pc := 11) (i := 1) dX10_allAgree_11 rfl (sn_iload_n (pc := 12) (i := 3) dX10_allAgree_12 rfl (sn_iload_n (pc := 13) (i := 2) dX10_allAgree_13 rfl (sn_callV (pc := 14) (N := M_W_agree) dX10_allAgree_14 (cal_W_agree_1 G) sh_54 rfl tw_668 tw_670 tp_19 tw_10 tw_671 dsc_X10_agree rfl (sn_if_ne (pc := 17) (tgt := 22) dX10_allAgree_17 rfl (sn_iinc (pc := 22) (v := 1) dX10_allAgree_22 rfl (Nat.le_of_ble_eq_true rfl) (sn_goto (pc := 25) (tgt := 2) dX10_allAgree_25 rfl (sn_lf (pc := 2) (ln_a (i := 0) (q := 54) (ln_a (i := 1) (q := 1) (ln_i (i := 2) (fun z0 => (ln_i (i := 3) (fun z1 => (ln_end (o := fun τ => (some (.inl (z0, z1, τ)) : Option ((Int32 × Int32 × am_St) ⊕ (Int32 × am_St)))) (fun _ _ _ e h => by cases e; exact h))))))))))) (sn_iconst (pc := 20) (v := 0) dX10_allAgree_20 rfl (sn_retz (pc := 21) (R := fun x τ => (some (.inr ((x, τ))) : Option ((Int32 × Int32 × am_St) ⊕ (Int32 × am_St)))) dX10_allAgree_21 rfl (fun _ _ _ _ e h => by cases e; exact h)))))))))))))) _ _ _ _ _ e hr
theorem s_W_allAgree_1_2 (G : am_G) (x2 : Int32) (x3 : Int32) (σ : am_St) (r : Int32 × am_St) (Q : am_AQ) (e : f_W_allAgree_1_2 x2 x3 σ = some r) (hr : am_Pi r Q) : am_AW G M_W_allAgree 2 [(3, .int x3), (2, .int x2), (1, .ref 1), (0, .ref 54)] [] σ Q :=
  am_loop (P := am_Pi) (L := fun s : Int32 × Int32 × am_St => [(3, .int s.2.1), (2, .int s.1), (1, .ref 1), (0, .ref 54)]) (g := fun s => s.2.2) (fun s o Q e hr => sb_W_allAgree_1_2 G s.1 s.2.1 s.2.2 o Q e hr) (x2, x3, σ) r Q e hr
noncomputable def g_W_allAgree_1 (x2 : Int32) (σ : am_St) : Option (Int32 × am_St) :=
  f_W_allAgree_1_2 x2 0 σ
noncomputable def f_W_allAgree_1 (x2 : Int32) (σ : am_St) : Option (Int32 × am_St) := am_lk (g_W_allAgree_1 x2 σ)
theorem eq_W_allAgree_1 (x2 : Int32) (σ : am_St) : f_W_allAgree_1 x2 σ = g_W_allAgree_1 x2 σ := am_lk_eq _
set_option maxRecDepth 100000 in
set_option maxHeartbeats 4000000 in
theorem s_W_allAgree_1 (G : am_G) (x2 : Int32) (σ : am_St) (r : Int32 × am_St) (Q : am_AQ) (e : f_W_allAgree_1 x2 σ = some r) (hr : am_Pi r Q) : am_AW G M_W_allAgree 0 [(0, .ref 54), (1, .ref 1), (2, .int x2)] [] σ Q :=
  (show am_Snd G M_W_allAgree 0 am_Pi _ from (sn_iconst (pc := 0) (v := 0) dX10_allAgree_0 rfl (sn_istore_n (pc := 1) (i := 3) dX10_allAgree_1 rfl (Nat.le_of_ble_eq_true rfl) (sn_lf (pc := 2) (ln_a (i := 0) (q := 54) (ln_a (i := 1) (q := 1) (ln_i (i := 2) (fun z0 => (ln_i (i := 3) (fun z1 => (ln_end (o := fun τ => f_W_allAgree_1_2 z0 z1 τ) (fun _ _ _ e h => s_W_allAgree_1_2 G z0 z1 _ _ _ e h)))))))))))) _ _ _ _ _ ((eq_W_allAgree_1 x2 σ).symm.trans e) hr
noncomputable def cF_W_allAgree_1 : am_Fn := fun _ args σ K => match args with
  | [.ref q0, .ref q1, .int z2] => match Nat.beq q0 54, Nat.beq q1 1 with
    | true, true => (f_W_allAgree_1 z2 σ).bind (fun p => K (some (.int p.1)) p.2)
    | _, _ => none
  | _ => none
theorem cal_W_allAgree_1 (G : am_G) : am_Cal G M_W_allAgree cF_W_allAgree_1 := by
  intro ρ args σ K r e
  unfold cF_W_allAgree_1 at e
  split at e
  · split at e
    · rename_i hq0 hq1
      obtain ⟨p, h1, h2⟩ := am_bind_some e
      rw [Nat.eq_of_beq_eq_true hq0]
      rw [Nat.eq_of_beq_eq_true hq1]
      exact ⟨some (.int p.1), p.2, am_Met.of rfl (Nat.le_of_ble_eq_true rfl) (s_W_allAgree_1 G _ σ p _ h1 ⟨rfl, rfl⟩), h2⟩
    · cases e
  · cases e
abbrev M_X_together : am_MD := (yX11_together, cX11_together, 2, (some .int), 4, 100)
theorem dX11_together_0 : decode cX11_together 0 = .ok (.iload_n 1, 1) := by decide +kernel
theorem dX11_together_1 : decode cX11_together 1 = .ok (.aload_n 0, 1) := by decide +kernel
theorem dX11_together_2 : decode cX11_together 2 = .ok (.getfield 10, 3) := by decide +kernel
theorem dX11_together_5 : decode cX11_together 5 = .ok (.getfield 192, 3) := by decide +kernel
theorem dX11_together_8 : decode cX11_together 8 = .ok (.iushr, 1) := by decide +kernel
theorem dX11_together_9 : decode cX11_together 9 = .ok (.ifCond .eq 9, 3) := by decide +kernel
theorem dX11_together_12 : decode cX11_together 12 = .ok (.aload_n 0, 1) := by decide +kernel
theorem dX11_together_13 : decode cX11_together 13 = .ok (.iconst (-1), 1) := by decide +kernel
theorem dX11_together_14 : decode cX11_together 14 = .ok (.invokevirtual 55, 3) := by decide +kernel
theorem dX11_together_17 : decode cX11_together 17 = .ok (.ireturn, 1) := by decide +kernel
theorem dX11_together_18 : decode cX11_together 18 = .ok (.aload_n 0, 1) := by decide +kernel
theorem dX11_together_19 : decode cX11_together 19 = .ok (.getfield 33, 3) := by decide +kernel
theorem dX11_together_22 : decode cX11_together 22 = .ok (.aload_n 0, 1) := by decide +kernel
theorem dX11_together_23 : decode cX11_together 23 = .ok (.getfield 10, 3) := by decide +kernel
theorem dX11_together_26 : decode cX11_together 26 = .ok (.iload_n 1, 1) := by decide +kernel
theorem dX11_together_27 : decode cX11_together 27 = .ok (.invokevirtual 203, 3) := by decide +kernel
theorem dX11_together_30 : decode cX11_together 30 = .ok (.invokestatic 117, 3) := by decide +kernel
theorem dX11_together_33 : decode cX11_together 33 = .ok (.ireturn, 1) := by decide +kernel
noncomputable def g_X_together (x1 : Int32) (σ : am_St) : Option (Int32 × am_St) :=
  if (am_ush x1 (σ.1 1 6)) = 0 then
    (f_W_allAgree_1 x1 σ).bind (fun p1 =>
      (f_X_bit p1.1 p1.2).bind (fun p2 =>
        some ((p2.1, p2.2))))
  else
    (f_X_refuse (-1) σ).bind (fun p3 =>
      some ((p3.1, p3.2)))
noncomputable def f_X_together (x1 : Int32) (σ : am_St) : Option (Int32 × am_St) := am_lk (g_X_together x1 σ)
theorem eq_X_together (x1 : Int32) (σ : am_St) : f_X_together x1 σ = g_X_together x1 σ := am_lk_eq _
set_option maxRecDepth 100000 in
set_option maxHeartbeats 4000000 in
theorem s_X_together (G : am_G) (x1 : Int32) (σ : am_St) (r : Int32 × am_St) (Q : am_AQ) (e : f_X_together x1 σ = some r) (hr : am_Pi r Q) : am_AW G M_X_together 0 [(0, .ref 0), (1, .int x1)] [] σ Q :=
  (show am_Snd G M_X_together 0 am_Pi _ from (sn_iload_n (pc := 0) (i := 1) dX11_together_0 rfl (sn_aload_n (pc := 1) (i := 0) dX11_together_1 rfl (sn_gR (r0 := 1) (pc := 2) (h := 0) (f := 0) dX11_together_2 am_CL_10 sh_0 rfl (Nat.le_of_ble_eq_true rfl) tw_219 (sn_gI (pc := 5) (h := 1) (f := 6) dX11_together_5 am_CL_3 sh_1 rfl (Nat.le_of_ble_eq_true rfl) tw_106 (sn_iushr (pc := 8) dX11_together_8 (sn_if_eq (pc := 9) (tgt := 18) dX11_together_9 rfl (sn_aload_n (pc := 18) (i := 0) dX11_together_18 rfl (sn_gR (r0 := 54) (pc := 19) (h := 0) (f := 4) dX11_together_19 am_CL_10 sh_0 rfl (Nat.le_of_ble_eq_true rfl) tw_223 (sn_aload_n (pc := 22) (i := 0) dX11_together_22 rfl (sn_gR (r0 := 1) (pc := 23) (h := 0) (f := 0) dX11_together_23 am_CL_10 sh_0 rfl (Nat.le_of_ble_eq_true rfl) tw_219 (sn_iload_n (pc := 26) (i := 1) dX11_together_26 rfl (sn_callV (pc := 27) (N := M_W_allAgree) dX11_together_27 (cal_W_allAgree_1 G) sh_54 rfl tw_664 tw_665 tw_666 tw_10 tw_667 dsc_X10_allAgree rfl (sn_callS (pc := 30) (N := M_X_bit) dX11_together_30 (cal_X_bit G) tw_531 tw_412 tw_1 tw_413 dsc_X11_bit rfl (sn_reti (pc := 33) (R := fun x τ => (some ((x, τ)))) dX11_together_33 rfl (fun _ _ _ _ e h => by cases e; exact h))))))))) (sn_aload_n (pc := 12) (i := 0) dX11_together_12 rfl (sn_iconst (pc := 13) (v := (-1)) dX11_together_13 (show Int32.ofInt (-1) = (-1) by decide) (sn_callV (pc := 14) (N := M_X_refuse) dX11_together_14 (cal_X_refuse G) sh_0 rfl tw_251 tw_253 tp_0 tw_1 tw_254 dsc_X11_refuse rfl (sn_reti (pc := 17) (R := fun x τ => (some ((x, τ)))) dX11_together_17 rfl (fun _ _ _ _ e h => by cases e; exact h)))))))))))) _ _ _ _ _ ((eq_X_together x1 σ).symm.trans e) hr
noncomputable def cF_X_together : am_Fn := fun _ args σ K => match args with
  | [.ref q0, .int z1] => match Nat.beq q0 0 with
    | true => (f_X_together z1 σ).bind (fun p => K (some (.int p.1)) p.2)
    | _ => none
  | _ => none
theorem cal_X_together (G : am_G) : am_Cal G M_X_together cF_X_together := by
  intro ρ args σ K r e
  unfold cF_X_together at e
  split at e
  · split at e
    · rename_i hq0
      obtain ⟨p, h1, h2⟩ := am_bind_some e
      rw [Nat.eq_of_beq_eq_true hq0]
      exact ⟨some (.int p.1), p.2, am_Met.of rfl (Nat.le_of_ble_eq_true rfl) (s_X_together G _ σ p _ h1 ⟨rfl, rfl⟩), h2⟩
    · cases e
  · cases e
abbrev M_JI_numberOfLeadingZeros : am_MD := (yJ6_numberOfLeadingZeros_0f7a4, cJ6_numberOfLeadingZeros_0f7a4, 2, (some .int), 0, 0)
theorem dJ6_numberOfLeadingZeros_0f7a4_0 : decode cJ6_numberOfLeadingZeros_0f7a4 0 = .ok (.iload_n 0, 1) := by decide +kernel
theorem dJ6_numberOfLeadingZeros_0f7a4_1 : decode cJ6_numberOfLeadingZeros_0f7a4 1 = .ok (.ifCond .gt 14, 3) := by decide +kernel
theorem dJ6_numberOfLeadingZeros_0f7a4_4 : decode cJ6_numberOfLeadingZeros_0f7a4 4 = .ok (.iload_n 0, 1) := by decide +kernel
theorem dJ6_numberOfLeadingZeros_0f7a4_5 : decode cJ6_numberOfLeadingZeros_0f7a4 5 = .ok (.ifCond .ne 8, 3) := by decide +kernel
theorem dJ6_numberOfLeadingZeros_0f7a4_8 : decode cJ6_numberOfLeadingZeros_0f7a4 8 = .ok (.bipush 32, 2) := by decide +kernel
theorem dJ6_numberOfLeadingZeros_0f7a4_10 : decode cJ6_numberOfLeadingZeros_0f7a4 10 = .ok (.goto 4, 3) := by decide +kernel
theorem dJ6_numberOfLeadingZeros_0f7a4_13 : decode cJ6_numberOfLeadingZeros_0f7a4 13 = .ok (.iconst 0, 1) := by decide +kernel
theorem dJ6_numberOfLeadingZeros_0f7a4_14 : decode cJ6_numberOfLeadingZeros_0f7a4 14 = .ok (.ireturn, 1) := by decide +kernel
theorem dJ6_numberOfLeadingZeros_0f7a4_15 : decode cJ6_numberOfLeadingZeros_0f7a4 15 = .ok (.bipush 31, 2) := by decide +kernel
theorem dJ6_numberOfLeadingZeros_0f7a4_17 : decode cJ6_numberOfLeadingZeros_0f7a4 17 = .ok (.istore_n 1, 1) := by decide +kernel
theorem dJ6_numberOfLeadingZeros_0f7a4_18 : decode cJ6_numberOfLeadingZeros_0f7a4 18 = .ok (.iload_n 0, 1) := by decide +kernel
theorem dJ6_numberOfLeadingZeros_0f7a4_19 : decode cJ6_numberOfLeadingZeros_0f7a4 19 = .ok (.ldc_w 264, 3) := by decide +kernel
theorem dJ6_numberOfLeadingZeros_0f7a4_22 : decode cJ6_numberOfLeadingZeros_0f7a4 22 = .ok (.if_icmp .lt 11, 3) := by decide +kernel
theorem dJ6_numberOfLeadingZeros_0f7a4_25 : decode cJ6_numberOfLeadingZeros_0f7a4 25 = .ok (.iinc 1 (-16), 3) := by decide +kernel
theorem dJ6_numberOfLeadingZeros_0f7a4_28 : decode cJ6_numberOfLeadingZeros_0f7a4 28 = .ok (.iload_n 0, 1) := by decide +kernel
theorem dJ6_numberOfLeadingZeros_0f7a4_29 : decode cJ6_numberOfLeadingZeros_0f7a4 29 = .ok (.bipush 16, 2) := by decide +kernel
theorem dJ6_numberOfLeadingZeros_0f7a4_31 : decode cJ6_numberOfLeadingZeros_0f7a4 31 = .ok (.iushr, 1) := by decide +kernel
theorem dJ6_numberOfLeadingZeros_0f7a4_32 : decode cJ6_numberOfLeadingZeros_0f7a4 32 = .ok (.istore_n 0, 1) := by decide +kernel
theorem dJ6_numberOfLeadingZeros_0f7a4_33 : decode cJ6_numberOfLeadingZeros_0f7a4 33 = .ok (.iload_n 0, 1) := by decide +kernel
theorem dJ6_numberOfLeadingZeros_0f7a4_34 : decode cJ6_numberOfLeadingZeros_0f7a4 34 = .ok (.sipush 256, 3) := by decide +kernel
theorem dJ6_numberOfLeadingZeros_0f7a4_37 : decode cJ6_numberOfLeadingZeros_0f7a4 37 = .ok (.if_icmp .lt 11, 3) := by decide +kernel
theorem dJ6_numberOfLeadingZeros_0f7a4_40 : decode cJ6_numberOfLeadingZeros_0f7a4 40 = .ok (.iinc 1 (-8), 3) := by decide +kernel
theorem dJ6_numberOfLeadingZeros_0f7a4_43 : decode cJ6_numberOfLeadingZeros_0f7a4 43 = .ok (.iload_n 0, 1) := by decide +kernel
theorem dJ6_numberOfLeadingZeros_0f7a4_44 : decode cJ6_numberOfLeadingZeros_0f7a4 44 = .ok (.bipush 8, 2) := by decide +kernel
theorem dJ6_numberOfLeadingZeros_0f7a4_46 : decode cJ6_numberOfLeadingZeros_0f7a4 46 = .ok (.iushr, 1) := by decide +kernel
theorem dJ6_numberOfLeadingZeros_0f7a4_47 : decode cJ6_numberOfLeadingZeros_0f7a4 47 = .ok (.istore_n 0, 1) := by decide +kernel
theorem dJ6_numberOfLeadingZeros_0f7a4_48 : decode cJ6_numberOfLeadingZeros_0f7a4 48 = .ok (.iload_n 0, 1) := by decide +kernel
theorem dJ6_numberOfLeadingZeros_0f7a4_49 : decode cJ6_numberOfLeadingZeros_0f7a4 49 = .ok (.bipush 16, 2) := by decide +kernel
theorem dJ6_numberOfLeadingZeros_0f7a4_51 : decode cJ6_numberOfLeadingZeros_0f7a4 51 = .ok (.if_icmp .lt 10, 3) := by decide +kernel
theorem dJ6_numberOfLeadingZeros_0f7a4_54 : decode cJ6_numberOfLeadingZeros_0f7a4 54 = .ok (.iinc 1 (-4), 3) := by decide +kernel
theorem dJ6_numberOfLeadingZeros_0f7a4_57 : decode cJ6_numberOfLeadingZeros_0f7a4 57 = .ok (.iload_n 0, 1) := by decide +kernel
theorem dJ6_numberOfLeadingZeros_0f7a4_58 : decode cJ6_numberOfLeadingZeros_0f7a4 58 = .ok (.iconst 4, 1) := by decide +kernel
theorem dJ6_numberOfLeadingZeros_0f7a4_59 : decode cJ6_numberOfLeadingZeros_0f7a4 59 = .ok (.iushr, 1) := by decide +kernel
theorem dJ6_numberOfLeadingZeros_0f7a4_60 : decode cJ6_numberOfLeadingZeros_0f7a4 60 = .ok (.istore_n 0, 1) := by decide +kernel
theorem dJ6_numberOfLeadingZeros_0f7a4_61 : decode cJ6_numberOfLeadingZeros_0f7a4 61 = .ok (.iload_n 0, 1) := by decide +kernel
theorem dJ6_numberOfLeadingZeros_0f7a4_62 : decode cJ6_numberOfLeadingZeros_0f7a4 62 = .ok (.iconst 4, 1) := by decide +kernel
theorem dJ6_numberOfLeadingZeros_0f7a4_63 : decode cJ6_numberOfLeadingZeros_0f7a4 63 = .ok (.if_icmp .lt 10, 3) := by decide +kernel
theorem dJ6_numberOfLeadingZeros_0f7a4_66 : decode cJ6_numberOfLeadingZeros_0f7a4 66 = .ok (.iinc 1 (-2), 3) := by decide +kernel
theorem dJ6_numberOfLeadingZeros_0f7a4_69 : decode cJ6_numberOfLeadingZeros_0f7a4 69 = .ok (.iload_n 0, 1) := by decide +kernel
theorem dJ6_numberOfLeadingZeros_0f7a4_70 : decode cJ6_numberOfLeadingZeros_0f7a4 70 = .ok (.iconst 2, 1) := by decide +kernel
theorem dJ6_numberOfLeadingZeros_0f7a4_71 : decode cJ6_numberOfLeadingZeros_0f7a4 71 = .ok (.iushr, 1) := by decide +kernel
theorem dJ6_numberOfLeadingZeros_0f7a4_72 : decode cJ6_numberOfLeadingZeros_0f7a4 72 = .ok (.istore_n 0, 1) := by decide +kernel
theorem dJ6_numberOfLeadingZeros_0f7a4_73 : decode cJ6_numberOfLeadingZeros_0f7a4 73 = .ok (.iload_n 1, 1) := by decide +kernel
theorem dJ6_numberOfLeadingZeros_0f7a4_74 : decode cJ6_numberOfLeadingZeros_0f7a4 74 = .ok (.iload_n 0, 1) := by decide +kernel
theorem dJ6_numberOfLeadingZeros_0f7a4_75 : decode cJ6_numberOfLeadingZeros_0f7a4 75 = .ok (.iconst 1, 1) := by decide +kernel
theorem dJ6_numberOfLeadingZeros_0f7a4_76 : decode cJ6_numberOfLeadingZeros_0f7a4 76 = .ok (.iushr, 1) := by decide +kernel
theorem dJ6_numberOfLeadingZeros_0f7a4_77 : decode cJ6_numberOfLeadingZeros_0f7a4 77 = .ok (.isub, 1) := by decide +kernel
theorem dJ6_numberOfLeadingZeros_0f7a4_78 : decode cJ6_numberOfLeadingZeros_0f7a4 78 = .ok (.ireturn, 1) := by decide +kernel
noncomputable def g_JI_numberOfLeadingZeros_73 (x0 : Int32) (x1 : Int32) (σ : am_St) : Option (Int32 × am_St) :=
  some ((x1 - (am_ush x0 1), σ))
noncomputable def f_JI_numberOfLeadingZeros_73 (x0 : Int32) (x1 : Int32) (σ : am_St) : Option (Int32 × am_St) := am_lk (g_JI_numberOfLeadingZeros_73 x0 x1 σ)
theorem eq_JI_numberOfLeadingZeros_73 (x0 : Int32) (x1 : Int32) (σ : am_St) : f_JI_numberOfLeadingZeros_73 x0 x1 σ = g_JI_numberOfLeadingZeros_73 x0 x1 σ := am_lk_eq _
set_option maxRecDepth 100000 in
set_option maxHeartbeats 4000000 in
theorem s_JI_numberOfLeadingZeros_73 (G : am_G) (x0 : Int32) (x1 : Int32) (σ : am_St) (r : Int32 × am_St) (Q : am_AQ) (e : f_JI_numberOfLeadingZeros_73 x0 x1 σ = some r) (hr : am_Pi r Q) : am_AW G M_JI_numberOfLeadingZeros 73 [(1, .int x1), (0, .int x0)] [] σ Q :=
  (show am_Snd G M_JI_numberOfLeadingZeros 73 am_Pi _ from (sn_iload_n (pc := 73) (i := 1) dJ6_numberOfLeadingZeros_0f7a4_73 rfl (sn_iload_n (pc := 74) (i := 0) dJ6_numberOfLeadingZeros_0f7a4_74 rfl (sn_iconst (pc := 75) (v := 1) dJ6_numberOfLeadingZeros_0f7a4_75 rfl (sn_iushr (pc := 76) dJ6_numberOfLeadingZeros_0f7a4_76 (sn_isub (pc := 77) dJ6_numberOfLeadingZeros_0f7a4_77 (sn_reti (pc := 78) (R := fun x τ => (some ((x, τ)))) dJ6_numberOfLeadingZeros_0f7a4_78 rfl (fun _ _ _ _ e h => by cases e; exact h)))))))) _ _ _ _ _ ((eq_JI_numberOfLeadingZeros_73 x0 x1 σ).symm.trans e) hr
noncomputable def g_JI_numberOfLeadingZeros_61 (x0 : Int32) (x1 : Int32) (σ : am_St) : Option (Int32 × am_St) :=
  if x0 < 4 then
    f_JI_numberOfLeadingZeros_73 x0 x1 σ
  else
    let v1 := x1 + (-2)
    let v2 := am_ush x0 2
    f_JI_numberOfLeadingZeros_73 v2 v1 σ
noncomputable def f_JI_numberOfLeadingZeros_61 (x0 : Int32) (x1 : Int32) (σ : am_St) : Option (Int32 × am_St) := am_lk (g_JI_numberOfLeadingZeros_61 x0 x1 σ)
theorem eq_JI_numberOfLeadingZeros_61 (x0 : Int32) (x1 : Int32) (σ : am_St) : f_JI_numberOfLeadingZeros_61 x0 x1 σ = g_JI_numberOfLeadingZeros_61 x0 x1 σ := am_lk_eq _
set_option maxRecDepth 100000 in
set_option maxHeartbeats 4000000 in
theorem s_JI_numberOfLeadingZeros_61 (G : am_G) (x0 : Int32) (x1 : Int32) (σ : am_St) (r : Int32 × am_St) (Q : am_AQ) (e : f_JI_numberOfLeadingZeros_61 x0 x1 σ = some r) (hr : am_Pi r Q) : am_AW G M_JI_numberOfLeadingZeros 61 [(1, .int x1), (0, .int x0)] [] σ Q :=
  (show am_Snd G M_JI_numberOfLeadingZeros 61 am_Pi _ from (sn_iload_n (pc := 61) (i := 0) dJ6_numberOfLeadingZeros_0f7a4_61 rfl (sn_iconst (pc := 62) (v := 4) dJ6_numberOfLeadingZeros_0f7a4_62 rfl (sn_icmp_lt (pc := 63) (tgt := 73) dJ6_numberOfLeadingZeros_0f7a4_63 rfl (sn_lf (pc := 73) (ln_i (i := 0) (fun z0 => (ln_i (i := 1) (fun z1 => (ln_end (o := fun τ => f_JI_numberOfLeadingZeros_73 z0 z1 τ) (fun _ _ _ e h => s_JI_numberOfLeadingZeros_73 G z0 z1 _ _ _ e h))))))) (sn_iinc (pc := 66) (v := (-2)) dJ6_numberOfLeadingZeros_0f7a4_66 (show Int32.ofInt (-2) = (-2) by decide) (Nat.le_of_ble_eq_true rfl) (sn_iload_n (pc := 69) (i := 0) dJ6_numberOfLeadingZeros_0f7a4_69 rfl (sn_iconst (pc := 70) (v := 2) dJ6_numberOfLeadingZeros_0f7a4_70 rfl (sn_iushr (pc := 71) dJ6_numberOfLeadingZeros_0f7a4_71 (sn_istore_n (pc := 72) (i := 0) dJ6_numberOfLeadingZeros_0f7a4_72 rfl (Nat.le_of_ble_eq_true rfl) (sn_lf (pc := 73) (ln_i (i := 0) (fun z0 => (ln_i (i := 1) (fun z1 => (ln_end (o := fun τ => f_JI_numberOfLeadingZeros_73 z0 z1 τ) (fun _ _ _ e h => s_JI_numberOfLeadingZeros_73 G z0 z1 _ _ _ e h)))))))))))))))) _ _ _ _ _ ((eq_JI_numberOfLeadingZeros_61 x0 x1 σ).symm.trans e) hr
noncomputable def g_JI_numberOfLeadingZeros_48 (x0 : Int32) (x1 : Int32) (σ : am_St) : Option (Int32 × am_St) :=
  if x0 < 16 then
    f_JI_numberOfLeadingZeros_61 x0 x1 σ
  else
    let v1 := x1 + (-4)
    let v2 := am_ush x0 4
    f_JI_numberOfLeadingZeros_61 v2 v1 σ
noncomputable def f_JI_numberOfLeadingZeros_48 (x0 : Int32) (x1 : Int32) (σ : am_St) : Option (Int32 × am_St) := am_lk (g_JI_numberOfLeadingZeros_48 x0 x1 σ)
theorem eq_JI_numberOfLeadingZeros_48 (x0 : Int32) (x1 : Int32) (σ : am_St) : f_JI_numberOfLeadingZeros_48 x0 x1 σ = g_JI_numberOfLeadingZeros_48 x0 x1 σ := am_lk_eq _
set_option maxRecDepth 100000 in
set_option maxHeartbeats 4000000 in
theorem s_JI_numberOfLeadingZeros_48 (G : am_G) (x0 : Int32) (x1 : Int32) (σ : am_St) (r : Int32 × am_St) (Q : am_AQ) (e : f_JI_numberOfLeadingZeros_48 x0 x1 σ = some r) (hr : am_Pi r Q) : am_AW G M_JI_numberOfLeadingZeros 48 [(1, .int x1), (0, .int x0)] [] σ Q :=
  (show am_Snd G M_JI_numberOfLeadingZeros 48 am_Pi _ from (sn_iload_n (pc := 48) (i := 0) dJ6_numberOfLeadingZeros_0f7a4_48 rfl (sn_bipush (pc := 49) (v := 16) dJ6_numberOfLeadingZeros_0f7a4_49 rfl (sn_icmp_lt (pc := 51) (tgt := 61) dJ6_numberOfLeadingZeros_0f7a4_51 rfl (sn_lf (pc := 61) (ln_i (i := 0) (fun z0 => (ln_i (i := 1) (fun z1 => (ln_end (o := fun τ => f_JI_numberOfLeadingZeros_61 z0 z1 τ) (fun _ _ _ e h => s_JI_numberOfLeadingZeros_61 G z0 z1 _ _ _ e h))))))) (sn_iinc (pc := 54) (v := (-4)) dJ6_numberOfLeadingZeros_0f7a4_54 (show Int32.ofInt (-4) = (-4) by decide) (Nat.le_of_ble_eq_true rfl) (sn_iload_n (pc := 57) (i := 0) dJ6_numberOfLeadingZeros_0f7a4_57 rfl (sn_iconst (pc := 58) (v := 4) dJ6_numberOfLeadingZeros_0f7a4_58 rfl (sn_iushr (pc := 59) dJ6_numberOfLeadingZeros_0f7a4_59 (sn_istore_n (pc := 60) (i := 0) dJ6_numberOfLeadingZeros_0f7a4_60 rfl (Nat.le_of_ble_eq_true rfl) (sn_lf (pc := 61) (ln_i (i := 0) (fun z0 => (ln_i (i := 1) (fun z1 => (ln_end (o := fun τ => f_JI_numberOfLeadingZeros_61 z0 z1 τ) (fun _ _ _ e h => s_JI_numberOfLeadingZeros_61 G z0 z1 _ _ _ e h)))))))))))))))) _ _ _ _ _ ((eq_JI_numberOfLeadingZeros_48 x0 x1 σ).symm.trans e) hr
noncomputable def g_JI_numberOfLeadingZeros_33 (x0 : Int32) (x1 : Int32) (σ : am_St) : Option (Int32 × am_St) :=
  if x0 < 256 then
    f_JI_numberOfLeadingZeros_48 x0 x1 σ
  else
    let v1 := x1 + (-8)
    let v2 := am_ush x0 8
    f_JI_numberOfLeadingZeros_48 v2 v1 σ
noncomputable def f_JI_numberOfLeadingZeros_33 (x0 : Int32) (x1 : Int32) (σ : am_St) : Option (Int32 × am_St) := am_lk (g_JI_numberOfLeadingZeros_33 x0 x1 σ)
theorem eq_JI_numberOfLeadingZeros_33 (x0 : Int32) (x1 : Int32) (σ : am_St) : f_JI_numberOfLeadingZeros_33 x0 x1 σ = g_JI_numberOfLeadingZeros_33 x0 x1 σ := am_lk_eq _
set_option maxRecDepth 100000 in
set_option maxHeartbeats 4000000 in
theorem s_JI_numberOfLeadingZeros_33 (G : am_G) (x0 : Int32) (x1 : Int32) (σ : am_St) (r : Int32 × am_St) (Q : am_AQ) (e : f_JI_numberOfLeadingZeros_33 x0 x1 σ = some r) (hr : am_Pi r Q) : am_AW G M_JI_numberOfLeadingZeros 33 [(1, .int x1), (0, .int x0)] [] σ Q :=
  (show am_Snd G M_JI_numberOfLeadingZeros 33 am_Pi _ from (sn_iload_n (pc := 33) (i := 0) dJ6_numberOfLeadingZeros_0f7a4_33 rfl (sn_sipush (pc := 34) (v := 256) dJ6_numberOfLeadingZeros_0f7a4_34 rfl (sn_icmp_lt (pc := 37) (tgt := 48) dJ6_numberOfLeadingZeros_0f7a4_37 rfl (sn_lf (pc := 48) (ln_i (i := 0) (fun z0 => (ln_i (i := 1) (fun z1 => (ln_end (o := fun τ => f_JI_numberOfLeadingZeros_48 z0 z1 τ) (fun _ _ _ e h => s_JI_numberOfLeadingZeros_48 G z0 z1 _ _ _ e h))))))) (sn_iinc (pc := 40) (v := (-8)) dJ6_numberOfLeadingZeros_0f7a4_40 (show Int32.ofInt (-8) = (-8) by decide) (Nat.le_of_ble_eq_true rfl) (sn_iload_n (pc := 43) (i := 0) dJ6_numberOfLeadingZeros_0f7a4_43 rfl (sn_bipush (pc := 44) (v := 8) dJ6_numberOfLeadingZeros_0f7a4_44 rfl (sn_iushr (pc := 46) dJ6_numberOfLeadingZeros_0f7a4_46 (sn_istore_n (pc := 47) (i := 0) dJ6_numberOfLeadingZeros_0f7a4_47 rfl (Nat.le_of_ble_eq_true rfl) (sn_lf (pc := 48) (ln_i (i := 0) (fun z0 => (ln_i (i := 1) (fun z1 => (ln_end (o := fun τ => f_JI_numberOfLeadingZeros_48 z0 z1 τ) (fun _ _ _ e h => s_JI_numberOfLeadingZeros_48 G z0 z1 _ _ _ e h)))))))))))))))) _ _ _ _ _ ((eq_JI_numberOfLeadingZeros_33 x0 x1 σ).symm.trans e) hr
noncomputable def g_JI_numberOfLeadingZeros (x0 : Int32) (σ : am_St) : Option (Int32 × am_St) :=
  if 0 < x0 then
    if x0 < 65536 then
      f_JI_numberOfLeadingZeros_33 x0 31 σ
    else
      let v1 := 31 + (-16)
      let v2 := am_ush x0 16
      f_JI_numberOfLeadingZeros_33 v2 v1 σ
  else
    if x0 = 0 then
      some ((32, σ))
    else
      some ((0, σ))
noncomputable def f_JI_numberOfLeadingZeros (x0 : Int32) (σ : am_St) : Option (Int32 × am_St) := am_lk (g_JI_numberOfLeadingZeros x0 σ)
theorem eq_JI_numberOfLeadingZeros (x0 : Int32) (σ : am_St) : f_JI_numberOfLeadingZeros x0 σ = g_JI_numberOfLeadingZeros x0 σ := am_lk_eq _
set_option maxRecDepth 100000 in
set_option maxHeartbeats 4000000 in
theorem s_JI_numberOfLeadingZeros (G : am_G) (x0 : Int32) (σ : am_St) (r : Int32 × am_St) (Q : am_AQ) (e : f_JI_numberOfLeadingZeros x0 σ = some r) (hr : am_Pi r Q) : am_AW G M_JI_numberOfLeadingZeros 0 [(0, .int x0)] [] σ Q :=
  (show am_Snd G M_JI_numberOfLeadingZeros 0 am_Pi _ from (sn_iload_n (pc := 0) (i := 0) dJ6_numberOfLeadingZeros_0f7a4_0 rfl (sn_if_gt (pc := 1) (tgt := 15) dJ6_numberOfLeadingZeros_0f7a4_1 rfl (sn_bipush (pc := 15) (v := 31) dJ6_numberOfLeadingZeros_0f7a4_15 rfl (sn_istore_n (pc := 17) (i := 1) dJ6_numberOfLeadingZeros_0f7a4_17 rfl (Nat.le_of_ble_eq_true rfl) (sn_iload_n (pc := 18) (i := 0) dJ6_numberOfLeadingZeros_0f7a4_18 rfl (sn_ldcw (pc := 19) dJ6_numberOfLeadingZeros_0f7a4_19 tw_692 (sn_icmp_lt (pc := 22) (tgt := 33) dJ6_numberOfLeadingZeros_0f7a4_22 rfl (sn_lf (pc := 33) (ln_i (i := 0) (fun z0 => (ln_i (i := 1) (fun z1 => (ln_end (o := fun τ => f_JI_numberOfLeadingZeros_33 z0 z1 τ) (fun _ _ _ e h => s_JI_numberOfLeadingZeros_33 G z0 z1 _ _ _ e h))))))) (sn_iinc (pc := 25) (v := (-16)) dJ6_numberOfLeadingZeros_0f7a4_25 (show Int32.ofInt (-16) = (-16) by decide) (Nat.le_of_ble_eq_true rfl) (sn_iload_n (pc := 28) (i := 0) dJ6_numberOfLeadingZeros_0f7a4_28 rfl (sn_bipush (pc := 29) (v := 16) dJ6_numberOfLeadingZeros_0f7a4_29 rfl (sn_iushr (pc := 31) dJ6_numberOfLeadingZeros_0f7a4_31 (sn_istore_n (pc := 32) (i := 0) dJ6_numberOfLeadingZeros_0f7a4_32 rfl (Nat.le_of_ble_eq_true rfl) (sn_lf (pc := 33) (ln_i (i := 0) (fun z0 => (ln_i (i := 1) (fun z1 => (ln_end (o := fun τ => f_JI_numberOfLeadingZeros_33 z0 z1 τ) (fun _ _ _ e h => s_JI_numberOfLeadingZeros_33 G z0 z1 _ _ _ e h))))))))))))))))) (sn_iload_n (pc := 4) (i := 0) dJ6_numberOfLeadingZeros_0f7a4_4 rfl (sn_if_ne (pc := 5) (tgt := 13) dJ6_numberOfLeadingZeros_0f7a4_5 rfl (sn_iconst (pc := 13) (v := 0) dJ6_numberOfLeadingZeros_0f7a4_13 rfl (sn_reti (pc := 14) (R := fun x τ => (some ((x, τ)))) dJ6_numberOfLeadingZeros_0f7a4_14 rfl (fun _ _ _ _ e h => by cases e; exact h))) (sn_bipush (pc := 8) (v := 32) dJ6_numberOfLeadingZeros_0f7a4_8 rfl (sn_goto (pc := 10) (tgt := 14) dJ6_numberOfLeadingZeros_0f7a4_10 rfl (sn_reti (pc := 14) (R := fun x τ => (some ((x, τ)))) dJ6_numberOfLeadingZeros_0f7a4_14 rfl (fun _ _ _ _ e h => by cases e; exact h))))))))) _ _ _ _ _ ((eq_JI_numberOfLeadingZeros x0 σ).symm.trans e) hr
noncomputable def cF_JI_numberOfLeadingZeros : am_Fn := fun _ args σ K => match args with
  | [.int z0] => (f_JI_numberOfLeadingZeros z0 σ).bind (fun p => K (some (.int p.1)) p.2)
  | _ => none
theorem cal_JI_numberOfLeadingZeros (G : am_G) : am_Cal G M_JI_numberOfLeadingZeros cF_JI_numberOfLeadingZeros := by
  intro ρ args σ K r e
  unfold cF_JI_numberOfLeadingZeros at e
  split at e
  · obtain ⟨p, h1, h2⟩ := am_bind_some e
    exact ⟨some (.int p.1), p.2, am_Met.of rfl (Nat.le_of_ble_eq_true rfl) (s_JI_numberOfLeadingZeros G _ σ p _ h1 ⟨rfl, rfl⟩), h2⟩
  · cases e
abbrev M_W_sortSets : am_MD := (yX10_sortSets, cX10_sortSets, 6, none, 3, 77)
theorem dX10_sortSets_0 : decode cX10_sortSets 0 = .ok (.aload_n 0, 1) := by decide +kernel
theorem dX10_sortSets_1 : decode cX10_sortSets 1 = .ok (.getfield 24, 3) := by decide +kernel
theorem dX10_sortSets_4 : decode cX10_sortSets 4 = .ok (.iconst 0, 1) := by decide +kernel
theorem dX10_sortSets_5 : decode cX10_sortSets 5 = .ok (.iconst 1, 1) := by decide +kernel
theorem dX10_sortSets_6 : decode cX10_sortSets 6 = .ok (.bastore, 1) := by decide +kernel
theorem dX10_sortSets_7 : decode cX10_sortSets 7 = .ok (.aload_n 0, 1) := by decide +kernel
theorem dX10_sortSets_8 : decode cX10_sortSets 8 = .ok (.getfield 24, 3) := by decide +kernel
theorem dX10_sortSets_11 : decode cX10_sortSets 11 = .ok (.arraylength, 1) := by decide +kernel
theorem dX10_sortSets_12 : decode cX10_sortSets 12 = .ok (.iconst 1, 1) := by decide +kernel
theorem dX10_sortSets_13 : decode cX10_sortSets 13 = .ok (.aload_n 1, 1) := by decide +kernel
theorem dX10_sortSets_14 : decode cX10_sortSets 14 = .ok (.getfield 77, 3) := by decide +kernel
theorem dX10_sortSets_17 : decode cX10_sortSets 17 = .ok (.ishl, 1) := by decide +kernel
theorem dX10_sortSets_18 : decode cX10_sortSets 18 = .ok (.invokestatic 110, 3) := by decide +kernel
theorem dX10_sortSets_21 : decode cX10_sortSets 21 = .ok (.istore_n 2, 1) := by decide +kernel
theorem dX10_sortSets_22 : decode cX10_sortSets 22 = .ok (.iconst 1, 1) := by decide +kernel
theorem dX10_sortSets_23 : decode cX10_sortSets 23 = .ok (.istore_n 3, 1) := by decide +kernel
theorem dX10_sortSets_24 : decode cX10_sortSets 24 = .ok (.iload_n 3, 1) := by decide +kernel
theorem dX10_sortSets_25 : decode cX10_sortSets 25 = .ok (.iload_n 2, 1) := by decide +kernel
theorem dX10_sortSets_26 : decode cX10_sortSets 26 = .ok (.if_icmp .ge 65, 3) := by decide +kernel
theorem dX10_sortSets_29 : decode cX10_sortSets 29 = .ok (.bipush 31, 2) := by decide +kernel
theorem dX10_sortSets_31 : decode cX10_sortSets 31 = .ok (.iload_n 3, 1) := by decide +kernel
theorem dX10_sortSets_32 : decode cX10_sortSets 32 = .ok (.invokestatic 113, 3) := by decide +kernel
theorem dX10_sortSets_35 : decode cX10_sortSets 35 = .ok (.isub, 1) := by decide +kernel
theorem dX10_sortSets_36 : decode cX10_sortSets 36 = .ok (.istore 4, 2) := by decide +kernel
theorem dX10_sortSets_38 : decode cX10_sortSets 38 = .ok (.iload_n 3, 1) := by decide +kernel
theorem dX10_sortSets_39 : decode cX10_sortSets 39 = .ok (.iconst 1, 1) := by decide +kernel
theorem dX10_sortSets_40 : decode cX10_sortSets 40 = .ok (.iload 4, 2) := by decide +kernel
theorem dX10_sortSets_42 : decode cX10_sortSets 42 = .ok (.ishl, 1) := by decide +kernel
theorem dX10_sortSets_43 : decode cX10_sortSets 43 = .ok (.ixor, 1) := by decide +kernel
theorem dX10_sortSets_44 : decode cX10_sortSets 44 = .ok (.istore 5, 2) := by decide +kernel
theorem dX10_sortSets_46 : decode cX10_sortSets 46 = .ok (.aload_n 0, 1) := by decide +kernel
theorem dX10_sortSets_47 : decode cX10_sortSets 47 = .ok (.getfield 24, 3) := by decide +kernel
theorem dX10_sortSets_50 : decode cX10_sortSets 50 = .ok (.iload_n 3, 1) := by decide +kernel
theorem dX10_sortSets_51 : decode cX10_sortSets 51 = .ok (.aload_n 0, 1) := by decide +kernel
theorem dX10_sortSets_52 : decode cX10_sortSets 52 = .ok (.getfield 24, 3) := by decide +kernel
theorem dX10_sortSets_55 : decode cX10_sortSets 55 = .ok (.iload 5, 2) := by decide +kernel
theorem dX10_sortSets_57 : decode cX10_sortSets 57 = .ok (.baload, 1) := by decide +kernel
theorem dX10_sortSets_58 : decode cX10_sortSets 58 = .ok (.ifCond .eq 25, 3) := by decide +kernel
theorem dX10_sortSets_61 : decode cX10_sortSets 61 = .ok (.aload_n 0, 1) := by decide +kernel
theorem dX10_sortSets_62 : decode cX10_sortSets 62 = .ok (.aload_n 1, 1) := by decide +kernel
theorem dX10_sortSets_63 : decode cX10_sortSets 63 = .ok (.aload_n 1, 1) := by decide +kernel
theorem dX10_sortSets_64 : decode cX10_sortSets 64 = .ok (.iload 4, 2) := by decide +kernel
theorem dX10_sortSets_66 : decode cX10_sortSets 66 = .ok (.invokevirtual 80, 3) := by decide +kernel
theorem dX10_sortSets_69 : decode cX10_sortSets 69 = .ok (.invokestatic 61, 3) := by decide +kernel
theorem dX10_sortSets_72 : decode cX10_sortSets 72 = .ok (.iload_n 3, 1) := by decide +kernel
theorem dX10_sortSets_73 : decode cX10_sortSets 73 = .ok (.invokevirtual 106, 3) := by decide +kernel
theorem dX10_sortSets_76 : decode cX10_sortSets 76 = .ok (.ifCond .eq 7, 3) := by decide +kernel
theorem dX10_sortSets_79 : decode cX10_sortSets 79 = .ok (.iconst 1, 1) := by decide +kernel
theorem dX10_sortSets_80 : decode cX10_sortSets 80 = .ok (.goto 4, 3) := by decide +kernel
theorem dX10_sortSets_83 : decode cX10_sortSets 83 = .ok (.iconst 0, 1) := by decide +kernel
theorem dX10_sortSets_84 : decode cX10_sortSets 84 = .ok (.bastore, 1) := by decide +kernel
theorem dX10_sortSets_85 : decode cX10_sortSets 85 = .ok (.iinc 3 1, 3) := by decide +kernel
theorem dX10_sortSets_88 : decode cX10_sortSets 88 = .ok (.goto (-64), 3) := by decide +kernel
theorem dX10_sortSets_91 : decode cX10_sortSets 91 = .ok (.return_, 1) := by decide +kernel
abbrev Pl_W_sortSets_1_24 (G : am_G) : ((Int32 × Int32 × am_St) ⊕ (am_St)) → am_AQ → Prop := am_PL G M_W_sortSets 24 (fun s : Int32 × Int32 × am_St => [(3, .int s.2.1), (2, .int s.1), (1, .ref 1), (0, .ref 54)]) (fun s => s.2.2) am_Pv
noncomputable def g_W_sortSets_1_84 (x2 : Int32) (x3 : Int32) (y1 : Int32) (y2 : Int32) (σ : am_St) : Option ((Int32 × Int32 × am_St) ⊕ (am_St)) :=
  if am_ix y1 256 = true then
    let s1 := am_sI σ 59 y1.toNatClampNeg (y2 &&& 1)
    let v2 := x3 + 1
    some (.inl (x2, v2, s1))
  else none
noncomputable def f_W_sortSets_1_84 (x2 : Int32) (x3 : Int32) (y1 : Int32) (y2 : Int32) (σ : am_St) : Option ((Int32 × Int32 × am_St) ⊕ (am_St)) := am_lk (g_W_sortSets_1_84 x2 x3 y1 y2 σ)
theorem eq_W_sortSets_1_84 (x2 : Int32) (x3 : Int32) (y1 : Int32) (y2 : Int32) (σ : am_St) : f_W_sortSets_1_84 x2 x3 y1 y2 σ = g_W_sortSets_1_84 x2 x3 y1 y2 σ := am_lk_eq _
set_option maxRecDepth 100000 in
set_option maxHeartbeats 4000000 in
theorem s_W_sortSets_1_84 (G : am_G) (x2 : Int32) (x3 : Int32) (y1 : Int32) (y2 : Int32) (σ : am_St) (r : (Int32 × Int32 × am_St) ⊕ (am_St)) (Q : am_AQ) (e : f_W_sortSets_1_84 x2 x3 y1 y2 σ = some r) (hr : (Pl_W_sortSets_1_24 G) r Q) : am_AW G M_W_sortSets 84 [(3, .int x3), (2, .int x2), (1, .ref 1), (0, .ref 54)] [.int y2, .int y1, .ref 59] σ Q :=
  (show am_Snd G M_W_sortSets 84 (Pl_W_sortSets_1_24 G) _ from (sn_sZ (pc := 84) (h := 59) dX10_sortSets_84 sh_59 (sn_iinc (pc := 85) (v := 1) dX10_sortSets_85 rfl (Nat.le_of_ble_eq_true rfl) (sn_goto (pc := 88) (tgt := 24) dX10_sortSets_88 rfl (sn_lf (pc := 24) (ln_a (i := 0) (q := 54) (ln_a (i := 1) (q := 1) (ln_i (i := 2) (fun z0 => (ln_i (i := 3) (fun z1 => (ln_end (o := fun τ => (some (.inl (z0, z1, τ)) : Option ((Int32 × Int32 × am_St) ⊕ (am_St)))) (fun _ _ _ e h => by cases e; exact h))))))))))))) _ _ _ _ _ ((eq_W_sortSets_1_84 x2 x3 y1 y2 σ).symm.trans e) hr
noncomputable def g_W_sortSets_1_83 (x2 : Int32) (x3 : Int32) (y1 : Int32) (σ : am_St) : Option ((Int32 × Int32 × am_St) ⊕ (am_St)) :=
  f_W_sortSets_1_84 x2 x3 y1 0 σ
noncomputable def f_W_sortSets_1_83 (x2 : Int32) (x3 : Int32) (y1 : Int32) (σ : am_St) : Option ((Int32 × Int32 × am_St) ⊕ (am_St)) := am_lk (g_W_sortSets_1_83 x2 x3 y1 σ)
theorem eq_W_sortSets_1_83 (x2 : Int32) (x3 : Int32) (y1 : Int32) (σ : am_St) : f_W_sortSets_1_83 x2 x3 y1 σ = g_W_sortSets_1_83 x2 x3 y1 σ := am_lk_eq _
set_option maxRecDepth 100000 in
set_option maxHeartbeats 4000000 in
theorem s_W_sortSets_1_83 (G : am_G) (x2 : Int32) (x3 : Int32) (y1 : Int32) (σ : am_St) (r : (Int32 × Int32 × am_St) ⊕ (am_St)) (Q : am_AQ) (e : f_W_sortSets_1_83 x2 x3 y1 σ = some r) (hr : (Pl_W_sortSets_1_24 G) r Q) : am_AW G M_W_sortSets 83 [(3, .int x3), (2, .int x2), (1, .ref 1), (0, .ref 54)] [.int y1, .ref 59] σ Q :=
  (show am_Snd G M_W_sortSets 83 (Pl_W_sortSets_1_24 G) _ from (sn_iconst (pc := 83) (v := 0) dX10_sortSets_83 rfl (sn_lf (pc := 84) (ln_a (i := 0) (q := 54) (ln_a (i := 1) (q := 1) (ln_i (i := 2) (fun z0 => (ln_i (i := 3) (fun z1 => (ln_si (fun w2 => (ln_si (fun w1 => (ln_sa (q := 59) (ln_end (o := fun τ => f_W_sortSets_1_84 z0 z1 w1 w2 τ) (fun _ _ _ e h => s_W_sortSets_1_84 G z0 z1 w1 w2 _ _ _ e h)))))))))))))))) _ _ _ _ _ ((eq_W_sortSets_1_83 x2 x3 y1 σ).symm.trans e) hr
noncomputable def g_W_sortSets_1_69 (x2 : Int32) (x3 : Int32) (y1 : Int32) (y4 : Int32) (σ : am_St) : Option ((Int32 × Int32 × am_St) ⊕ (am_St)) :=
  (f_H_childIn y4 σ).bind (fun p1 =>
    (f_W_agree_1 p1.1 x3 p1.2).bind (fun p2 =>
      if p2.1 = 0 then
        f_W_sortSets_1_83 x2 x3 y1 p2.2
      else
        f_W_sortSets_1_84 x2 x3 y1 1 p2.2))
noncomputable def f_W_sortSets_1_69 (x2 : Int32) (x3 : Int32) (y1 : Int32) (y4 : Int32) (σ : am_St) : Option ((Int32 × Int32 × am_St) ⊕ (am_St)) := am_lk (g_W_sortSets_1_69 x2 x3 y1 y4 σ)
theorem eq_W_sortSets_1_69 (x2 : Int32) (x3 : Int32) (y1 : Int32) (y4 : Int32) (σ : am_St) : f_W_sortSets_1_69 x2 x3 y1 y4 σ = g_W_sortSets_1_69 x2 x3 y1 y4 σ := am_lk_eq _
set_option maxRecDepth 100000 in
set_option maxHeartbeats 4000000 in
theorem s_W_sortSets_1_69 (G : am_G) (x2 : Int32) (x3 : Int32) (y1 : Int32) (y4 : Int32) (σ : am_St) (r : (Int32 × Int32 × am_St) ⊕ (am_St)) (Q : am_AQ) (e : f_W_sortSets_1_69 x2 x3 y1 y4 σ = some r) (hr : (Pl_W_sortSets_1_24 G) r Q) : am_AW G M_W_sortSets 69 [(3, .int x3), (2, .int x2), (1, .ref 1), (0, .ref 54)] [.int y4, .ref 1, .ref 54, .int y1, .ref 59] σ Q :=
  (show am_Snd G M_W_sortSets 69 (Pl_W_sortSets_1_24 G) _ from (sn_callS (pc := 69) (N := M_H_childIn) dX10_sortSets_69 (cal_H_childIn G) tw_348 tw_349 tw_2 tw_350 dsc_X3_childIn rfl (sn_iload_n (pc := 72) (i := 3) dX10_sortSets_72 rfl (sn_callV (pc := 73) (N := M_W_agree) dX10_sortSets_73 (cal_W_agree_1 G) sh_54 rfl tw_668 tw_670 tp_19 tw_10 tw_671 dsc_X10_agree rfl (sn_if_eq (pc := 76) (tgt := 83) dX10_sortSets_76 rfl (sn_lf (pc := 83) (ln_a (i := 0) (q := 54) (ln_a (i := 1) (q := 1) (ln_i (i := 2) (fun z0 => (ln_i (i := 3) (fun z1 => (ln_si (fun w1 => (ln_sa (q := 59) (ln_end (o := fun τ => f_W_sortSets_1_83 z0 z1 w1 τ) (fun _ _ _ e h => s_W_sortSets_1_83 G z0 z1 w1 _ _ _ e h)))))))))))) (sn_iconst (pc := 79) (v := 1) dX10_sortSets_79 rfl (sn_goto (pc := 80) (tgt := 84) dX10_sortSets_80 rfl (sn_lf (pc := 84) (ln_a (i := 0) (q := 54) (ln_a (i := 1) (q := 1) (ln_i (i := 2) (fun z0 => (ln_i (i := 3) (fun z1 => (ln_si (fun w2 => (ln_si (fun w1 => (ln_sa (q := 59) (ln_end (o := fun τ => f_W_sortSets_1_84 z0 z1 w1 w2 τ) (fun _ _ _ e h => s_W_sortSets_1_84 G z0 z1 w1 w2 _ _ _ e h))))))))))))))))))))) _ _ _ _ _ ((eq_W_sortSets_1_69 x2 x3 y1 y4 σ).symm.trans e) hr
noncomputable def b_W_sortSets_1_24 (x2 : Int32) (x3 : Int32) (σ : am_St) : Option ((Int32 × Int32 × am_St) ⊕ (am_St)) :=
  if x2 ≤ x3 then
    some (.inr (σ))
  else
    (f_JI_numberOfLeadingZeros x3 σ).bind (fun p1 =>
      let v2 := 31 - p1.1
      let v3 := x3 ^^^ (1 <<< (v2 &&& 31))
      if am_ix v3 256 = true then
        if (p1.2.1 59 v3.toNatClampNeg) = 0 then
          f_W_sortSets_1_83 x2 x3 x3 p1.2
        else
          (f_H_sayingAt_1 v2 p1.2).bind (fun p4 =>
            f_W_sortSets_1_69 x2 x3 x3 p4.1 p4.2)
      else none)
noncomputable def f_W_sortSets_1_24 (x2 : Int32) (x3 : Int32) (σ : am_St) : Option (am_St) := am_lp (fun s : Int32 × Int32 × am_St => b_W_sortSets_1_24 s.1 s.2.1 s.2.2) (x2, x3, σ)
set_option maxRecDepth 100000 in
set_option maxHeartbeats 4000000 in
theorem sb_W_sortSets_1_24 (G : am_G) (x2 : Int32) (x3 : Int32) (σ : am_St) (r : (Int32 × Int32 × am_St) ⊕ (am_St)) (Q : am_AQ) (e : b_W_sortSets_1_24 x2 x3 σ = some r) (hr : Pl_W_sortSets_1_24 G r Q) : am_AW G M_W_sortSets 24 [(3, .int x3), (2, .int x2), (1, .ref 1), (0, .ref 54)] [] σ Q :=
  (show am_Snd G M_W_sortSets 24 (Pl_W_sortSets_1_24 G) _ from (sn_iload_n (pc := 24) (i := 3) dX10_sortSets_24 rfl (sn_iload_n (pc := 25) (i := 2) dX10_sortSets_25 rfl (sn_icmp_ge (pc := 26) (tgt := 91) dX10_sortSets_26 rfl (sn_retv (pc := 91) (R := fun τ => (some (.inr (τ)) : Option ((Int32 × Int32 × am_St) ⊕ (am_St)))) dX10_sortSets_91 rfl (fun _ _ _ e h => by cases e; exact h)) (sn_bipush (pc := 29) (v := 31) dX10_sortSets_29 rfl (sn_iload_n (pc := 31) (i := 3) dX10_sortSets_31 rfl (sn_callS (pc := 32) (N := M_JI_numberOfLeadingZeros) dX10_sortSets_32 (cal_JI_numberOfLeadingZeros G) tw_689 tw_690 tw_15 tw_691 dsc_J6_numberOfLeadingZeros_0f7a4 rfl (sn_isub (pc := 35) dX10_sortSets_35 (sn_istore (pc := 36) dX10_sortSets_36 (Nat.le_of_ble_eq_true rfl) (sn_iload_n (pc := 38) (i := 3) dX10_sortSets_38 rfl (sn_iconst (pc := 39) (v := 1) dX10_sortSets_39 rfl (sn_iload (pc := 40) dX10_sortSets_40 (sn_ishl (pc := 42) dX10_sortSets_42 (sn_ixor (pc := 43) dX10_sortSets_43 (sn_istore (pc := 44) dX10_sortSets_44 (Nat.le_of_ble_eq_true rfl) (sn_aload_n (pc := 46) (i := 0) dX10_sortSets_46 rfl (sn_gR (r0 := 59) (pc := 47) (h := 54) (f := 4) dX10_sortSets_47 am_CL_9 sh_54 rfl (Nat.le_of_ble_eq_true rfl) tw_180 (sn_iload_n (pc := 50) (i := 3) dX10_sortSets_50 rfl (sn_aload_n (pc := 51) (i := 0) dX10_sortSets_51 rfl (sn_gR (r0 := 59) (pc := 52) (h := 54) (f := 4) dX10_sortSets_52 am_CL_9 sh_54 rfl (Nat.le_of_ble_eq_true rfl) tw_180 (sn_iload (pc := 55) dX10_sortSets_55 (sn_aZ (pc := 57) (h := 59) dX10_sortSets_57 sh_59 (sn_if_eq (pc := 58) (tgt := 83) dX10_sortSets_58 rfl (sn_lf (pc := 83) (ln_a (i := 0) (q := 54) (ln_a (i := 1) (q := 1) (ln_i (i := 2) (fun z0 => (ln_i (i := 3) (fun z1 => (ln_si (fun w1 => (ln_sa (q := 59) (ln_end (o := fun τ => f_W_sortSets_1_83 z0 z1 w1 τ) (fun _ _ _ e h => s_W_sortSets_1_83 G z0 z1 w1 _ _ _ e h)))))))))))) (sn_aload_n (pc := 61) (i := 0) dX10_sortSets_61 rfl (sn_aload_n (pc := 62) (i := 1) dX10_sortSets_62 rfl (sn_aload_n (pc := 63) (i := 1) dX10_sortSets_63 rfl (sn_iload (pc := 64) dX10_sortSets_64 (sn_callV (pc := 66) (N := M_H_sayingAt) dX10_sortSets_66 (cal_H_sayingAt_1 G) sh_1 rfl tw_654 tw_655 tw_656 tw_2 tw_657 dsc_X3_sayingAt rfl (sn_lf (pc := 69) (ln_a (i := 0) (q := 54) (ln_a (i := 1) (q := 1) (ln_i (i := 2) (fun z0 => (ln_i (i := 3) (fun z1 => (ln_si (fun w4 => (ln_sa (q := 1) (ln_sa (q := 54) (ln_si (fun w1 => (ln_sa (q := 59) (ln_end (o := fun τ => f_W_sortSets_1_69 z0 z1 w1 w4 τ) (fun _ _ _ e h => s_W_sortSets_1_69 G z0 z1 w1 w4 _ _ _ e h)))))))))))))))))))))))))))))))))))))))))))) _ _ _ _ _ e hr
theorem s_W_sortSets_1_24 (G : am_G) (x2 : Int32) (x3 : Int32) (σ : am_St) (r : am_St) (Q : am_AQ) (e : f_W_sortSets_1_24 x2 x3 σ = some r) (hr : am_Pv r Q) : am_AW G M_W_sortSets 24 [(3, .int x3), (2, .int x2), (1, .ref 1), (0, .ref 54)] [] σ Q :=
  am_loop (P := am_Pv) (L := fun s : Int32 × Int32 × am_St => [(3, .int s.2.1), (2, .int s.1), (1, .ref 1), (0, .ref 54)]) (g := fun s => s.2.2) (fun s o Q e hr => sb_W_sortSets_1_24 G s.1 s.2.1 s.2.2 o Q e hr) (x2, x3, σ) r Q e hr
noncomputable def g_W_sortSets_1 (σ : am_St) : Option (am_St) :=
  let s1 := am_sI σ 59 0 1
  let v2 := am_mmin 256 (1 <<< ((s1.1 1 6) &&& 31))
  f_W_sortSets_1_24 v2 1 s1
noncomputable def f_W_sortSets_1 (σ : am_St) : Option (am_St) := am_lk (g_W_sortSets_1  σ)
theorem eq_W_sortSets_1 (σ : am_St) : f_W_sortSets_1  σ = g_W_sortSets_1  σ := am_lk_eq _
set_option maxRecDepth 100000 in
set_option maxHeartbeats 4000000 in
theorem s_W_sortSets_1 (G : am_G) (σ : am_St) (r : am_St) (Q : am_AQ) (e : f_W_sortSets_1  σ = some r) (hr : am_Pv r Q) : am_AW G M_W_sortSets 0 [(0, .ref 54), (1, .ref 1)] [] σ Q :=
  (show am_Snd G M_W_sortSets 0 am_Pv _ from (sn_aload_n (pc := 0) (i := 0) dX10_sortSets_0 rfl (sn_gR (r0 := 59) (pc := 1) (h := 54) (f := 4) dX10_sortSets_1 am_CL_9 sh_54 rfl (Nat.le_of_ble_eq_true rfl) tw_180 (sn_iconst (pc := 4) (v := 0) dX10_sortSets_4 rfl (sn_iconst (pc := 5) (v := 1) dX10_sortSets_5 rfl (sn_sZ (pc := 6) (h := 59) dX10_sortSets_6 sh_59 (sn_aload_n (pc := 7) (i := 0) dX10_sortSets_7 rfl (sn_gR (r0 := 59) (pc := 8) (h := 54) (f := 4) dX10_sortSets_8 am_CL_9 sh_54 rfl (Nat.le_of_ble_eq_true rfl) tw_180 (sn_len (pc := 11) (h := 59) (v := 256) dX10_sortSets_11 sh_59 rfl (sn_iconst (pc := 12) (v := 1) dX10_sortSets_12 rfl (sn_aload_n (pc := 13) (i := 1) dX10_sortSets_13 rfl (sn_gI (pc := 14) (h := 1) (f := 6) dX10_sortSets_14 am_CL_3 sh_1 rfl (Nat.le_of_ble_eq_true rfl) tw_104 (sn_ishl (pc := 17) dX10_sortSets_17 (sn_mmin (pc := 18) dX10_sortSets_18 tw_688 tw_511 tw_14 tw_512 rfl (sn_istore_n (pc := 21) (i := 2) dX10_sortSets_21 rfl (Nat.le_of_ble_eq_true rfl) (sn_iconst (pc := 22) (v := 1) dX10_sortSets_22 rfl (sn_istore_n (pc := 23) (i := 3) dX10_sortSets_23 rfl (Nat.le_of_ble_eq_true rfl) (sn_lf (pc := 24) (ln_a (i := 0) (q := 54) (ln_a (i := 1) (q := 1) (ln_i (i := 2) (fun z0 => (ln_i (i := 3) (fun z1 => (ln_end (o := fun τ => f_W_sortSets_1_24 z0 z1 τ) (fun _ _ _ e h => s_W_sortSets_1_24 G z0 z1 _ _ _ e h)))))))))))))))))))))))))) _ _ _ _ _ ((eq_W_sortSets_1  σ).symm.trans e) hr
noncomputable def cF_W_sortSets_1 : am_Fn := fun _ args σ K => match args with
  | [.ref q0, .ref q1] => match Nat.beq q0 54, Nat.beq q1 1 with
    | true, true => (f_W_sortSets_1 σ).bind (fun p => K none p)
    | _, _ => none
  | _ => none
theorem cal_W_sortSets_1 (G : am_G) : am_Cal G M_W_sortSets cF_W_sortSets_1 := by
  intro ρ args σ K r e
  unfold cF_W_sortSets_1 at e
  split at e
  · split at e
    · rename_i hq0 hq1
      obtain ⟨p, h1, h2⟩ := am_bind_some e
      rw [Nat.eq_of_beq_eq_true hq0]
      rw [Nat.eq_of_beq_eq_true hq1]
      exact ⟨none, p, am_Met.of rfl (Nat.le_of_ble_eq_true rfl) (s_W_sortSets_1 G  σ p _ h1 ⟨rfl, rfl⟩), h2⟩
    · cases e
  · cases e
abbrev M_JI_bitCount : am_MD := (yJ6_bitCount_0f7a4, cJ6_bitCount_0f7a4, 1, (some .int), 0, 0)
theorem dJ6_bitCount_0f7a4_0 : decode cJ6_bitCount_0f7a4 0 = .ok (.iload_n 0, 1) := by decide +kernel
theorem dJ6_bitCount_0f7a4_1 : decode cJ6_bitCount_0f7a4 1 = .ok (.iload_n 0, 1) := by decide +kernel
theorem dJ6_bitCount_0f7a4_2 : decode cJ6_bitCount_0f7a4 2 = .ok (.iconst 1, 1) := by decide +kernel
theorem dJ6_bitCount_0f7a4_3 : decode cJ6_bitCount_0f7a4 3 = .ok (.iushr, 1) := by decide +kernel
theorem dJ6_bitCount_0f7a4_4 : decode cJ6_bitCount_0f7a4 4 = .ok (.ldc_w 265, 3) := by decide +kernel
theorem dJ6_bitCount_0f7a4_7 : decode cJ6_bitCount_0f7a4 7 = .ok (.iand, 1) := by decide +kernel
theorem dJ6_bitCount_0f7a4_8 : decode cJ6_bitCount_0f7a4 8 = .ok (.isub, 1) := by decide +kernel
theorem dJ6_bitCount_0f7a4_9 : decode cJ6_bitCount_0f7a4 9 = .ok (.istore_n 0, 1) := by decide +kernel
theorem dJ6_bitCount_0f7a4_10 : decode cJ6_bitCount_0f7a4 10 = .ok (.iload_n 0, 1) := by decide +kernel
theorem dJ6_bitCount_0f7a4_11 : decode cJ6_bitCount_0f7a4 11 = .ok (.ldc_w 266, 3) := by decide +kernel
theorem dJ6_bitCount_0f7a4_14 : decode cJ6_bitCount_0f7a4 14 = .ok (.iand, 1) := by decide +kernel
theorem dJ6_bitCount_0f7a4_15 : decode cJ6_bitCount_0f7a4 15 = .ok (.iload_n 0, 1) := by decide +kernel
theorem dJ6_bitCount_0f7a4_16 : decode cJ6_bitCount_0f7a4 16 = .ok (.iconst 2, 1) := by decide +kernel
theorem dJ6_bitCount_0f7a4_17 : decode cJ6_bitCount_0f7a4 17 = .ok (.iushr, 1) := by decide +kernel
theorem dJ6_bitCount_0f7a4_18 : decode cJ6_bitCount_0f7a4 18 = .ok (.ldc_w 266, 3) := by decide +kernel
theorem dJ6_bitCount_0f7a4_21 : decode cJ6_bitCount_0f7a4 21 = .ok (.iand, 1) := by decide +kernel
theorem dJ6_bitCount_0f7a4_22 : decode cJ6_bitCount_0f7a4 22 = .ok (.iadd, 1) := by decide +kernel
theorem dJ6_bitCount_0f7a4_23 : decode cJ6_bitCount_0f7a4 23 = .ok (.istore_n 0, 1) := by decide +kernel
theorem dJ6_bitCount_0f7a4_24 : decode cJ6_bitCount_0f7a4 24 = .ok (.iload_n 0, 1) := by decide +kernel
theorem dJ6_bitCount_0f7a4_25 : decode cJ6_bitCount_0f7a4 25 = .ok (.iload_n 0, 1) := by decide +kernel
theorem dJ6_bitCount_0f7a4_26 : decode cJ6_bitCount_0f7a4 26 = .ok (.iconst 4, 1) := by decide +kernel
theorem dJ6_bitCount_0f7a4_27 : decode cJ6_bitCount_0f7a4 27 = .ok (.iushr, 1) := by decide +kernel
theorem dJ6_bitCount_0f7a4_28 : decode cJ6_bitCount_0f7a4 28 = .ok (.iadd, 1) := by decide +kernel
theorem dJ6_bitCount_0f7a4_29 : decode cJ6_bitCount_0f7a4 29 = .ok (.ldc_w 267, 3) := by decide +kernel
theorem dJ6_bitCount_0f7a4_32 : decode cJ6_bitCount_0f7a4 32 = .ok (.iand, 1) := by decide +kernel
theorem dJ6_bitCount_0f7a4_33 : decode cJ6_bitCount_0f7a4 33 = .ok (.istore_n 0, 1) := by decide +kernel
theorem dJ6_bitCount_0f7a4_34 : decode cJ6_bitCount_0f7a4 34 = .ok (.iload_n 0, 1) := by decide +kernel
theorem dJ6_bitCount_0f7a4_35 : decode cJ6_bitCount_0f7a4 35 = .ok (.iload_n 0, 1) := by decide +kernel
theorem dJ6_bitCount_0f7a4_36 : decode cJ6_bitCount_0f7a4 36 = .ok (.bipush 8, 2) := by decide +kernel
theorem dJ6_bitCount_0f7a4_38 : decode cJ6_bitCount_0f7a4 38 = .ok (.iushr, 1) := by decide +kernel
theorem dJ6_bitCount_0f7a4_39 : decode cJ6_bitCount_0f7a4 39 = .ok (.iadd, 1) := by decide +kernel
theorem dJ6_bitCount_0f7a4_40 : decode cJ6_bitCount_0f7a4 40 = .ok (.istore_n 0, 1) := by decide +kernel
theorem dJ6_bitCount_0f7a4_41 : decode cJ6_bitCount_0f7a4 41 = .ok (.iload_n 0, 1) := by decide +kernel
theorem dJ6_bitCount_0f7a4_42 : decode cJ6_bitCount_0f7a4 42 = .ok (.iload_n 0, 1) := by decide +kernel
theorem dJ6_bitCount_0f7a4_43 : decode cJ6_bitCount_0f7a4 43 = .ok (.bipush 16, 2) := by decide +kernel
theorem dJ6_bitCount_0f7a4_45 : decode cJ6_bitCount_0f7a4 45 = .ok (.iushr, 1) := by decide +kernel
theorem dJ6_bitCount_0f7a4_46 : decode cJ6_bitCount_0f7a4 46 = .ok (.iadd, 1) := by decide +kernel
theorem dJ6_bitCount_0f7a4_47 : decode cJ6_bitCount_0f7a4 47 = .ok (.istore_n 0, 1) := by decide +kernel
theorem dJ6_bitCount_0f7a4_48 : decode cJ6_bitCount_0f7a4 48 = .ok (.iload_n 0, 1) := by decide +kernel
theorem dJ6_bitCount_0f7a4_49 : decode cJ6_bitCount_0f7a4 49 = .ok (.bipush 63, 2) := by decide +kernel
theorem dJ6_bitCount_0f7a4_51 : decode cJ6_bitCount_0f7a4 51 = .ok (.iand, 1) := by decide +kernel
theorem dJ6_bitCount_0f7a4_52 : decode cJ6_bitCount_0f7a4 52 = .ok (.ireturn, 1) := by decide +kernel
noncomputable def g_JI_bitCount_41 (x0 : Int32) (σ : am_St) : Option (Int32 × am_St) :=
  let v1 := x0 + (am_ush x0 16)
  some ((v1 &&& 63, σ))
noncomputable def f_JI_bitCount_41 (x0 : Int32) (σ : am_St) : Option (Int32 × am_St) := am_lk (g_JI_bitCount_41 x0 σ)
theorem eq_JI_bitCount_41 (x0 : Int32) (σ : am_St) : f_JI_bitCount_41 x0 σ = g_JI_bitCount_41 x0 σ := am_lk_eq _
set_option maxRecDepth 100000 in
set_option maxHeartbeats 4000000 in
theorem s_JI_bitCount_41 (G : am_G) (x0 : Int32) (σ : am_St) (r : Int32 × am_St) (Q : am_AQ) (e : f_JI_bitCount_41 x0 σ = some r) (hr : am_Pi r Q) : am_AW G M_JI_bitCount 41 [(0, .int x0)] [] σ Q :=
  (show am_Snd G M_JI_bitCount 41 am_Pi _ from (sn_iload_n (pc := 41) (i := 0) dJ6_bitCount_0f7a4_41 rfl (sn_iload_n (pc := 42) (i := 0) dJ6_bitCount_0f7a4_42 rfl (sn_bipush (pc := 43) (v := 16) dJ6_bitCount_0f7a4_43 rfl (sn_iushr (pc := 45) dJ6_bitCount_0f7a4_45 (sn_iadd (pc := 46) dJ6_bitCount_0f7a4_46 (sn_istore_n (pc := 47) (i := 0) dJ6_bitCount_0f7a4_47 rfl (Nat.le_of_ble_eq_true rfl) (sn_iload_n (pc := 48) (i := 0) dJ6_bitCount_0f7a4_48 rfl (sn_bipush (pc := 49) (v := 63) dJ6_bitCount_0f7a4_49 rfl (sn_iand (pc := 51) dJ6_bitCount_0f7a4_51 (sn_reti (pc := 52) (R := fun x τ => (some ((x, τ)))) dJ6_bitCount_0f7a4_52 rfl (fun _ _ _ _ e h => by cases e; exact h)))))))))))) _ _ _ _ _ ((eq_JI_bitCount_41 x0 σ).symm.trans e) hr
noncomputable def g_JI_bitCount (x0 : Int32) (σ : am_St) : Option (Int32 × am_St) :=
  let v1 := x0 - ((am_ush x0 1) &&& 1431655765)
  let v2 := (v1 &&& 858993459) + ((am_ush v1 2) &&& 858993459)
  let v3 := (v2 + (am_ush v2 4)) &&& 252645135
  let v4 := v3 + (am_ush v3 8)
  f_JI_bitCount_41 v4 σ
noncomputable def f_JI_bitCount (x0 : Int32) (σ : am_St) : Option (Int32 × am_St) := am_lk (g_JI_bitCount x0 σ)
theorem eq_JI_bitCount (x0 : Int32) (σ : am_St) : f_JI_bitCount x0 σ = g_JI_bitCount x0 σ := am_lk_eq _
set_option maxRecDepth 100000 in
set_option maxHeartbeats 4000000 in
theorem s_JI_bitCount (G : am_G) (x0 : Int32) (σ : am_St) (r : Int32 × am_St) (Q : am_AQ) (e : f_JI_bitCount x0 σ = some r) (hr : am_Pi r Q) : am_AW G M_JI_bitCount 0 [(0, .int x0)] [] σ Q :=
  (show am_Snd G M_JI_bitCount 0 am_Pi _ from (sn_iload_n (pc := 0) (i := 0) dJ6_bitCount_0f7a4_0 rfl (sn_iload_n (pc := 1) (i := 0) dJ6_bitCount_0f7a4_1 rfl (sn_iconst (pc := 2) (v := 1) dJ6_bitCount_0f7a4_2 rfl (sn_iushr (pc := 3) dJ6_bitCount_0f7a4_3 (sn_ldcw (pc := 4) dJ6_bitCount_0f7a4_4 tw_696 (sn_iand (pc := 7) dJ6_bitCount_0f7a4_7 (sn_isub (pc := 8) dJ6_bitCount_0f7a4_8 (sn_istore_n (pc := 9) (i := 0) dJ6_bitCount_0f7a4_9 rfl (Nat.le_of_ble_eq_true rfl) (sn_iload_n (pc := 10) (i := 0) dJ6_bitCount_0f7a4_10 rfl (sn_ldcw (pc := 11) dJ6_bitCount_0f7a4_11 tw_697 (sn_iand (pc := 14) dJ6_bitCount_0f7a4_14 (sn_iload_n (pc := 15) (i := 0) dJ6_bitCount_0f7a4_15 rfl (sn_iconst (pc := 16) (v := 2) dJ6_bitCount_0f7a4_16 rfl (sn_iushr (pc := 17) dJ6_bitCount_0f7a4_17 (sn_ldcw (pc := 18) dJ6_bitCount_0f7a4_18 tw_697 (sn_iand (pc := 21) dJ6_bitCount_0f7a4_21 (sn_iadd (pc := 22) dJ6_bitCount_0f7a4_22 (sn_istore_n (pc := 23) (i := 0) dJ6_bitCount_0f7a4_23 rfl (Nat.le_of_ble_eq_true rfl) (sn_iload_n (pc := 24) (i := 0) dJ6_bitCount_0f7a4_24 rfl (sn_iload_n (pc := 25) (i := 0) dJ6_bitCount_0f7a4_25 rfl (sn_iconst (pc := 26) (v := 4) dJ6_bitCount_0f7a4_26 rfl (sn_iushr (pc := 27) dJ6_bitCount_0f7a4_27 (sn_iadd (pc := 28) dJ6_bitCount_0f7a4_28 (sn_ldcw (pc := 29) dJ6_bitCount_0f7a4_29 tw_698 (sn_iand (pc := 32) dJ6_bitCount_0f7a4_32 (sn_istore_n (pc := 33) (i := 0) dJ6_bitCount_0f7a4_33 rfl (Nat.le_of_ble_eq_true rfl) (sn_iload_n (pc := 34) (i := 0) dJ6_bitCount_0f7a4_34 rfl (sn_iload_n (pc := 35) (i := 0) dJ6_bitCount_0f7a4_35 rfl (sn_bipush (pc := 36) (v := 8) dJ6_bitCount_0f7a4_36 rfl (sn_iushr (pc := 38) dJ6_bitCount_0f7a4_38 (sn_iadd (pc := 39) dJ6_bitCount_0f7a4_39 (sn_istore_n (pc := 40) (i := 0) dJ6_bitCount_0f7a4_40 rfl (Nat.le_of_ble_eq_true rfl) (sn_lf (pc := 41) (ln_i (i := 0) (fun z0 => (ln_end (o := fun τ => f_JI_bitCount_41 z0 τ) (fun _ _ _ e h => s_JI_bitCount_41 G z0 _ _ _ e h)))))))))))))))))))))))))))))))))))))) _ _ _ _ _ ((eq_JI_bitCount x0 σ).symm.trans e) hr
noncomputable def cF_JI_bitCount : am_Fn := fun _ args σ K => match args with
  | [.int z0] => (f_JI_bitCount z0 σ).bind (fun p => K (some (.int p.1)) p.2)
  | _ => none
theorem cal_JI_bitCount (G : am_G) : am_Cal G M_JI_bitCount cF_JI_bitCount := by
  intro ρ args σ K r e
  unfold cF_JI_bitCount at e
  split at e
  · obtain ⟨p, h1, h2⟩ := am_bind_some e
    exact ⟨some (.int p.1), p.2, am_Met.of rfl (Nat.le_of_ble_eq_true rfl) (s_JI_bitCount G _ σ p _ h1 ⟨rfl, rfl⟩), h2⟩
  · cases e
abbrev M_W_largestSet : am_MD := (yX10_largestSet, cX10_largestSet, 5, (some .int), 4, 102)
theorem dX10_largestSet_0 : decode cX10_largestSet 0 = .ok (.aload_n 0, 1) := by decide +kernel
theorem dX10_largestSet_1 : decode cX10_largestSet 1 = .ok (.aload_n 1, 1) := by decide +kernel
theorem dX10_largestSet_2 : decode cX10_largestSet 2 = .ok (.invokevirtual 118, 3) := by decide +kernel
theorem dX10_largestSet_5 : decode cX10_largestSet 5 = .ok (.iconst 0, 1) := by decide +kernel
theorem dX10_largestSet_6 : decode cX10_largestSet 6 = .ok (.istore_n 2, 1) := by decide +kernel
theorem dX10_largestSet_7 : decode cX10_largestSet 7 = .ok (.aload_n 0, 1) := by decide +kernel
theorem dX10_largestSet_8 : decode cX10_largestSet 8 = .ok (.getfield 24, 3) := by decide +kernel
theorem dX10_largestSet_11 : decode cX10_largestSet 11 = .ok (.arraylength, 1) := by decide +kernel
theorem dX10_largestSet_12 : decode cX10_largestSet 12 = .ok (.iconst 1, 1) := by decide +kernel
theorem dX10_largestSet_13 : decode cX10_largestSet 13 = .ok (.aload_n 1, 1) := by decide +kernel
theorem dX10_largestSet_14 : decode cX10_largestSet 14 = .ok (.getfield 77, 3) := by decide +kernel
theorem dX10_largestSet_17 : decode cX10_largestSet 17 = .ok (.ishl, 1) := by decide +kernel
theorem dX10_largestSet_18 : decode cX10_largestSet 18 = .ok (.invokestatic 110, 3) := by decide +kernel
theorem dX10_largestSet_21 : decode cX10_largestSet 21 = .ok (.istore_n 3, 1) := by decide +kernel
theorem dX10_largestSet_22 : decode cX10_largestSet 22 = .ok (.iconst 1, 1) := by decide +kernel
theorem dX10_largestSet_23 : decode cX10_largestSet 23 = .ok (.istore 4, 2) := by decide +kernel
theorem dX10_largestSet_25 : decode cX10_largestSet 25 = .ok (.iload 4, 2) := by decide +kernel
theorem dX10_largestSet_27 : decode cX10_largestSet 27 = .ok (.iload_n 3, 1) := by decide +kernel
theorem dX10_largestSet_28 : decode cX10_largestSet 28 = .ok (.if_icmp .ge 34, 3) := by decide +kernel
theorem dX10_largestSet_31 : decode cX10_largestSet 31 = .ok (.aload_n 0, 1) := by decide +kernel
theorem dX10_largestSet_32 : decode cX10_largestSet 32 = .ok (.getfield 24, 3) := by decide +kernel
theorem dX10_largestSet_35 : decode cX10_largestSet 35 = .ok (.iload 4, 2) := by decide +kernel
theorem dX10_largestSet_37 : decode cX10_largestSet 37 = .ok (.baload, 1) := by decide +kernel
theorem dX10_largestSet_38 : decode cX10_largestSet 38 = .ok (.ifCond .eq 18, 3) := by decide +kernel
theorem dX10_largestSet_41 : decode cX10_largestSet 41 = .ok (.iload 4, 2) := by decide +kernel
theorem dX10_largestSet_43 : decode cX10_largestSet 43 = .ok (.invokestatic 122, 3) := by decide +kernel
theorem dX10_largestSet_46 : decode cX10_largestSet 46 = .ok (.iload_n 2, 1) := by decide +kernel
theorem dX10_largestSet_47 : decode cX10_largestSet 47 = .ok (.invokestatic 122, 3) := by decide +kernel
theorem dX10_largestSet_50 : decode cX10_largestSet 50 = .ok (.if_icmp .le 6, 3) := by decide +kernel
theorem dX10_largestSet_53 : decode cX10_largestSet 53 = .ok (.iload 4, 2) := by decide +kernel
theorem dX10_largestSet_55 : decode cX10_largestSet 55 = .ok (.istore_n 2, 1) := by decide +kernel
theorem dX10_largestSet_56 : decode cX10_largestSet 56 = .ok (.iinc 4 1, 3) := by decide +kernel
theorem dX10_largestSet_59 : decode cX10_largestSet 59 = .ok (.goto (-34), 3) := by decide +kernel
theorem dX10_largestSet_62 : decode cX10_largestSet 62 = .ok (.iload_n 2, 1) := by decide +kernel
theorem dX10_largestSet_63 : decode cX10_largestSet 63 = .ok (.ireturn, 1) := by decide +kernel
abbrev Pl_W_largestSet_1_25 (G : am_G) : ((Int32 × Int32 × Int32 × am_St) ⊕ (Int32 × am_St)) → am_AQ → Prop := am_PL G M_W_largestSet 25 (fun s : Int32 × Int32 × Int32 × am_St => [(4, .int s.2.2.1), (3, .int s.2.1), (2, .int s.1), (0, .ref 54)]) (fun s => s.2.2.2) am_Pi
noncomputable def g_W_largestSet_1_56 (x2 : Int32) (x3 : Int32) (x4 : Int32) (σ : am_St) : Option ((Int32 × Int32 × Int32 × am_St) ⊕ (Int32 × am_St)) :=
  let v1 := x4 + 1
  some (.inl (x2, x3, v1, σ))
noncomputable def f_W_largestSet_1_56 (x2 : Int32) (x3 : Int32) (x4 : Int32) (σ : am_St) : Option ((Int32 × Int32 × Int32 × am_St) ⊕ (Int32 × am_St)) := am_lk (g_W_largestSet_1_56 x2 x3 x4 σ)
theorem eq_W_largestSet_1_56 (x2 : Int32) (x3 : Int32) (x4 : Int32) (σ : am_St) : f_W_largestSet_1_56 x2 x3 x4 σ = g_W_largestSet_1_56 x2 x3 x4 σ := am_lk_eq _
set_option maxRecDepth 100000 in
set_option maxHeartbeats 4000000 in
theorem s_W_largestSet_1_56 (G : am_G) (x2 : Int32) (x3 : Int32) (x4 : Int32) (σ : am_St) (r : (Int32 × Int32 × Int32 × am_St) ⊕ (Int32 × am_St)) (Q : am_AQ) (e : f_W_largestSet_1_56 x2 x3 x4 σ = some r) (hr : (Pl_W_largestSet_1_25 G) r Q) : am_AW G M_W_largestSet 56 [(4, .int x4), (3, .int x3), (2, .int x2), (0, .ref 54)] [] σ Q :=
  (show am_Snd G M_W_largestSet 56 (Pl_W_largestSet_1_25 G) _ from (sn_iinc (pc := 56) (v := 1) dX10_largestSet_56 rfl (Nat.le_of_ble_eq_true rfl) (sn_goto (pc := 59) (tgt := 25) dX10_largestSet_59 rfl (sn_lf (pc := 25) (ln_a (i := 0) (q := 54) (ln_i (i := 2) (fun z0 => (ln_i (i := 3) (fun z1 => (ln_i (i := 4) (fun z2 => (ln_end (o := fun τ => (some (.inl (z0, z1, z2, τ)) : Option ((Int32 × Int32 × Int32 × am_St) ⊕ (Int32 × am_St)))) (fun _ _ _ e h => by cases e; exact h))))))))))))) _ _ _ _ _ ((eq_W_largestSet_1_56 x2 x3 x4 σ).symm.trans e) hr
noncomputable def g_W_largestSet_1_53 (x3 : Int32) (x4 : Int32) (σ : am_St) : Option ((Int32 × Int32 × Int32 × am_St) ⊕ (Int32 × am_St)) :=
  f_W_largestSet_1_56 x4 x3 x4 σ
noncomputable def f_W_largestSet_1_53 (x3 : Int32) (x4 : Int32) (σ : am_St) : Option ((Int32 × Int32 × Int32 × am_St) ⊕ (Int32 × am_St)) := am_lk (g_W_largestSet_1_53 x3 x4 σ)
theorem eq_W_largestSet_1_53 (x3 : Int32) (x4 : Int32) (σ : am_St) : f_W_largestSet_1_53 x3 x4 σ = g_W_largestSet_1_53 x3 x4 σ := am_lk_eq _
set_option maxRecDepth 100000 in
set_option maxHeartbeats 4000000 in
theorem s_W_largestSet_1_53 (G : am_G) (x3 : Int32) (x4 : Int32) (σ : am_St) (r : (Int32 × Int32 × Int32 × am_St) ⊕ (Int32 × am_St)) (Q : am_AQ) (e : f_W_largestSet_1_53 x3 x4 σ = some r) (hr : (Pl_W_largestSet_1_25 G) r Q) : am_AW G M_W_largestSet 53 [(4, .int x4), (3, .int x3), (0, .ref 54)] [] σ Q :=
  (show am_Snd G M_W_largestSet 53 (Pl_W_largestSet_1_25 G) _ from (sn_iload (pc := 53) dX10_largestSet_53 (sn_istore_n (pc := 55) (i := 2) dX10_largestSet_55 rfl (Nat.le_of_ble_eq_true rfl) (sn_lf (pc := 56) (ln_a (i := 0) (q := 54) (ln_i (i := 2) (fun z0 => (ln_i (i := 3) (fun z1 => (ln_i (i := 4) (fun z2 => (ln_end (o := fun τ => f_W_largestSet_1_56 z0 z1 z2 τ) (fun _ _ _ e h => s_W_largestSet_1_56 G z0 z1 z2 _ _ _ e h))))))))))))) _ _ _ _ _ ((eq_W_largestSet_1_53 x3 x4 σ).symm.trans e) hr
noncomputable def b_W_largestSet_1_25 (x2 : Int32) (x3 : Int32) (x4 : Int32) (σ : am_St) : Option ((Int32 × Int32 × Int32 × am_St) ⊕ (Int32 × am_St)) :=
  if x3 ≤ x4 then
    some (.inr ((x2, σ)))
  else
    if am_ix x4 256 = true then
      if (σ.1 59 x4.toNatClampNeg) = 0 then
        f_W_largestSet_1_56 x2 x3 x4 σ
      else
        (f_JI_bitCount x4 σ).bind (fun p1 =>
          (f_JI_bitCount x2 p1.2).bind (fun p2 =>
            if p1.1 ≤ p2.1 then
              f_W_largestSet_1_56 x2 x3 x4 p2.2
            else
              f_W_largestSet_1_53 x3 x4 p2.2))
    else none
noncomputable def f_W_largestSet_1_25 (x2 : Int32) (x3 : Int32) (x4 : Int32) (σ : am_St) : Option (Int32 × am_St) := am_lp (fun s : Int32 × Int32 × Int32 × am_St => b_W_largestSet_1_25 s.1 s.2.1 s.2.2.1 s.2.2.2) (x2, x3, x4, σ)
set_option maxRecDepth 100000 in
set_option maxHeartbeats 4000000 in
theorem sb_W_largestSet_1_25 (G : am_G) (x2 : Int32) (x3 : Int32) (x4 : Int32) (σ : am_St) (r : (Int32 × Int32 × Int32 × am_St) ⊕ (Int32 × am_St)) (Q : am_AQ) (e : b_W_largestSet_1_25 x2 x3 x4 σ = some r) (hr : Pl_W_largestSet_1_25 G r Q) : am_AW G M_W_largestSet 25 [(4, .int x4), (3, .int x3), (2, .int x2), (0, .ref 54)] [] σ Q :=
  (show am_Snd G M_W_largestSet 25 (Pl_W_largestSet_1_25 G) _ from (sn_iload (pc := 25) dX10_largestSet_25 (sn_iload_n (pc := 27) (i := 3) dX10_largestSet_27 rfl (sn_icmp_ge (pc := 28) (tgt := 62) dX10_largestSet_28 rfl (sn_iload_n (pc := 62) (i := 2) dX10_largestSet_62 rfl (sn_reti (pc := 63) (R := fun x τ => (some (.inr ((x, τ))) : Option ((Int32 × Int32 × Int32 × am_St) ⊕ (Int32 × am_St)))) dX10_largestSet_63 rfl (fun _ _ _ _ e h => by cases e; exact h))) (sn_aload_n (pc := 31) (i := 0) dX10_largestSet_31 rfl (sn_gR (r0 := 59) (pc := 32) (h := 54) (f := 4) dX10_largestSet_32 am_CL_9 sh_54 rfl (Nat.le_of_ble_eq_true rfl) tw_180 (sn_iload (pc := 35) dX10_largestSet_35 (sn_aZ (pc := 37) (h := 59) dX10_largestSet_37 sh_59 (sn_if_eq (pc := 38) (tgt := 56) dX10_largestSet_38 rfl (sn_lf (pc := 56) (ln_a (i := 0) (q := 54) (ln_i (i := 2) (fun z0 => (ln_i (i := 3) (fun z1 => (ln_i (i := 4) (fun z2 => (ln_end (o := fun τ => f_W_largestSet_1_56 z0 z1 z2 τ) (fun _ _ _ e h => s_W_largestSet_1_56 G z0 z1 z2 _ _ _ e h)))))))))) (sn_iload (pc := 41) dX10_largestSet_41 (sn_callS (pc := 43) (N := M_JI_bitCount) dX10_largestSet_43 (cal_JI_bitCount G) tw_693 tw_694 tw_15 tw_695 dsc_J6_bitCount_0f7a4 rfl (sn_iload_n (pc := 46) (i := 2) dX10_largestSet_46 rfl (sn_callS (pc := 47) (N := M_JI_bitCount) dX10_largestSet_47 (cal_JI_bitCount G) tw_693 tw_694 tw_15 tw_695 dsc_J6_bitCount_0f7a4 rfl (sn_icmp_le (pc := 50) (tgt := 56) dX10_largestSet_50 rfl (sn_lf (pc := 56) (ln_a (i := 0) (q := 54) (ln_i (i := 2) (fun z0 => (ln_i (i := 3) (fun z1 => (ln_i (i := 4) (fun z2 => (ln_end (o := fun τ => f_W_largestSet_1_56 z0 z1 z2 τ) (fun _ _ _ e h => s_W_largestSet_1_56 G z0 z1 z2 _ _ _ e h)))))))))) (sn_lf (pc := 53) (ln_a (i := 0) (q := 54) (ln_i (i := 3) (fun z0 => (ln_i (i := 4) (fun z1 => (ln_end (o := fun τ => f_W_largestSet_1_53 z0 z1 τ) (fun _ _ _ e h => s_W_largestSet_1_53 G z0 z1 _ _ _ e h)))))))))))))))))))))) _ _ _ _ _ e hr
theorem s_W_largestSet_1_25 (G : am_G) (x2 : Int32) (x3 : Int32) (x4 : Int32) (σ : am_St) (r : Int32 × am_St) (Q : am_AQ) (e : f_W_largestSet_1_25 x2 x3 x4 σ = some r) (hr : am_Pi r Q) : am_AW G M_W_largestSet 25 [(4, .int x4), (3, .int x3), (2, .int x2), (0, .ref 54)] [] σ Q :=
  am_loop (P := am_Pi) (L := fun s : Int32 × Int32 × Int32 × am_St => [(4, .int s.2.2.1), (3, .int s.2.1), (2, .int s.1), (0, .ref 54)]) (g := fun s => s.2.2.2) (fun s o Q e hr => sb_W_largestSet_1_25 G s.1 s.2.1 s.2.2.1 s.2.2.2 o Q e hr) (x2, x3, x4, σ) r Q e hr
noncomputable def g_W_largestSet_1_22 (x2 : Int32) (x3 : Int32) (σ : am_St) : Option (Int32 × am_St) :=
  f_W_largestSet_1_25 x2 x3 1 σ
noncomputable def f_W_largestSet_1_22 (x2 : Int32) (x3 : Int32) (σ : am_St) : Option (Int32 × am_St) := am_lk (g_W_largestSet_1_22 x2 x3 σ)
theorem eq_W_largestSet_1_22 (x2 : Int32) (x3 : Int32) (σ : am_St) : f_W_largestSet_1_22 x2 x3 σ = g_W_largestSet_1_22 x2 x3 σ := am_lk_eq _
set_option maxRecDepth 100000 in
set_option maxHeartbeats 4000000 in
theorem s_W_largestSet_1_22 (G : am_G) (x2 : Int32) (x3 : Int32) (σ : am_St) (r : Int32 × am_St) (Q : am_AQ) (e : f_W_largestSet_1_22 x2 x3 σ = some r) (hr : am_Pi r Q) : am_AW G M_W_largestSet 22 [(3, .int x3), (2, .int x2), (0, .ref 54)] [] σ Q :=
  (show am_Snd G M_W_largestSet 22 am_Pi _ from (sn_iconst (pc := 22) (v := 1) dX10_largestSet_22 rfl (sn_istore (pc := 23) dX10_largestSet_23 (Nat.le_of_ble_eq_true rfl) (sn_lf (pc := 25) (ln_a (i := 0) (q := 54) (ln_i (i := 2) (fun z0 => (ln_i (i := 3) (fun z1 => (ln_i (i := 4) (fun z2 => (ln_end (o := fun τ => f_W_largestSet_1_25 z0 z1 z2 τ) (fun _ _ _ e h => s_W_largestSet_1_25 G z0 z1 z2 _ _ _ e h))))))))))))) _ _ _ _ _ ((eq_W_largestSet_1_22 x2 x3 σ).symm.trans e) hr
noncomputable def g_W_largestSet_1 (σ : am_St) : Option (Int32 × am_St) :=
  (f_W_sortSets_1 σ).bind (fun p1 =>
    let v2 := am_mmin 256 (1 <<< ((p1.1 1 6) &&& 31))
    f_W_largestSet_1_22 0 v2 p1)
noncomputable def f_W_largestSet_1 (σ : am_St) : Option (Int32 × am_St) := am_lk (g_W_largestSet_1  σ)
theorem eq_W_largestSet_1 (σ : am_St) : f_W_largestSet_1  σ = g_W_largestSet_1  σ := am_lk_eq _
set_option maxRecDepth 100000 in
set_option maxHeartbeats 4000000 in
theorem s_W_largestSet_1 (G : am_G) (σ : am_St) (r : Int32 × am_St) (Q : am_AQ) (e : f_W_largestSet_1  σ = some r) (hr : am_Pi r Q) : am_AW G M_W_largestSet 0 [(0, .ref 54), (1, .ref 1)] [] σ Q :=
  (show am_Snd G M_W_largestSet 0 am_Pi _ from (sn_aload_n (pc := 0) (i := 0) dX10_largestSet_0 rfl (sn_aload_n (pc := 1) (i := 1) dX10_largestSet_1 rfl (sn_callV (pc := 2) (N := M_W_sortSets) dX10_largestSet_2 (cal_W_sortSets_1 G) sh_54 rfl tw_684 tw_686 tp_21 tw_10 tw_687 dsc_X10_sortSets rfl (sn_iconst (pc := 5) (v := 0) dX10_largestSet_5 rfl (sn_istore_n (pc := 6) (i := 2) dX10_largestSet_6 rfl (Nat.le_of_ble_eq_true rfl) (sn_aload_n (pc := 7) (i := 0) dX10_largestSet_7 rfl (sn_gR (r0 := 59) (pc := 8) (h := 54) (f := 4) dX10_largestSet_8 am_CL_9 sh_54 rfl (Nat.le_of_ble_eq_true rfl) tw_180 (sn_len (pc := 11) (h := 59) (v := 256) dX10_largestSet_11 sh_59 rfl (sn_iconst (pc := 12) (v := 1) dX10_largestSet_12 rfl (sn_aload_n (pc := 13) (i := 1) dX10_largestSet_13 rfl (sn_gI (pc := 14) (h := 1) (f := 6) dX10_largestSet_14 am_CL_3 sh_1 rfl (Nat.le_of_ble_eq_true rfl) tw_104 (sn_ishl (pc := 17) dX10_largestSet_17 (sn_mmin (pc := 18) dX10_largestSet_18 tw_688 tw_511 tw_14 tw_512 rfl (sn_istore_n (pc := 21) (i := 3) dX10_largestSet_21 rfl (Nat.le_of_ble_eq_true rfl) (sn_lf (pc := 22) (ln_a (i := 0) (q := 54) (ln_i (i := 2) (fun z0 => (ln_i (i := 3) (fun z1 => (ln_end (o := fun τ => f_W_largestSet_1_22 z0 z1 τ) (fun _ _ _ e h => s_W_largestSet_1_22 G z0 z1 _ _ _ e h))))))))))))))))))))))) _ _ _ _ _ ((eq_W_largestSet_1  σ).symm.trans e) hr
noncomputable def cF_W_largestSet_1 : am_Fn := fun _ args σ K => match args with
  | [.ref q0, .ref q1] => match Nat.beq q0 54, Nat.beq q1 1 with
    | true, true => (f_W_largestSet_1 σ).bind (fun p => K (some (.int p.1)) p.2)
    | _, _ => none
  | _ => none
theorem cal_W_largestSet_1 (G : am_G) : am_Cal G M_W_largestSet cF_W_largestSet_1 := by
  intro ρ args σ K r e
  unfold cF_W_largestSet_1 at e
  split at e
  · split at e
    · rename_i hq0 hq1
      obtain ⟨p, h1, h2⟩ := am_bind_some e
      rw [Nat.eq_of_beq_eq_true hq0]
      rw [Nat.eq_of_beq_eq_true hq1]
      exact ⟨some (.int p.1), p.2, am_Met.of rfl (Nat.le_of_ble_eq_true rfl) (s_W_largestSet_1 G  σ p _ h1 ⟨rfl, rfl⟩), h2⟩
    · cases e
  · cases e
abbrev M_W_liars : am_MD := (yX10_liars, cX10_liars, 4, (some .int), 4, 99)
theorem dX10_liars_0 : decode cX10_liars 0 = .ok (.iconst 0, 1) := by decide +kernel
theorem dX10_liars_1 : decode cX10_liars 1 = .ok (.istore_n 2, 1) := by decide +kernel
theorem dX10_liars_2 : decode cX10_liars 2 = .ok (.iconst 0, 1) := by decide +kernel
theorem dX10_liars_3 : decode cX10_liars 3 = .ok (.istore_n 3, 1) := by decide +kernel
theorem dX10_liars_4 : decode cX10_liars 4 = .ok (.iload_n 3, 1) := by decide +kernel
theorem dX10_liars_5 : decode cX10_liars 5 = .ok (.aload_n 1, 1) := by decide +kernel
theorem dX10_liars_6 : decode cX10_liars 6 = .ok (.getfield 77, 3) := by decide +kernel
theorem dX10_liars_9 : decode cX10_liars 9 = .ok (.if_icmp .ge 31, 3) := by decide +kernel
theorem dX10_liars_12 : decode cX10_liars 12 = .ok (.aload_n 0, 1) := by decide +kernel
theorem dX10_liars_13 : decode cX10_liars 13 = .ok (.aload_n 1, 1) := by decide +kernel
theorem dX10_liars_14 : decode cX10_liars 14 = .ok (.iload_n 3, 1) := by decide +kernel
theorem dX10_liars_15 : decode cX10_liars 15 = .ok (.invokevirtual 129, 3) := by decide +kernel
theorem dX10_liars_18 : decode cX10_liars 18 = .ok (.ifCond .ne 16, 3) := by decide +kernel
theorem dX10_liars_21 : decode cX10_liars 21 = .ok (.iload_n 2, 1) := by decide +kernel
theorem dX10_liars_22 : decode cX10_liars 22 = .ok (.iconst 1, 1) := by decide +kernel
theorem dX10_liars_23 : decode cX10_liars 23 = .ok (.aload_n 1, 1) := by decide +kernel
theorem dX10_liars_24 : decode cX10_liars 24 = .ok (.iload_n 3, 1) := by decide +kernel
theorem dX10_liars_25 : decode cX10_liars 25 = .ok (.invokevirtual 80, 3) := by decide +kernel
theorem dX10_liars_28 : decode cX10_liars 28 = .ok (.invokestatic 70, 3) := by decide +kernel
theorem dX10_liars_31 : decode cX10_liars 31 = .ok (.ishl, 1) := by decide +kernel
theorem dX10_liars_32 : decode cX10_liars 32 = .ok (.ior, 1) := by decide +kernel
theorem dX10_liars_33 : decode cX10_liars 33 = .ok (.istore_n 2, 1) := by decide +kernel
theorem dX10_liars_34 : decode cX10_liars 34 = .ok (.iinc 3 1, 3) := by decide +kernel
theorem dX10_liars_37 : decode cX10_liars 37 = .ok (.goto (-33), 3) := by decide +kernel
theorem dX10_liars_40 : decode cX10_liars 40 = .ok (.iload_n 2, 1) := by decide +kernel
theorem dX10_liars_41 : decode cX10_liars 41 = .ok (.ireturn, 1) := by decide +kernel
abbrev Pl_W_liars_1_4 (G : am_G) : ((Int32 × Int32 × am_St) ⊕ (Int32 × am_St)) → am_AQ → Prop := am_PL G M_W_liars 4 (fun s : Int32 × Int32 × am_St => [(3, .int s.2.1), (2, .int s.1), (1, .ref 1), (0, .ref 54)]) (fun s => s.2.2) am_Pi
noncomputable def g_W_liars_1_34 (x2 : Int32) (x3 : Int32) (σ : am_St) : Option ((Int32 × Int32 × am_St) ⊕ (Int32 × am_St)) :=
  let v1 := x3 + 1
  some (.inl (x2, v1, σ))
noncomputable def f_W_liars_1_34 (x2 : Int32) (x3 : Int32) (σ : am_St) : Option ((Int32 × Int32 × am_St) ⊕ (Int32 × am_St)) := am_lk (g_W_liars_1_34 x2 x3 σ)
theorem eq_W_liars_1_34 (x2 : Int32) (x3 : Int32) (σ : am_St) : f_W_liars_1_34 x2 x3 σ = g_W_liars_1_34 x2 x3 σ := am_lk_eq _
set_option maxRecDepth 100000 in
set_option maxHeartbeats 4000000 in
theorem s_W_liars_1_34 (G : am_G) (x2 : Int32) (x3 : Int32) (σ : am_St) (r : (Int32 × Int32 × am_St) ⊕ (Int32 × am_St)) (Q : am_AQ) (e : f_W_liars_1_34 x2 x3 σ = some r) (hr : (Pl_W_liars_1_4 G) r Q) : am_AW G M_W_liars 34 [(3, .int x3), (2, .int x2), (1, .ref 1), (0, .ref 54)] [] σ Q :=
  (show am_Snd G M_W_liars 34 (Pl_W_liars_1_4 G) _ from (sn_iinc (pc := 34) (v := 1) dX10_liars_34 rfl (Nat.le_of_ble_eq_true rfl) (sn_goto (pc := 37) (tgt := 4) dX10_liars_37 rfl (sn_lf (pc := 4) (ln_a (i := 0) (q := 54) (ln_a (i := 1) (q := 1) (ln_i (i := 2) (fun z0 => (ln_i (i := 3) (fun z1 => (ln_end (o := fun τ => (some (.inl (z0, z1, τ)) : Option ((Int32 × Int32 × am_St) ⊕ (Int32 × am_St)))) (fun _ _ _ e h => by cases e; exact h)))))))))))) _ _ _ _ _ ((eq_W_liars_1_34 x2 x3 σ).symm.trans e) hr
noncomputable def b_W_liars_1_4 (x2 : Int32) (x3 : Int32) (σ : am_St) : Option ((Int32 × Int32 × am_St) ⊕ (Int32 × am_St)) :=
  if (σ.1 1 6) ≤ x3 then
    some (.inr ((x2, σ)))
  else
    (f_W_leftBy_1 x3 σ).bind (fun p1 =>
      if p1.1 = 0 then
        (f_H_sayingAt_1 x3 p1.2).bind (fun p2 =>
          (f_H_moreIn p2.1 p2.2).bind (fun p3 =>
            let v4 := x2 ||| (1 <<< (p3.1 &&& 31))
            f_W_liars_1_34 v4 x3 p3.2))
      else
        f_W_liars_1_34 x2 x3 p1.2)
noncomputable def f_W_liars_1_4 (x2 : Int32) (x3 : Int32) (σ : am_St) : Option (Int32 × am_St) := am_lp (fun s : Int32 × Int32 × am_St => b_W_liars_1_4 s.1 s.2.1 s.2.2) (x2, x3, σ)
set_option maxRecDepth 100000 in
set_option maxHeartbeats 4000000 in
theorem sb_W_liars_1_4 (G : am_G) (x2 : Int32) (x3 : Int32) (σ : am_St) (r : (Int32 × Int32 × am_St) ⊕ (Int32 × am_St)) (Q : am_AQ) (e : b_W_liars_1_4 x2 x3 σ = some r) (hr : Pl_W_liars_1_4 G r Q) : am_AW G M_W_liars 4 [(3, .int x3), (2, .int x2), (1, .ref 1), (0, .ref 54)] [] σ Q :=
  (show am_Snd G M_W_liars 4 (Pl_W_liars_1_4 G) _ from (sn_iload_n (pc := 4) (i := 3) dX10_liars_4 rfl (sn_aload_n (pc := 5) (i := 1) dX10_liars_5 rfl (sn_gI (pc := 6) (h := 1) (f := 6) dX10_liars_6 am_CL_3 sh_1 rfl (Nat.le_of_ble_eq_true rfl) tw_104 (sn_icmp_ge (pc := 9) (tgt := 40) dX10_liars_9 rfl (sn_iload_n (pc := 40) (i := 2) dX10_liars_40 rfl (sn_reti (pc := 41) (R := fun x τ => (some (.inr ((x, τ))) : Option ((Int32 × Int32 × am_St) ⊕ (Int32 × am_St)))) dX10_liars_41 rfl (fun _ _ _ _ e h => by cases e; exact h))) (sn_aload_n (pc := 12) (i := 0) dX10_liars_12 rfl (sn_aload_n (pc := 13) (i := 1) dX10_liars_13 rfl (sn_iload_n (pc := 14) (i := 3) dX10_liars_14 rfl (sn_callV (pc := 15) (N := M_W_leftBy) dX10_liars_15 (cal_W_leftBy_1 G) sh_54 rfl tw_704 tw_651 tw_652 tw_10 tw_653 dsc_X10_leftBy rfl (sn_if_ne (pc := 18) (tgt := 34) dX10_liars_18 rfl (sn_lf (pc := 34) (ln_a (i := 0) (q := 54) (ln_a (i := 1) (q := 1) (ln_i (i := 2) (fun z0 => (ln_i (i := 3) (fun z1 => (ln_end (o := fun τ => f_W_liars_1_34 z0 z1 τ) (fun _ _ _ e h => s_W_liars_1_34 G z0 z1 _ _ _ e h))))))))) (sn_iload_n (pc := 21) (i := 2) dX10_liars_21 rfl (sn_iconst (pc := 22) (v := 1) dX10_liars_22 rfl (sn_aload_n (pc := 23) (i := 1) dX10_liars_23 rfl (sn_iload_n (pc := 24) (i := 3) dX10_liars_24 rfl (sn_callV (pc := 25) (N := M_H_sayingAt) dX10_liars_25 (cal_H_sayingAt_1 G) sh_1 rfl tw_654 tw_655 tw_656 tw_2 tw_657 dsc_X3_sayingAt rfl (sn_callS (pc := 28) (N := M_H_moreIn) dX10_liars_28 (cal_H_moreIn G) tw_357 tw_358 tw_2 tw_359 dsc_X3_moreIn rfl (sn_ishl (pc := 31) dX10_liars_31 (sn_ior (pc := 32) dX10_liars_32 (sn_istore_n (pc := 33) (i := 2) dX10_liars_33 rfl (Nat.le_of_ble_eq_true rfl) (sn_lf (pc := 34) (ln_a (i := 0) (q := 54) (ln_a (i := 1) (q := 1) (ln_i (i := 2) (fun z0 => (ln_i (i := 3) (fun z1 => (ln_end (o := fun τ => f_W_liars_1_34 z0 z1 τ) (fun _ _ _ e h => s_W_liars_1_34 G z0 z1 _ _ _ e h)))))))))))))))))))))))))))) _ _ _ _ _ e hr
theorem s_W_liars_1_4 (G : am_G) (x2 : Int32) (x3 : Int32) (σ : am_St) (r : Int32 × am_St) (Q : am_AQ) (e : f_W_liars_1_4 x2 x3 σ = some r) (hr : am_Pi r Q) : am_AW G M_W_liars 4 [(3, .int x3), (2, .int x2), (1, .ref 1), (0, .ref 54)] [] σ Q :=
  am_loop (P := am_Pi) (L := fun s : Int32 × Int32 × am_St => [(3, .int s.2.1), (2, .int s.1), (1, .ref 1), (0, .ref 54)]) (g := fun s => s.2.2) (fun s o Q e hr => sb_W_liars_1_4 G s.1 s.2.1 s.2.2 o Q e hr) (x2, x3, σ) r Q e hr
noncomputable def g_W_liars_1 (σ : am_St) : Option (Int32 × am_St) :=
  f_W_liars_1_4 0 0 σ
noncomputable def f_W_liars_1 (σ : am_St) : Option (Int32 × am_St) := am_lk (g_W_liars_1  σ)
theorem eq_W_liars_1 (σ : am_St) : f_W_liars_1  σ = g_W_liars_1  σ := am_lk_eq _
set_option maxRecDepth 100000 in
set_option maxHeartbeats 4000000 in
theorem s_W_liars_1 (G : am_G) (σ : am_St) (r : Int32 × am_St) (Q : am_AQ) (e : f_W_liars_1  σ = some r) (hr : am_Pi r Q) : am_AW G M_W_liars 0 [(0, .ref 54), (1, .ref 1)] [] σ Q :=
  (show am_Snd G M_W_liars 0 am_Pi _ from (sn_iconst (pc := 0) (v := 0) dX10_liars_0 rfl (sn_istore_n (pc := 1) (i := 2) dX10_liars_1 rfl (Nat.le_of_ble_eq_true rfl) (sn_iconst (pc := 2) (v := 0) dX10_liars_2 rfl (sn_istore_n (pc := 3) (i := 3) dX10_liars_3 rfl (Nat.le_of_ble_eq_true rfl) (sn_lf (pc := 4) (ln_a (i := 0) (q := 54) (ln_a (i := 1) (q := 1) (ln_i (i := 2) (fun z0 => (ln_i (i := 3) (fun z1 => (ln_end (o := fun τ => f_W_liars_1_4 z0 z1 τ) (fun _ _ _ e h => s_W_liars_1_4 G z0 z1 _ _ _ e h)))))))))))))) _ _ _ _ _ ((eq_W_liars_1  σ).symm.trans e) hr
noncomputable def cF_W_liars_1 : am_Fn := fun _ args σ K => match args with
  | [.ref q0, .ref q1] => match Nat.beq q0 54, Nat.beq q1 1 with
    | true, true => (f_W_liars_1 σ).bind (fun p => K (some (.int p.1)) p.2)
    | _, _ => none
  | _ => none
theorem cal_W_liars_1 (G : am_G) : am_Cal G M_W_liars cF_W_liars_1 := by
  intro ρ args σ K r e
  unfold cF_W_liars_1 at e
  split at e
  · split at e
    · rename_i hq0 hq1
      obtain ⟨p, h1, h2⟩ := am_bind_some e
      rw [Nat.eq_of_beq_eq_true hq0]
      rw [Nat.eq_of_beq_eq_true hq1]
      exact ⟨some (.int p.1), p.2, am_Met.of rfl (Nat.le_of_ble_eq_true rfl) (s_W_liars_1 G  σ p _ h1 ⟨rfl, rfl⟩), h2⟩
    · cases e
  · cases e
abbrev M_W_mustLie : am_MD := (yX10_mustLie, cX10_mustLie, 7, (some .int), 5, 126)
theorem dX10_mustLie_0 : decode cX10_mustLie 0 = .ok (.aload_n 0, 1) := by decide +kernel
theorem dX10_mustLie_1 : decode cX10_mustLie 1 = .ok (.aload_n 1, 1) := by decide +kernel
theorem dX10_mustLie_2 : decode cX10_mustLie 2 = .ok (.invokevirtual 125, 3) := by decide +kernel
theorem dX10_mustLie_5 : decode cX10_mustLie 5 = .ok (.invokestatic 122, 3) := by decide +kernel
theorem dX10_mustLie_8 : decode cX10_mustLie 8 = .ok (.istore_n 2, 1) := by decide +kernel
theorem dX10_mustLie_9 : decode cX10_mustLie 9 = .ok (.iconst 0, 1) := by decide +kernel
theorem dX10_mustLie_10 : decode cX10_mustLie 10 = .ok (.istore_n 3, 1) := by decide +kernel
theorem dX10_mustLie_11 : decode cX10_mustLie 11 = .ok (.aload_n 0, 1) := by decide +kernel
theorem dX10_mustLie_12 : decode cX10_mustLie 12 = .ok (.getfield 24, 3) := by decide +kernel
theorem dX10_mustLie_15 : decode cX10_mustLie 15 = .ok (.arraylength, 1) := by decide +kernel
theorem dX10_mustLie_16 : decode cX10_mustLie 16 = .ok (.iconst 1, 1) := by decide +kernel
theorem dX10_mustLie_17 : decode cX10_mustLie 17 = .ok (.aload_n 1, 1) := by decide +kernel
theorem dX10_mustLie_18 : decode cX10_mustLie 18 = .ok (.getfield 77, 3) := by decide +kernel
theorem dX10_mustLie_21 : decode cX10_mustLie 21 = .ok (.ishl, 1) := by decide +kernel
theorem dX10_mustLie_22 : decode cX10_mustLie 22 = .ok (.invokestatic 110, 3) := by decide +kernel
theorem dX10_mustLie_25 : decode cX10_mustLie 25 = .ok (.istore 4, 2) := by decide +kernel
theorem dX10_mustLie_27 : decode cX10_mustLie 27 = .ok (.iconst 0, 1) := by decide +kernel
theorem dX10_mustLie_28 : decode cX10_mustLie 28 = .ok (.istore 5, 2) := by decide +kernel
theorem dX10_mustLie_30 : decode cX10_mustLie 30 = .ok (.iload 5, 2) := by decide +kernel
theorem dX10_mustLie_32 : decode cX10_mustLie 32 = .ok (.iload 4, 2) := by decide +kernel
theorem dX10_mustLie_34 : decode cX10_mustLie 34 = .ok (.if_icmp .ge 33, 3) := by decide +kernel
theorem dX10_mustLie_37 : decode cX10_mustLie 37 = .ok (.aload_n 0, 1) := by decide +kernel
theorem dX10_mustLie_38 : decode cX10_mustLie 38 = .ok (.getfield 24, 3) := by decide +kernel
theorem dX10_mustLie_41 : decode cX10_mustLie 41 = .ok (.iload 5, 2) := by decide +kernel
theorem dX10_mustLie_43 : decode cX10_mustLie 43 = .ok (.baload, 1) := by decide +kernel
theorem dX10_mustLie_44 : decode cX10_mustLie 44 = .ok (.ifCond .eq 17, 3) := by decide +kernel
theorem dX10_mustLie_47 : decode cX10_mustLie 47 = .ok (.iload 5, 2) := by decide +kernel
theorem dX10_mustLie_49 : decode cX10_mustLie 49 = .ok (.invokestatic 122, 3) := by decide +kernel
theorem dX10_mustLie_52 : decode cX10_mustLie 52 = .ok (.iload_n 2, 1) := by decide +kernel
theorem dX10_mustLie_53 : decode cX10_mustLie 53 = .ok (.if_icmp .ne 8, 3) := by decide +kernel
theorem dX10_mustLie_56 : decode cX10_mustLie 56 = .ok (.iload_n 3, 1) := by decide +kernel
theorem dX10_mustLie_57 : decode cX10_mustLie 57 = .ok (.iload 5, 2) := by decide +kernel
theorem dX10_mustLie_59 : decode cX10_mustLie 59 = .ok (.ior, 1) := by decide +kernel
theorem dX10_mustLie_60 : decode cX10_mustLie 60 = .ok (.istore_n 3, 1) := by decide +kernel
theorem dX10_mustLie_61 : decode cX10_mustLie 61 = .ok (.iinc 5 1, 3) := by decide +kernel
theorem dX10_mustLie_64 : decode cX10_mustLie 64 = .ok (.goto (-34), 3) := by decide +kernel
theorem dX10_mustLie_67 : decode cX10_mustLie 67 = .ok (.iconst 0, 1) := by decide +kernel
theorem dX10_mustLie_68 : decode cX10_mustLie 68 = .ok (.istore 5, 2) := by decide +kernel
theorem dX10_mustLie_70 : decode cX10_mustLie 70 = .ok (.iconst 0, 1) := by decide +kernel
theorem dX10_mustLie_71 : decode cX10_mustLie 71 = .ok (.istore 6, 2) := by decide +kernel
theorem dX10_mustLie_73 : decode cX10_mustLie 73 = .ok (.iload 6, 2) := by decide +kernel
theorem dX10_mustLie_75 : decode cX10_mustLie 75 = .ok (.aload_n 1, 1) := by decide +kernel
theorem dX10_mustLie_76 : decode cX10_mustLie 76 = .ok (.getfield 77, 3) := by decide +kernel
theorem dX10_mustLie_79 : decode cX10_mustLie 79 = .ok (.if_icmp .ge 34, 3) := by decide +kernel
theorem dX10_mustLie_82 : decode cX10_mustLie 82 = .ok (.iload_n 3, 1) := by decide +kernel
theorem dX10_mustLie_83 : decode cX10_mustLie 83 = .ok (.iload 6, 2) := by decide +kernel
theorem dX10_mustLie_85 : decode cX10_mustLie 85 = .ok (.ishr, 1) := by decide +kernel
theorem dX10_mustLie_86 : decode cX10_mustLie 86 = .ok (.iconst 1, 1) := by decide +kernel
theorem dX10_mustLie_87 : decode cX10_mustLie 87 = .ok (.iand, 1) := by decide +kernel
theorem dX10_mustLie_88 : decode cX10_mustLie 88 = .ok (.ifCond .ne 19, 3) := by decide +kernel
theorem dX10_mustLie_91 : decode cX10_mustLie 91 = .ok (.iload 5, 2) := by decide +kernel
theorem dX10_mustLie_93 : decode cX10_mustLie 93 = .ok (.iconst 1, 1) := by decide +kernel
theorem dX10_mustLie_94 : decode cX10_mustLie 94 = .ok (.aload_n 1, 1) := by decide +kernel
theorem dX10_mustLie_95 : decode cX10_mustLie 95 = .ok (.iload 6, 2) := by decide +kernel
theorem dX10_mustLie_97 : decode cX10_mustLie 97 = .ok (.invokevirtual 80, 3) := by decide +kernel
theorem dX10_mustLie_100 : decode cX10_mustLie 100 = .ok (.invokestatic 70, 3) := by decide +kernel
theorem dX10_mustLie_103 : decode cX10_mustLie 103 = .ok (.ishl, 1) := by decide +kernel
theorem dX10_mustLie_104 : decode cX10_mustLie 104 = .ok (.ior, 1) := by decide +kernel
theorem dX10_mustLie_105 : decode cX10_mustLie 105 = .ok (.istore 5, 2) := by decide +kernel
theorem dX10_mustLie_107 : decode cX10_mustLie 107 = .ok (.iinc 6 1, 3) := by decide +kernel
theorem dX10_mustLie_110 : decode cX10_mustLie 110 = .ok (.goto (-37), 3) := by decide +kernel
theorem dX10_mustLie_113 : decode cX10_mustLie 113 = .ok (.iload 5, 2) := by decide +kernel
theorem dX10_mustLie_115 : decode cX10_mustLie 115 = .ok (.ireturn, 1) := by decide +kernel
abbrev Pl_W_mustLie_1_73 (G : am_G) : ((Int32 × Int32 × Int32 × am_St) ⊕ (Int32 × am_St)) → am_AQ → Prop := am_PL G M_W_mustLie 73 (fun s : Int32 × Int32 × Int32 × am_St => [(6, .int s.2.2.1), (5, .int s.2.1), (3, .int s.1), (1, .ref 1)]) (fun s => s.2.2.2) am_Pi
abbrev Pl_W_mustLie_1_30 (G : am_G) : ((Int32 × Int32 × Int32 × Int32 × am_St) ⊕ (Int32 × am_St)) → am_AQ → Prop := am_PL G M_W_mustLie 30 (fun s : Int32 × Int32 × Int32 × Int32 × am_St => [(5, .int s.2.2.2.1), (4, .int s.2.2.1), (3, .int s.2.1), (2, .int s.1), (1, .ref 1), (0, .ref 54)]) (fun s => s.2.2.2.2) am_Pi
noncomputable def g_W_mustLie_1_61 (x2 : Int32) (x3 : Int32) (x4 : Int32) (x5 : Int32) (σ : am_St) : Option ((Int32 × Int32 × Int32 × Int32 × am_St) ⊕ (Int32 × am_St)) :=
  let v1 := x5 + 1
  some (.inl (x2, x3, x4, v1, σ))
noncomputable def f_W_mustLie_1_61 (x2 : Int32) (x3 : Int32) (x4 : Int32) (x5 : Int32) (σ : am_St) : Option ((Int32 × Int32 × Int32 × Int32 × am_St) ⊕ (Int32 × am_St)) := am_lk (g_W_mustLie_1_61 x2 x3 x4 x5 σ)
theorem eq_W_mustLie_1_61 (x2 : Int32) (x3 : Int32) (x4 : Int32) (x5 : Int32) (σ : am_St) : f_W_mustLie_1_61 x2 x3 x4 x5 σ = g_W_mustLie_1_61 x2 x3 x4 x5 σ := am_lk_eq _
set_option maxRecDepth 100000 in
set_option maxHeartbeats 4000000 in
theorem s_W_mustLie_1_61 (G : am_G) (x2 : Int32) (x3 : Int32) (x4 : Int32) (x5 : Int32) (σ : am_St) (r : (Int32 × Int32 × Int32 × Int32 × am_St) ⊕ (Int32 × am_St)) (Q : am_AQ) (e : f_W_mustLie_1_61 x2 x3 x4 x5 σ = some r) (hr : (Pl_W_mustLie_1_30 G) r Q) : am_AW G M_W_mustLie 61 [(5, .int x5), (4, .int x4), (3, .int x3), (2, .int x2), (1, .ref 1), (0, .ref 54)] [] σ Q :=
  (show am_Snd G M_W_mustLie 61 (Pl_W_mustLie_1_30 G) _ from (sn_iinc (pc := 61) (v := 1) dX10_mustLie_61 rfl (Nat.le_of_ble_eq_true rfl) (sn_goto (pc := 64) (tgt := 30) dX10_mustLie_64 rfl (sn_lf (pc := 30) (ln_a (i := 0) (q := 54) (ln_a (i := 1) (q := 1) (ln_i (i := 2) (fun z0 => (ln_i (i := 3) (fun z1 => (ln_i (i := 4) (fun z2 => (ln_i (i := 5) (fun z3 => (ln_end (o := fun τ => (some (.inl (z0, z1, z2, z3, τ)) : Option ((Int32 × Int32 × Int32 × Int32 × am_St) ⊕ (Int32 × am_St)))) (fun _ _ _ e h => by cases e; exact h)))))))))))))))) _ _ _ _ _ ((eq_W_mustLie_1_61 x2 x3 x4 x5 σ).symm.trans e) hr
noncomputable def g_W_mustLie_1_107 (x3 : Int32) (x5 : Int32) (x6 : Int32) (σ : am_St) : Option ((Int32 × Int32 × Int32 × am_St) ⊕ (Int32 × am_St)) :=
  let v1 := x6 + 1
  some (.inl (x3, x5, v1, σ))
noncomputable def f_W_mustLie_1_107 (x3 : Int32) (x5 : Int32) (x6 : Int32) (σ : am_St) : Option ((Int32 × Int32 × Int32 × am_St) ⊕ (Int32 × am_St)) := am_lk (g_W_mustLie_1_107 x3 x5 x6 σ)
theorem eq_W_mustLie_1_107 (x3 : Int32) (x5 : Int32) (x6 : Int32) (σ : am_St) : f_W_mustLie_1_107 x3 x5 x6 σ = g_W_mustLie_1_107 x3 x5 x6 σ := am_lk_eq _
set_option maxRecDepth 100000 in
set_option maxHeartbeats 4000000 in
theorem s_W_mustLie_1_107 (G : am_G) (x3 : Int32) (x5 : Int32) (x6 : Int32) (σ : am_St) (r : (Int32 × Int32 × Int32 × am_St) ⊕ (Int32 × am_St)) (Q : am_AQ) (e : f_W_mustLie_1_107 x3 x5 x6 σ = some r) (hr : (Pl_W_mustLie_1_73 G) r Q) : am_AW G M_W_mustLie 107 [(6, .int x6), (5, .int x5), (3, .int x3), (1, .ref 1)] [] σ Q :=
  (show am_Snd G M_W_mustLie 107 (Pl_W_mustLie_1_73 G) _ from (sn_iinc (pc := 107) (v := 1) dX10_mustLie_107 rfl (Nat.le_of_ble_eq_true rfl) (sn_goto (pc := 110) (tgt := 73) dX10_mustLie_110 rfl (sn_lf (pc := 73) (ln_a (i := 1) (q := 1) (ln_i (i := 3) (fun z0 => (ln_i (i := 5) (fun z1 => (ln_i (i := 6) (fun z2 => (ln_end (o := fun τ => (some (.inl (z0, z1, z2, τ)) : Option ((Int32 × Int32 × Int32 × am_St) ⊕ (Int32 × am_St)))) (fun _ _ _ e h => by cases e; exact h))))))))))))) _ _ _ _ _ ((eq_W_mustLie_1_107 x3 x5 x6 σ).symm.trans e) hr
noncomputable def b_W_mustLie_1_73 (x3 : Int32) (x5 : Int32) (x6 : Int32) (σ : am_St) : Option ((Int32 × Int32 × Int32 × am_St) ⊕ (Int32 × am_St)) :=
  if (σ.1 1 6) ≤ x6 then
    some (.inr ((x5, σ)))
  else
    if ((x3 >>> (x6 &&& 31)) &&& 1) = 0 then
      (f_H_sayingAt_1 x6 σ).bind (fun p1 =>
        (f_H_moreIn p1.1 p1.2).bind (fun p2 =>
          let v3 := x5 ||| (1 <<< (p2.1 &&& 31))
          f_W_mustLie_1_107 x3 v3 x6 p2.2))
    else
      f_W_mustLie_1_107 x3 x5 x6 σ
noncomputable def f_W_mustLie_1_73 (x3 : Int32) (x5 : Int32) (x6 : Int32) (σ : am_St) : Option (Int32 × am_St) := am_lp (fun s : Int32 × Int32 × Int32 × am_St => b_W_mustLie_1_73 s.1 s.2.1 s.2.2.1 s.2.2.2) (x3, x5, x6, σ)
set_option maxRecDepth 100000 in
set_option maxHeartbeats 4000000 in
theorem sb_W_mustLie_1_73 (G : am_G) (x3 : Int32) (x5 : Int32) (x6 : Int32) (σ : am_St) (r : (Int32 × Int32 × Int32 × am_St) ⊕ (Int32 × am_St)) (Q : am_AQ) (e : b_W_mustLie_1_73 x3 x5 x6 σ = some r) (hr : Pl_W_mustLie_1_73 G r Q) : am_AW G M_W_mustLie 73 [(6, .int x6), (5, .int x5), (3, .int x3), (1, .ref 1)] [] σ Q :=
  (show am_Snd G M_W_mustLie 73 (Pl_W_mustLie_1_73 G) _ from (sn_iload (pc := 73) dX10_mustLie_73 (sn_aload_n (pc := 75) (i := 1) dX10_mustLie_75 rfl (sn_gI (pc := 76) (h := 1) (f := 6) dX10_mustLie_76 am_CL_3 sh_1 rfl (Nat.le_of_ble_eq_true rfl) tw_104 (sn_icmp_ge (pc := 79) (tgt := 113) dX10_mustLie_79 rfl (sn_iload (pc := 113) dX10_mustLie_113 (sn_reti (pc := 115) (R := fun x τ => (some (.inr ((x, τ))) : Option ((Int32 × Int32 × Int32 × am_St) ⊕ (Int32 × am_St)))) dX10_mustLie_115 rfl (fun _ _ _ _ e h => by cases e; exact h))) (sn_iload_n (pc := 82) (i := 3) dX10_mustLie_82 rfl (sn_iload (pc := 83) dX10_mustLie_83 (sn_ishr (pc := 85) dX10_mustLie_85 (sn_iconst (pc := 86) (v := 1) dX10_mustLie_86 rfl (sn_iand (pc := 87) dX10_mustLie_87 (sn_if_ne (pc := 88) (tgt := 107) dX10_mustLie_88 rfl (sn_lf (pc := 107) (ln_a (i := 1) (q := 1) (ln_i (i := 3) (fun z0 => (ln_i (i := 5) (fun z1 => (ln_i (i := 6) (fun z2 => (ln_end (o := fun τ => f_W_mustLie_1_107 z0 z1 z2 τ) (fun _ _ _ e h => s_W_mustLie_1_107 G z0 z1 z2 _ _ _ e h)))))))))) (sn_iload (pc := 91) dX10_mustLie_91 (sn_iconst (pc := 93) (v := 1) dX10_mustLie_93 rfl (sn_aload_n (pc := 94) (i := 1) dX10_mustLie_94 rfl (sn_iload (pc := 95) dX10_mustLie_95 (sn_callV (pc := 97) (N := M_H_sayingAt) dX10_mustLie_97 (cal_H_sayingAt_1 G) sh_1 rfl tw_654 tw_655 tw_656 tw_2 tw_657 dsc_X3_sayingAt rfl (sn_callS (pc := 100) (N := M_H_moreIn) dX10_mustLie_100 (cal_H_moreIn G) tw_357 tw_358 tw_2 tw_359 dsc_X3_moreIn rfl (sn_ishl (pc := 103) dX10_mustLie_103 (sn_ior (pc := 104) dX10_mustLie_104 (sn_istore (pc := 105) dX10_mustLie_105 (Nat.le_of_ble_eq_true rfl) (sn_lf (pc := 107) (ln_a (i := 1) (q := 1) (ln_i (i := 3) (fun z0 => (ln_i (i := 5) (fun z1 => (ln_i (i := 6) (fun z2 => (ln_end (o := fun τ => f_W_mustLie_1_107 z0 z1 z2 τ) (fun _ _ _ e h => s_W_mustLie_1_107 G z0 z1 z2 _ _ _ e h)))))))))))))))))))))))))))))) _ _ _ _ _ e hr
theorem s_W_mustLie_1_73 (G : am_G) (x3 : Int32) (x5 : Int32) (x6 : Int32) (σ : am_St) (r : Int32 × am_St) (Q : am_AQ) (e : f_W_mustLie_1_73 x3 x5 x6 σ = some r) (hr : am_Pi r Q) : am_AW G M_W_mustLie 73 [(6, .int x6), (5, .int x5), (3, .int x3), (1, .ref 1)] [] σ Q :=
  am_loop (P := am_Pi) (L := fun s : Int32 × Int32 × Int32 × am_St => [(6, .int s.2.2.1), (5, .int s.2.1), (3, .int s.1), (1, .ref 1)]) (g := fun s => s.2.2.2) (fun s o Q e hr => sb_W_mustLie_1_73 G s.1 s.2.1 s.2.2.1 s.2.2.2 o Q e hr) (x3, x5, x6, σ) r Q e hr
noncomputable def b_W_mustLie_1_30 (x2 : Int32) (x3 : Int32) (x4 : Int32) (x5 : Int32) (σ : am_St) : Option ((Int32 × Int32 × Int32 × Int32 × am_St) ⊕ (Int32 × am_St)) :=
  if x4 ≤ x5 then
    (f_W_mustLie_1_73 x3 0 0 σ).map (fun r => .inr r)
  else
    if am_ix x5 256 = true then
      if (σ.1 59 x5.toNatClampNeg) = 0 then
        f_W_mustLie_1_61 x2 x3 x4 x5 σ
      else
        (f_JI_bitCount x5 σ).bind (fun p1 =>
          if p1.1 = x2 then
            let v2 := x3 ||| x5
            f_W_mustLie_1_61 x2 v2 x4 x5 p1.2
          else
            f_W_mustLie_1_61 x2 x3 x4 x5 p1.2)
    else none
noncomputable def f_W_mustLie_1_30 (x2 : Int32) (x3 : Int32) (x4 : Int32) (x5 : Int32) (σ : am_St) : Option (Int32 × am_St) := am_lp (fun s : Int32 × Int32 × Int32 × Int32 × am_St => b_W_mustLie_1_30 s.1 s.2.1 s.2.2.1 s.2.2.2.1 s.2.2.2.2) (x2, x3, x4, x5, σ)
set_option maxRecDepth 100000 in
set_option maxHeartbeats 4000000 in
theorem sb_W_mustLie_1_30 (G : am_G) (x2 : Int32) (x3 : Int32) (x4 : Int32) (x5 : Int32) (σ : am_St) (r : (Int32 × Int32 × Int32 × Int32 × am_St) ⊕ (Int32 × am_St)) (Q : am_AQ) (e : b_W_mustLie_1_30 x2 x3 x4 x5 σ = some r) (hr : Pl_W_mustLie_1_30 G r Q) : am_AW G M_W_mustLie 30 [(5, .int x5), (4, .int x4), (3, .int x3), (2, .int x2), (1, .ref 1), (0, .ref 54)] [] σ Q :=
  (show am_Snd G M_W_mustLie 30 (Pl_W_mustLie_1_30 G) _ from (sn_iload (pc := 30) dX10_mustLie_30 (sn_iload (pc := 32) dX10_mustLie_32 (sn_icmp_ge (pc := 34) (tgt := 67) dX10_mustLie_34 rfl (sn_iconst (pc := 67) (v := 0) dX10_mustLie_67 rfl (sn_istore (pc := 68) dX10_mustLie_68 (Nat.le_of_ble_eq_true rfl) (sn_iconst (pc := 70) (v := 0) dX10_mustLie_70 rfl (sn_istore (pc := 71) dX10_mustLie_71 (Nat.le_of_ble_eq_true rfl) (sn_lf (pc := 73) (ln_a (i := 1) (q := 1) (ln_i (i := 3) (fun z0 => (ln_i (i := 5) (fun z1 => (ln_i (i := 6) (fun z2 => (ln_end (o := fun τ => ((f_W_mustLie_1_73 z0 z1 z2 τ).map (fun r => .inr r) : Option ((Int32 × Int32 × Int32 × Int32 × am_St) ⊕ (Int32 × am_St)))) (fun _ _ _ e h => by obtain ⟨r9, e9, rfl⟩ := am_map_some e; exact s_W_mustLie_1_73 G z0 z1 z2 _ _ _ e9 h)))))))))))))) (sn_aload_n (pc := 37) (i := 0) dX10_mustLie_37 rfl (sn_gR (r0 := 59) (pc := 38) (h := 54) (f := 4) dX10_mustLie_38 am_CL_9 sh_54 rfl (Nat.le_of_ble_eq_true rfl) tw_180 (sn_iload (pc := 41) dX10_mustLie_41 (sn_aZ (pc := 43) (h := 59) dX10_mustLie_43 sh_59 (sn_if_eq (pc := 44) (tgt := 61) dX10_mustLie_44 rfl (sn_lf (pc := 61) (ln_a (i := 0) (q := 54) (ln_a (i := 1) (q := 1) (ln_i (i := 2) (fun z0 => (ln_i (i := 3) (fun z1 => (ln_i (i := 4) (fun z2 => (ln_i (i := 5) (fun z3 => (ln_end (o := fun τ => f_W_mustLie_1_61 z0 z1 z2 z3 τ) (fun _ _ _ e h => s_W_mustLie_1_61 G z0 z1 z2 z3 _ _ _ e h))))))))))))) (sn_iload (pc := 47) dX10_mustLie_47 (sn_callS (pc := 49) (N := M_JI_bitCount) dX10_mustLie_49 (cal_JI_bitCount G) tw_693 tw_694 tw_15 tw_695 dsc_J6_bitCount_0f7a4 rfl (sn_iload_n (pc := 52) (i := 2) dX10_mustLie_52 rfl (sn_icmp_ne (pc := 53) (tgt := 61) dX10_mustLie_53 rfl (sn_lf (pc := 61) (ln_a (i := 0) (q := 54) (ln_a (i := 1) (q := 1) (ln_i (i := 2) (fun z0 => (ln_i (i := 3) (fun z1 => (ln_i (i := 4) (fun z2 => (ln_i (i := 5) (fun z3 => (ln_end (o := fun τ => f_W_mustLie_1_61 z0 z1 z2 z3 τ) (fun _ _ _ e h => s_W_mustLie_1_61 G z0 z1 z2 z3 _ _ _ e h))))))))))))) (sn_iload_n (pc := 56) (i := 3) dX10_mustLie_56 rfl (sn_iload (pc := 57) dX10_mustLie_57 (sn_ior (pc := 59) dX10_mustLie_59 (sn_istore_n (pc := 60) (i := 3) dX10_mustLie_60 rfl (Nat.le_of_ble_eq_true rfl) (sn_lf (pc := 61) (ln_a (i := 0) (q := 54) (ln_a (i := 1) (q := 1) (ln_i (i := 2) (fun z0 => (ln_i (i := 3) (fun z1 => (ln_i (i := 4) (fun z2 => (ln_i (i := 5) (fun z3 => (ln_end (o := fun τ => f_W_mustLie_1_61 z0 z1 z2 z3 τ) (fun _ _ _ e h => s_W_mustLie_1_61 G z0 z1 z2 z3 _ _ _ e h)))))))))))))))))))))))))))))) _ _ _ _ _ e hr
theorem s_W_mustLie_1_30 (G : am_G) (x2 : Int32) (x3 : Int32) (x4 : Int32) (x5 : Int32) (σ : am_St) (r : Int32 × am_St) (Q : am_AQ) (e : f_W_mustLie_1_30 x2 x3 x4 x5 σ = some r) (hr : am_Pi r Q) : am_AW G M_W_mustLie 30 [(5, .int x5), (4, .int x4), (3, .int x3), (2, .int x2), (1, .ref 1), (0, .ref 54)] [] σ Q :=
  am_loop (P := am_Pi) (L := fun s : Int32 × Int32 × Int32 × Int32 × am_St => [(5, .int s.2.2.2.1), (4, .int s.2.2.1), (3, .int s.2.1), (2, .int s.1), (1, .ref 1), (0, .ref 54)]) (g := fun s => s.2.2.2.2) (fun s o Q e hr => sb_W_mustLie_1_30 G s.1 s.2.1 s.2.2.1 s.2.2.2.1 s.2.2.2.2 o Q e hr) (x2, x3, x4, x5, σ) r Q e hr
noncomputable def g_W_mustLie_1_27 (x2 : Int32) (x3 : Int32) (x4 : Int32) (σ : am_St) : Option (Int32 × am_St) :=
  f_W_mustLie_1_30 x2 x3 x4 0 σ
noncomputable def f_W_mustLie_1_27 (x2 : Int32) (x3 : Int32) (x4 : Int32) (σ : am_St) : Option (Int32 × am_St) := am_lk (g_W_mustLie_1_27 x2 x3 x4 σ)
theorem eq_W_mustLie_1_27 (x2 : Int32) (x3 : Int32) (x4 : Int32) (σ : am_St) : f_W_mustLie_1_27 x2 x3 x4 σ = g_W_mustLie_1_27 x2 x3 x4 σ := am_lk_eq _
set_option maxRecDepth 100000 in
set_option maxHeartbeats 4000000 in
theorem s_W_mustLie_1_27 (G : am_G) (x2 : Int32) (x3 : Int32) (x4 : Int32) (σ : am_St) (r : Int32 × am_St) (Q : am_AQ) (e : f_W_mustLie_1_27 x2 x3 x4 σ = some r) (hr : am_Pi r Q) : am_AW G M_W_mustLie 27 [(4, .int x4), (3, .int x3), (2, .int x2), (1, .ref 1), (0, .ref 54)] [] σ Q :=
  (show am_Snd G M_W_mustLie 27 am_Pi _ from (sn_iconst (pc := 27) (v := 0) dX10_mustLie_27 rfl (sn_istore (pc := 28) dX10_mustLie_28 (Nat.le_of_ble_eq_true rfl) (sn_lf (pc := 30) (ln_a (i := 0) (q := 54) (ln_a (i := 1) (q := 1) (ln_i (i := 2) (fun z0 => (ln_i (i := 3) (fun z1 => (ln_i (i := 4) (fun z2 => (ln_i (i := 5) (fun z3 => (ln_end (o := fun τ => f_W_mustLie_1_30 z0 z1 z2 z3 τ) (fun _ _ _ e h => s_W_mustLie_1_30 G z0 z1 z2 z3 _ _ _ e h)))))))))))))))) _ _ _ _ _ ((eq_W_mustLie_1_27 x2 x3 x4 σ).symm.trans e) hr
noncomputable def g_W_mustLie_1 (σ : am_St) : Option (Int32 × am_St) :=
  (f_W_largestSet_1 σ).bind (fun p1 =>
    (f_JI_bitCount p1.1 p1.2).bind (fun p2 =>
      let v3 := am_mmin 256 (1 <<< ((p2.2.1 1 6) &&& 31))
      f_W_mustLie_1_27 p2.1 0 v3 p2.2))
noncomputable def f_W_mustLie_1 (σ : am_St) : Option (Int32 × am_St) := am_lk (g_W_mustLie_1  σ)
theorem eq_W_mustLie_1 (σ : am_St) : f_W_mustLie_1  σ = g_W_mustLie_1  σ := am_lk_eq _
set_option maxRecDepth 100000 in
set_option maxHeartbeats 4000000 in
theorem s_W_mustLie_1 (G : am_G) (σ : am_St) (r : Int32 × am_St) (Q : am_AQ) (e : f_W_mustLie_1  σ = some r) (hr : am_Pi r Q) : am_AW G M_W_mustLie 0 [(0, .ref 54), (1, .ref 1)] [] σ Q :=
  (show am_Snd G M_W_mustLie 0 am_Pi _ from (sn_aload_n (pc := 0) (i := 0) dX10_mustLie_0 rfl (sn_aload_n (pc := 1) (i := 1) dX10_mustLie_1 rfl (sn_callV (pc := 2) (N := M_W_largestSet) dX10_mustLie_2 (cal_W_largestSet_1 G) sh_54 rfl tw_709 tw_681 tw_682 tw_10 tw_683 dsc_X10_largestSet rfl (sn_callS (pc := 5) (N := M_JI_bitCount) dX10_mustLie_5 (cal_JI_bitCount G) tw_693 tw_694 tw_15 tw_695 dsc_J6_bitCount_0f7a4 rfl (sn_istore_n (pc := 8) (i := 2) dX10_mustLie_8 rfl (Nat.le_of_ble_eq_true rfl) (sn_iconst (pc := 9) (v := 0) dX10_mustLie_9 rfl (sn_istore_n (pc := 10) (i := 3) dX10_mustLie_10 rfl (Nat.le_of_ble_eq_true rfl) (sn_aload_n (pc := 11) (i := 0) dX10_mustLie_11 rfl (sn_gR (r0 := 59) (pc := 12) (h := 54) (f := 4) dX10_mustLie_12 am_CL_9 sh_54 rfl (Nat.le_of_ble_eq_true rfl) tw_180 (sn_len (pc := 15) (h := 59) (v := 256) dX10_mustLie_15 sh_59 rfl (sn_iconst (pc := 16) (v := 1) dX10_mustLie_16 rfl (sn_aload_n (pc := 17) (i := 1) dX10_mustLie_17 rfl (sn_gI (pc := 18) (h := 1) (f := 6) dX10_mustLie_18 am_CL_3 sh_1 rfl (Nat.le_of_ble_eq_true rfl) tw_104 (sn_ishl (pc := 21) dX10_mustLie_21 (sn_mmin (pc := 22) dX10_mustLie_22 tw_688 tw_511 tw_14 tw_512 rfl (sn_istore (pc := 25) dX10_mustLie_25 (Nat.le_of_ble_eq_true rfl) (sn_lf (pc := 27) (ln_a (i := 0) (q := 54) (ln_a (i := 1) (q := 1) (ln_i (i := 2) (fun z0 => (ln_i (i := 3) (fun z1 => (ln_i (i := 4) (fun z2 => (ln_end (o := fun τ => f_W_mustLie_1_27 z0 z1 z2 τ) (fun _ _ _ e h => s_W_mustLie_1_27 G z0 z1 z2 _ _ _ e h)))))))))))))))))))))))))))) _ _ _ _ _ ((eq_W_mustLie_1  σ).symm.trans e) hr
noncomputable def cF_W_mustLie_1 : am_Fn := fun _ args σ K => match args with
  | [.ref q0, .ref q1] => match Nat.beq q0 54, Nat.beq q1 1 with
    | true, true => (f_W_mustLie_1 σ).bind (fun p => K (some (.int p.1)) p.2)
    | _, _ => none
  | _ => none
theorem cal_W_mustLie_1 (G : am_G) : am_Cal G M_W_mustLie cF_W_mustLie_1 := by
  intro ρ args σ K r e
  unfold cF_W_mustLie_1 at e
  split at e
  · split at e
    · rename_i hq0 hq1
      obtain ⟨p, h1, h2⟩ := am_bind_some e
      rw [Nat.eq_of_beq_eq_true hq0]
      rw [Nat.eq_of_beq_eq_true hq1]
      exact ⟨some (.int p.1), p.2, am_Met.of rfl (Nat.le_of_ble_eq_true rfl) (s_W_mustLie_1 G  σ p _ h1 ⟨rfl, rfl⟩), h2⟩
    · cases e
  · cases e
abbrev M_X_most : am_MD := (yX11_most, cX11_most, 2, (some .int), 6, 152)
theorem dX11_most_0 : decode cX11_most 0 = .ok (.iload_n 1, 1) := by decide +kernel
theorem dX11_most_1 : decode cX11_most 1 = .ok (.tableswitch 82 0 3 #[31, 46, 58, 70], 31) := by decide +kernel
theorem dX11_most_32 : decode cX11_most 32 = .ok (.aload_n 0, 1) := by decide +kernel
theorem dX11_most_33 : decode cX11_most 33 = .ok (.getfield 33, 3) := by decide +kernel
theorem dX11_most_36 : decode cX11_most 36 = .ok (.aload_n 0, 1) := by decide +kernel
theorem dX11_most_37 : decode cX11_most 37 = .ok (.getfield 10, 3) := by decide +kernel
theorem dX11_most_40 : decode cX11_most 40 = .ok (.invokevirtual 206, 3) := by decide +kernel
theorem dX11_most_43 : decode cX11_most 43 = .ok (.invokestatic 210, 3) := by decide +kernel
theorem dX11_most_46 : decode cX11_most 46 = .ok (.ireturn, 1) := by decide +kernel
theorem dX11_most_47 : decode cX11_most 47 = .ok (.aload_n 0, 1) := by decide +kernel
theorem dX11_most_48 : decode cX11_most 48 = .ok (.getfield 33, 3) := by decide +kernel
theorem dX11_most_51 : decode cX11_most 51 = .ok (.aload_n 0, 1) := by decide +kernel
theorem dX11_most_52 : decode cX11_most 52 = .ok (.getfield 10, 3) := by decide +kernel
theorem dX11_most_55 : decode cX11_most 55 = .ok (.invokevirtual 206, 3) := by decide +kernel
theorem dX11_most_58 : decode cX11_most 58 = .ok (.ireturn, 1) := by decide +kernel
theorem dX11_most_59 : decode cX11_most 59 = .ok (.aload_n 0, 1) := by decide +kernel
theorem dX11_most_60 : decode cX11_most 60 = .ok (.getfield 33, 3) := by decide +kernel
theorem dX11_most_63 : decode cX11_most 63 = .ok (.aload_n 0, 1) := by decide +kernel
theorem dX11_most_64 : decode cX11_most 64 = .ok (.getfield 10, 3) := by decide +kernel
theorem dX11_most_67 : decode cX11_most 67 = .ok (.invokevirtual 215, 3) := by decide +kernel
theorem dX11_most_70 : decode cX11_most 70 = .ok (.ireturn, 1) := by decide +kernel
theorem dX11_most_71 : decode cX11_most 71 = .ok (.aload_n 0, 1) := by decide +kernel
theorem dX11_most_72 : decode cX11_most 72 = .ok (.getfield 33, 3) := by decide +kernel
theorem dX11_most_75 : decode cX11_most 75 = .ok (.aload_n 0, 1) := by decide +kernel
theorem dX11_most_76 : decode cX11_most 76 = .ok (.getfield 10, 3) := by decide +kernel
theorem dX11_most_79 : decode cX11_most 79 = .ok (.invokevirtual 218, 3) := by decide +kernel
theorem dX11_most_82 : decode cX11_most 82 = .ok (.ireturn, 1) := by decide +kernel
theorem dX11_most_83 : decode cX11_most 83 = .ok (.aload_n 0, 1) := by decide +kernel
theorem dX11_most_84 : decode cX11_most 84 = .ok (.bipush (-2), 2) := by decide +kernel
theorem dX11_most_86 : decode cX11_most 86 = .ok (.invokevirtual 55, 3) := by decide +kernel
theorem dX11_most_89 : decode cX11_most 89 = .ok (.ireturn, 1) := by decide +kernel
noncomputable def g_X_most (x1 : Int32) (σ : am_St) : Option (Int32 × am_St) :=
  if x1 = 0 then
    (f_W_largestSet_1 σ).bind (fun p1 =>
      (f_JI_bitCount p1.1 p1.2).bind (fun p2 =>
        some ((p2.1, p2.2))))
  else
  if x1 = 1 then
    (f_W_largestSet_1 σ).bind (fun p3 =>
      some ((p3.1, p3.2)))
  else
  if x1 = 2 then
    (f_W_liars_1 σ).bind (fun p4 =>
      some ((p4.1, p4.2)))
  else
  if x1 = 3 then
    (f_W_mustLie_1 σ).bind (fun p5 =>
      some ((p5.1, p5.2)))
  else
  (f_X_refuse (-2) σ).bind (fun p6 =>
    some ((p6.1, p6.2)))
noncomputable def f_X_most (x1 : Int32) (σ : am_St) : Option (Int32 × am_St) := am_lk (g_X_most x1 σ)
theorem eq_X_most (x1 : Int32) (σ : am_St) : f_X_most x1 σ = g_X_most x1 σ := am_lk_eq _
set_option maxRecDepth 100000 in
set_option maxHeartbeats 4000000 in
theorem s_X_most (G : am_G) (x1 : Int32) (σ : am_St) (r : Int32 × am_St) (Q : am_AQ) (e : f_X_most x1 σ = some r) (hr : am_Pi r Q) : am_AW G M_X_most 0 [(0, .ref 0), (1, .int x1)] [] σ Q :=
  (show am_Snd G M_X_most 0 am_Pi _ from (sn_iload_n (pc := 0) (i := 1) dX11_most_0 rfl (sn_tsw (pc := 1) (dt := 83) (vs := [0, 1, 2, 3]) (ts := [32, 47, 59, 71]) dX11_most_1 (by decide +kernel) (sn_aload_n (pc := 83) (i := 0) dX11_most_83 rfl (sn_bipush (pc := 84) (v := (-2)) dX11_most_84 (show (Int8.ofInt (-2)).toInt32 = (-2) by decide) (sn_callV (pc := 86) (N := M_X_refuse) dX11_most_86 (cal_X_refuse G) sh_0 rfl tw_251 tw_253 tp_0 tw_1 tw_254 dsc_X11_refuse rfl (sn_reti (pc := 89) (R := fun x τ => (some ((x, τ)))) dX11_most_89 rfl (fun _ _ _ _ e h => by cases e; exact h))))) (am_all_cons (sn_aload_n (pc := 32) (i := 0) dX11_most_32 rfl (sn_gR (r0 := 54) (pc := 33) (h := 0) (f := 4) dX11_most_33 am_CL_10 sh_0 rfl (Nat.le_of_ble_eq_true rfl) tw_223 (sn_aload_n (pc := 36) (i := 0) dX11_most_36 rfl (sn_gR (r0 := 1) (pc := 37) (h := 0) (f := 0) dX11_most_37 am_CL_10 sh_0 rfl (Nat.le_of_ble_eq_true rfl) tw_219 (sn_callV (pc := 40) (N := M_W_largestSet) dX11_most_40 (cal_W_largestSet_1 G) sh_54 rfl tw_680 tw_681 tw_682 tw_10 tw_683 dsc_X10_largestSet rfl (sn_callS (pc := 43) (N := M_JI_bitCount) dX11_most_43 (cal_JI_bitCount G) tw_699 tw_694 tw_15 tw_695 dsc_J6_bitCount_0f7a4 rfl (sn_reti (pc := 46) (R := fun x τ => (some ((x, τ)))) dX11_most_46 rfl (fun _ _ _ _ e h => by cases e; exact h)))))))) (am_all_cons (sn_aload_n (pc := 47) (i := 0) dX11_most_47 rfl (sn_gR (r0 := 54) (pc := 48) (h := 0) (f := 4) dX11_most_48 am_CL_10 sh_0 rfl (Nat.le_of_ble_eq_true rfl) tw_223 (sn_aload_n (pc := 51) (i := 0) dX11_most_51 rfl (sn_gR (r0 := 1) (pc := 52) (h := 0) (f := 0) dX11_most_52 am_CL_10 sh_0 rfl (Nat.le_of_ble_eq_true rfl) tw_219 (sn_callV (pc := 55) (N := M_W_largestSet) dX11_most_55 (cal_W_largestSet_1 G) sh_54 rfl tw_680 tw_681 tw_682 tw_10 tw_683 dsc_X10_largestSet rfl (sn_reti (pc := 58) (R := fun x τ => (some ((x, τ)))) dX11_most_58 rfl (fun _ _ _ _ e h => by cases e; exact h))))))) (am_all_cons (sn_aload_n (pc := 59) (i := 0) dX11_most_59 rfl (sn_gR (r0 := 54) (pc := 60) (h := 0) (f := 4) dX11_most_60 am_CL_10 sh_0 rfl (Nat.le_of_ble_eq_true rfl) tw_223 (sn_aload_n (pc := 63) (i := 0) dX11_most_63 rfl (sn_gR (r0 := 1) (pc := 64) (h := 0) (f := 0) dX11_most_64 am_CL_10 sh_0 rfl (Nat.le_of_ble_eq_true rfl) tw_219 (sn_callV (pc := 67) (N := M_W_liars) dX11_most_67 (cal_W_liars_1 G) sh_54 rfl tw_700 tw_701 tw_702 tw_10 tw_703 dsc_X10_liars rfl (sn_reti (pc := 70) (R := fun x τ => (some ((x, τ)))) dX11_most_70 rfl (fun _ _ _ _ e h => by cases e; exact h))))))) (am_all_cons (sn_aload_n (pc := 71) (i := 0) dX11_most_71 rfl (sn_gR (r0 := 54) (pc := 72) (h := 0) (f := 4) dX11_most_72 am_CL_10 sh_0 rfl (Nat.le_of_ble_eq_true rfl) tw_223 (sn_aload_n (pc := 75) (i := 0) dX11_most_75 rfl (sn_gR (r0 := 1) (pc := 76) (h := 0) (f := 0) dX11_most_76 am_CL_10 sh_0 rfl (Nat.le_of_ble_eq_true rfl) tw_219 (sn_callV (pc := 79) (N := M_W_mustLie) dX11_most_79 (cal_W_mustLie_1 G) sh_54 rfl tw_705 tw_706 tw_707 tw_10 tw_708 dsc_X10_mustLie rfl (sn_reti (pc := 82) (R := fun x τ => (some ((x, τ)))) dX11_most_82 rfl (fun _ _ _ _ e h => by cases e; exact h))))))) am_all_nil))))))) _ _ _ _ _ ((eq_X_most x1 σ).symm.trans e) hr
noncomputable def cF_X_most : am_Fn := fun _ args σ K => match args with
  | [.ref q0, .int z1] => match Nat.beq q0 0 with
    | true => (f_X_most z1 σ).bind (fun p => K (some (.int p.1)) p.2)
    | _ => none
  | _ => none
theorem cal_X_most (G : am_G) : am_Cal G M_X_most cF_X_most := by
  intro ρ args σ K r e
  unfold cF_X_most at e
  split at e
  · split at e
    · rename_i hq0
      obtain ⟨p, h1, h2⟩ := am_bind_some e
      rw [Nat.eq_of_beq_eq_true hq0]
      exact ⟨some (.int p.1), p.2, am_Met.of rfl (Nat.le_of_ble_eq_true rfl) (s_X_most G _ σ p _ h1 ⟨rfl, rfl⟩), h2⟩
    · cases e
  · cases e
abbrev M_nC_covers : am_MD := (yX2_covers, cX2_covers, 4, (some .boolean), 0, 0)
theorem dX2_covers_0 : decode cX2_covers 0 = .ok (.iload_n 3, 1) := by decide +kernel
theorem dX2_covers_1 : decode cX2_covers 1 = .ok (.iload_n 2, 1) := by decide +kernel
theorem dX2_covers_2 : decode cX2_covers 2 = .ok (.if_icmp .ne 7, 3) := by decide +kernel
theorem dX2_covers_5 : decode cX2_covers 5 = .ok (.iconst 1, 1) := by decide +kernel
theorem dX2_covers_6 : decode cX2_covers 6 = .ok (.goto 4, 3) := by decide +kernel
theorem dX2_covers_9 : decode cX2_covers 9 = .ok (.iconst 0, 1) := by decide +kernel
theorem dX2_covers_10 : decode cX2_covers 10 = .ok (.ireturn, 1) := by decide +kernel
noncomputable def g_nC_covers_12_1 (x2 : Int32) (x3 : Int32) (σ : am_St) : Option (Int32 × am_St) :=
  if x3 = x2 then
    some ((1, σ))
  else
    some ((0, σ))
noncomputable def f_nC_covers_12_1 (x2 : Int32) (x3 : Int32) (σ : am_St) : Option (Int32 × am_St) := am_lk (g_nC_covers_12_1 x2 x3 σ)
theorem eq_nC_covers_12_1 (x2 : Int32) (x3 : Int32) (σ : am_St) : f_nC_covers_12_1 x2 x3 σ = g_nC_covers_12_1 x2 x3 σ := am_lk_eq _
set_option maxRecDepth 100000 in
set_option maxHeartbeats 4000000 in
theorem s_nC_covers_12_1 (G : am_G) (x2 : Int32) (x3 : Int32) (σ : am_St) (r : Int32 × am_St) (Q : am_AQ) (e : f_nC_covers_12_1 x2 x3 σ = some r) (hr : am_Pi r Q) : am_AW G M_nC_covers 0 [(0, .ref 12), (1, .ref 1), (2, .int x2), (3, .int x3)] [] σ Q :=
  (show am_Snd G M_nC_covers 0 am_Pi _ from (sn_iload_n (pc := 0) (i := 3) dX2_covers_0 rfl (sn_iload_n (pc := 1) (i := 2) dX2_covers_1 rfl (sn_icmp_ne (pc := 2) (tgt := 9) dX2_covers_2 rfl (sn_iconst (pc := 9) (v := 0) dX2_covers_9 rfl (sn_retz (pc := 10) (R := fun x τ => (some ((x, τ)))) dX2_covers_10 rfl (fun _ _ _ _ e h => by cases e; exact h))) (sn_iconst (pc := 5) (v := 1) dX2_covers_5 rfl (sn_goto (pc := 6) (tgt := 10) dX2_covers_6 rfl (sn_retz (pc := 10) (R := fun x τ => (some ((x, τ)))) dX2_covers_10 rfl (fun _ _ _ _ e h => by cases e; exact h)))))))) _ _ _ _ _ ((eq_nC_covers_12_1 x2 x3 σ).symm.trans e) hr
noncomputable def cF_nC_covers_12_1 : am_Fn := fun _ args σ K => match args with
  | [.ref q0, .ref q1, .int z2, .int z3] => match Nat.beq q0 12, Nat.beq q1 1 with
    | true, true => (f_nC_covers_12_1 z2 z3 σ).bind (fun p => K (some (.int p.1)) p.2)
    | _, _ => none
  | _ => none
theorem cal_nC_covers_12_1 (G : am_G) : am_Cal G M_nC_covers cF_nC_covers_12_1 := by
  intro ρ args σ K r e
  unfold cF_nC_covers_12_1 at e
  split at e
  · split at e
    · rename_i hq0 hq1
      obtain ⟨p, h1, h2⟩ := am_bind_some e
      rw [Nat.eq_of_beq_eq_true hq0]
      rw [Nat.eq_of_beq_eq_true hq1]
      exact ⟨some (.int p.1), p.2, am_Met.of rfl (Nat.le_of_ble_eq_true rfl) (s_nC_covers_12_1 G _ _ σ p _ h1 ⟨rfl, rfl⟩), h2⟩
    · cases e
  · cases e
abbrev M_H_isDeed : am_MD := (yX3_isDeed, cX3_isDeed, 3, (some .boolean), 0, 0)
theorem dX3_isDeed_0 : decode cX3_isDeed 0 = .ok (.iload_n 1, 1) := by decide +kernel
theorem dX3_isDeed_1 : decode cX3_isDeed 1 = .ok (.aload_n 0, 1) := by decide +kernel
theorem dX3_isDeed_2 : decode cX3_isDeed 2 = .ok (.getfield 71, 3) := by decide +kernel
theorem dX3_isDeed_5 : decode cX3_isDeed 5 = .ok (.if_icmp .ne 15, 3) := by decide +kernel
theorem dX3_isDeed_8 : decode cX3_isDeed 8 = .ok (.iload_n 2, 1) := by decide +kernel
theorem dX3_isDeed_9 : decode cX3_isDeed 9 = .ok (.aload_n 0, 1) := by decide +kernel
theorem dX3_isDeed_10 : decode cX3_isDeed 10 = .ok (.getfield 74, 3) := by decide +kernel
theorem dX3_isDeed_13 : decode cX3_isDeed 13 = .ok (.if_icmp .ne 7, 3) := by decide +kernel
theorem dX3_isDeed_16 : decode cX3_isDeed 16 = .ok (.iconst 1, 1) := by decide +kernel
theorem dX3_isDeed_17 : decode cX3_isDeed 17 = .ok (.goto 4, 3) := by decide +kernel
theorem dX3_isDeed_20 : decode cX3_isDeed 20 = .ok (.iconst 0, 1) := by decide +kernel
theorem dX3_isDeed_21 : decode cX3_isDeed 21 = .ok (.ireturn, 1) := by decide +kernel
noncomputable def g_H_isDeed_1 (x1 : Int32) (x2 : Int32) (σ : am_St) : Option (Int32 × am_St) :=
  if x1 = (σ.1 1 3) then
    if x2 = (σ.1 1 4) then
      some ((1, σ))
    else
      some ((0, σ))
  else
    some ((0, σ))
noncomputable def f_H_isDeed_1 (x1 : Int32) (x2 : Int32) (σ : am_St) : Option (Int32 × am_St) := am_lk (g_H_isDeed_1 x1 x2 σ)
theorem eq_H_isDeed_1 (x1 : Int32) (x2 : Int32) (σ : am_St) : f_H_isDeed_1 x1 x2 σ = g_H_isDeed_1 x1 x2 σ := am_lk_eq _
set_option maxRecDepth 100000 in
set_option maxHeartbeats 4000000 in
theorem s_H_isDeed_1 (G : am_G) (x1 : Int32) (x2 : Int32) (σ : am_St) (r : Int32 × am_St) (Q : am_AQ) (e : f_H_isDeed_1 x1 x2 σ = some r) (hr : am_Pi r Q) : am_AW G M_H_isDeed 0 [(0, .ref 1), (1, .int x1), (2, .int x2)] [] σ Q :=
  (show am_Snd G M_H_isDeed 0 am_Pi _ from (sn_iload_n (pc := 0) (i := 1) dX3_isDeed_0 rfl (sn_aload_n (pc := 1) (i := 0) dX3_isDeed_1 rfl (sn_gI (pc := 2) (h := 1) (f := 3) dX3_isDeed_2 am_CL_3 sh_1 rfl (Nat.le_of_ble_eq_true rfl) tw_88 (sn_icmp_ne (pc := 5) (tgt := 20) dX3_isDeed_5 rfl (sn_iconst (pc := 20) (v := 0) dX3_isDeed_20 rfl (sn_retz (pc := 21) (R := fun x τ => (some ((x, τ)))) dX3_isDeed_21 rfl (fun _ _ _ _ e h => by cases e; exact h))) (sn_iload_n (pc := 8) (i := 2) dX3_isDeed_8 rfl (sn_aload_n (pc := 9) (i := 0) dX3_isDeed_9 rfl (sn_gI (pc := 10) (h := 1) (f := 4) dX3_isDeed_10 am_CL_3 sh_1 rfl (Nat.le_of_ble_eq_true rfl) tw_94 (sn_icmp_ne (pc := 13) (tgt := 20) dX3_isDeed_13 rfl (sn_iconst (pc := 20) (v := 0) dX3_isDeed_20 rfl (sn_retz (pc := 21) (R := fun x τ => (some ((x, τ)))) dX3_isDeed_21 rfl (fun _ _ _ _ e h => by cases e; exact h))) (sn_iconst (pc := 16) (v := 1) dX3_isDeed_16 rfl (sn_goto (pc := 17) (tgt := 21) dX3_isDeed_17 rfl (sn_retz (pc := 21) (R := fun x τ => (some ((x, τ)))) dX3_isDeed_21 rfl (fun _ _ _ _ e h => by cases e; exact h))))))))))))) _ _ _ _ _ ((eq_H_isDeed_1 x1 x2 σ).symm.trans e) hr
noncomputable def cF_H_isDeed_1 : am_Fn := fun _ args σ K => match args with
  | [.ref q0, .int z1, .int z2] => match Nat.beq q0 1 with
    | true => (f_H_isDeed_1 z1 z2 σ).bind (fun p => K (some (.int p.1)) p.2)
    | _ => none
  | _ => none
theorem cal_H_isDeed_1 (G : am_G) : am_Cal G M_H_isDeed cF_H_isDeed_1 := by
  intro ρ args σ K r e
  unfold cF_H_isDeed_1 at e
  split at e
  · split at e
    · rename_i hq0
      obtain ⟨p, h1, h2⟩ := am_bind_some e
      rw [Nat.eq_of_beq_eq_true hq0]
      exact ⟨some (.int p.1), p.2, am_Met.of rfl (Nat.le_of_ble_eq_true rfl) (s_H_isDeed_1 G _ _ σ p _ h1 ⟨rfl, rfl⟩), h2⟩
    · cases e
  · cases e
abbrev M_H_roomBehind : am_MD := (yX3_roomBehind, cX3_roomBehind, 2, (some .int), 0, 0)
theorem dX3_roomBehind_0 : decode cX3_roomBehind 0 = .ok (.iload_n 1, 1) := by decide +kernel
theorem dX3_roomBehind_1 : decode cX3_roomBehind 1 = .ok (.iconst 1, 1) := by decide +kernel
theorem dX3_roomBehind_2 : decode cX3_roomBehind 2 = .ok (.iadd, 1) := by decide +kernel
theorem dX3_roomBehind_3 : decode cX3_roomBehind 3 = .ok (.aload_n 0, 1) := by decide +kernel
theorem dX3_roomBehind_4 : decode cX3_roomBehind 4 = .ok (.getfield 9, 3) := by decide +kernel
theorem dX3_roomBehind_7 : decode cX3_roomBehind 7 = .ok (.if_icmp .ge 9, 3) := by decide +kernel
theorem dX3_roomBehind_10 : decode cX3_roomBehind 10 = .ok (.iload_n 1, 1) := by decide +kernel
theorem dX3_roomBehind_11 : decode cX3_roomBehind 11 = .ok (.iconst 1, 1) := by decide +kernel
theorem dX3_roomBehind_12 : decode cX3_roomBehind 12 = .ok (.iadd, 1) := by decide +kernel
theorem dX3_roomBehind_13 : decode cX3_roomBehind 13 = .ok (.goto 4, 3) := by decide +kernel
theorem dX3_roomBehind_16 : decode cX3_roomBehind 16 = .ok (.iconst 0, 1) := by decide +kernel
theorem dX3_roomBehind_17 : decode cX3_roomBehind 17 = .ok (.ireturn, 1) := by decide +kernel
noncomputable def g_H_roomBehind_1 (x1 : Int32) (σ : am_St) : Option (Int32 × am_St) :=
  if (σ.1 1 0) ≤ (x1 + 1) then
    some ((0, σ))
  else
    some ((x1 + 1, σ))
noncomputable def f_H_roomBehind_1 (x1 : Int32) (σ : am_St) : Option (Int32 × am_St) := am_lk (g_H_roomBehind_1 x1 σ)
theorem eq_H_roomBehind_1 (x1 : Int32) (σ : am_St) : f_H_roomBehind_1 x1 σ = g_H_roomBehind_1 x1 σ := am_lk_eq _
set_option maxRecDepth 100000 in
set_option maxHeartbeats 4000000 in
theorem s_H_roomBehind_1 (G : am_G) (x1 : Int32) (σ : am_St) (r : Int32 × am_St) (Q : am_AQ) (e : f_H_roomBehind_1 x1 σ = some r) (hr : am_Pi r Q) : am_AW G M_H_roomBehind 0 [(0, .ref 1), (1, .int x1)] [] σ Q :=
  (show am_Snd G M_H_roomBehind 0 am_Pi _ from (sn_iload_n (pc := 0) (i := 1) dX3_roomBehind_0 rfl (sn_iconst (pc := 1) (v := 1) dX3_roomBehind_1 rfl (sn_iadd (pc := 2) dX3_roomBehind_2 (sn_aload_n (pc := 3) (i := 0) dX3_roomBehind_3 rfl (sn_gI (pc := 4) (h := 1) (f := 0) dX3_roomBehind_4 am_CL_3 sh_1 rfl (Nat.le_of_ble_eq_true rfl) tw_75 (sn_icmp_ge (pc := 7) (tgt := 16) dX3_roomBehind_7 rfl (sn_iconst (pc := 16) (v := 0) dX3_roomBehind_16 rfl (sn_reti (pc := 17) (R := fun x τ => (some ((x, τ)))) dX3_roomBehind_17 rfl (fun _ _ _ _ e h => by cases e; exact h))) (sn_iload_n (pc := 10) (i := 1) dX3_roomBehind_10 rfl (sn_iconst (pc := 11) (v := 1) dX3_roomBehind_11 rfl (sn_iadd (pc := 12) dX3_roomBehind_12 (sn_goto (pc := 13) (tgt := 17) dX3_roomBehind_13 rfl (sn_reti (pc := 17) (R := fun x τ => (some ((x, τ)))) dX3_roomBehind_17 rfl (fun _ _ _ _ e h => by cases e; exact h))))))))))))) _ _ _ _ _ ((eq_H_roomBehind_1 x1 σ).symm.trans e) hr
noncomputable def cF_H_roomBehind_1 : am_Fn := fun _ args σ K => match args with
  | [.ref q0, .int z1] => match Nat.beq q0 1 with
    | true => (f_H_roomBehind_1 z1 σ).bind (fun p => K (some (.int p.1)) p.2)
    | _ => none
  | _ => none
theorem cal_H_roomBehind_1 (G : am_G) : am_Cal G M_H_roomBehind cF_H_roomBehind_1 := by
  intro ρ args σ K r e
  unfold cF_H_roomBehind_1 at e
  split at e
  · split at e
    · rename_i hq0
      obtain ⟨p, h1, h2⟩ := am_bind_some e
      rw [Nat.eq_of_beq_eq_true hq0]
      exact ⟨some (.int p.1), p.2, am_Met.of rfl (Nat.le_of_ble_eq_true rfl) (s_H_roomBehind_1 G _ σ p _ h1 ⟨rfl, rfl⟩), h2⟩
    · cases e
  · cases e
abbrev M_nC_tells : am_MD := (yX2_tells, cX2_tells, 6, (some .int), 2, 44)
theorem dX2_tells_0 : decode cX2_tells 0 = .ok (.aload_n 1, 1) := by decide +kernel
theorem dX2_tells_1 : decode cX2_tells 1 = .ok (.iload_n 3, 1) := by decide +kernel
theorem dX2_tells_2 : decode cX2_tells 2 = .ok (.iload 4, 2) := by decide +kernel
theorem dX2_tells_4 : decode cX2_tells 4 = .ok (.invokevirtual 7, 3) := by decide +kernel
theorem dX2_tells_7 : decode cX2_tells 7 = .ok (.istore 5, 2) := by decide +kernel
theorem dX2_tells_9 : decode cX2_tells 9 = .ok (.aload_n 0, 1) := by decide +kernel
theorem dX2_tells_10 : decode cX2_tells 10 = .ok (.aload_n 1, 1) := by decide +kernel
theorem dX2_tells_11 : decode cX2_tells 11 = .ok (.iload_n 2, 1) := by decide +kernel
theorem dX2_tells_12 : decode cX2_tells 12 = .ok (.iload_n 3, 1) := by decide +kernel
theorem dX2_tells_13 : decode cX2_tells 13 = .ok (.invokevirtual 13, 3) := by decide +kernel
theorem dX2_tells_16 : decode cX2_tells 16 = .ok (.ifCond .eq 21, 3) := by decide +kernel
theorem dX2_tells_19 : decode cX2_tells 19 = .ok (.aload_n 1, 1) := by decide +kernel
theorem dX2_tells_20 : decode cX2_tells 20 = .ok (.iload 5, 2) := by decide +kernel
theorem dX2_tells_22 : decode cX2_tells 22 = .ok (.iload 4, 2) := by decide +kernel
theorem dX2_tells_24 : decode cX2_tells 24 = .ok (.invokevirtual 19, 3) := by decide +kernel
theorem dX2_tells_27 : decode cX2_tells 27 = .ok (.ifCond .eq 10, 3) := by decide +kernel
theorem dX2_tells_30 : decode cX2_tells 30 = .ok (.aload_n 1, 1) := by decide +kernel
theorem dX2_tells_31 : decode cX2_tells 31 = .ok (.iload 5, 2) := by decide +kernel
theorem dX2_tells_33 : decode cX2_tells 33 = .ok (.invokevirtual 23, 3) := by decide +kernel
theorem dX2_tells_36 : decode cX2_tells 36 = .ok (.ireturn, 1) := by decide +kernel
theorem dX2_tells_37 : decode cX2_tells 37 = .ok (.iload 5, 2) := by decide +kernel
theorem dX2_tells_39 : decode cX2_tells 39 = .ok (.ireturn, 1) := by decide +kernel
noncomputable def g_nC_tells_12_1_30 (x5 : Int32) (σ : am_St) : Option (Int32 × am_St) :=
  (f_H_roomBehind_1 x5 σ).bind (fun p1 =>
    some ((p1.1, p1.2)))
noncomputable def f_nC_tells_12_1_30 (x5 : Int32) (σ : am_St) : Option (Int32 × am_St) := am_lk (g_nC_tells_12_1_30 x5 σ)
theorem eq_nC_tells_12_1_30 (x5 : Int32) (σ : am_St) : f_nC_tells_12_1_30 x5 σ = g_nC_tells_12_1_30 x5 σ := am_lk_eq _
set_option maxRecDepth 100000 in
set_option maxHeartbeats 4000000 in
theorem s_nC_tells_12_1_30 (G : am_G) (x5 : Int32) (σ : am_St) (r : Int32 × am_St) (Q : am_AQ) (e : f_nC_tells_12_1_30 x5 σ = some r) (hr : am_Pi r Q) : am_AW G M_nC_tells 30 [(5, .int x5), (1, .ref 1)] [] σ Q :=
  (show am_Snd G M_nC_tells 30 am_Pi _ from (sn_aload_n (pc := 30) (i := 1) dX2_tells_30 rfl (sn_iload (pc := 31) dX2_tells_31 (sn_callV (pc := 33) (N := M_H_roomBehind) dX2_tells_33 (cal_H_roomBehind_1 G) sh_1 rfl tw_768 tw_769 tw_770 tw_2 tw_771 dsc_X3_roomBehind rfl (sn_reti (pc := 36) (R := fun x τ => (some ((x, τ)))) dX2_tells_36 rfl (fun _ _ _ _ e h => by cases e; exact h)))))) _ _ _ _ _ ((eq_nC_tells_12_1_30 x5 σ).symm.trans e) hr
noncomputable def g_nC_tells_12_1 (x2 : Int32) (x3 : Int32) (x4 : Int32) (σ : am_St) : Option (Int32 × am_St) :=
  (f_H_placeOf_1 x3 x4 σ).bind (fun p1 =>
    (f_nC_covers_12_1 x2 x3 p1.2).bind (fun p2 =>
      if p2.1 = 0 then
        some ((p1.1, p2.2))
      else
        (f_H_isDeed_1 p1.1 x4 p2.2).bind (fun p3 =>
          if p3.1 = 0 then
            some ((p1.1, p3.2))
          else
            f_nC_tells_12_1_30 p1.1 p3.2)))
noncomputable def f_nC_tells_12_1 (x2 : Int32) (x3 : Int32) (x4 : Int32) (σ : am_St) : Option (Int32 × am_St) := am_lk (g_nC_tells_12_1 x2 x3 x4 σ)
theorem eq_nC_tells_12_1 (x2 : Int32) (x3 : Int32) (x4 : Int32) (σ : am_St) : f_nC_tells_12_1 x2 x3 x4 σ = g_nC_tells_12_1 x2 x3 x4 σ := am_lk_eq _
set_option maxRecDepth 100000 in
set_option maxHeartbeats 4000000 in
theorem s_nC_tells_12_1 (G : am_G) (x2 : Int32) (x3 : Int32) (x4 : Int32) (σ : am_St) (r : Int32 × am_St) (Q : am_AQ) (e : f_nC_tells_12_1 x2 x3 x4 σ = some r) (hr : am_Pi r Q) : am_AW G M_nC_tells 0 [(0, .ref 12), (1, .ref 1), (2, .int x2), (3, .int x3), (4, .int x4)] [] σ Q :=
  (show am_Snd G M_nC_tells 0 am_Pi _ from (sn_aload_n (pc := 0) (i := 1) dX2_tells_0 rfl (sn_iload_n (pc := 1) (i := 3) dX2_tells_1 rfl (sn_iload (pc := 2) dX2_tells_2 (sn_callV (pc := 4) (N := M_H_placeOf) dX2_tells_4 (cal_H_placeOf_1 G) sh_1 rfl tw_749 tw_522 tw_523 tw_2 tw_524 dsc_X3_placeOf rfl (sn_istore (pc := 7) dX2_tells_7 (Nat.le_of_ble_eq_true rfl) (sn_aload_n (pc := 9) (i := 0) dX2_tells_9 rfl (sn_aload_n (pc := 10) (i := 1) dX2_tells_10 rfl (sn_iload_n (pc := 11) (i := 2) dX2_tells_11 rfl (sn_iload_n (pc := 12) (i := 3) dX2_tells_12 rfl (sn_callV (pc := 13) (N := M_nC_covers) dX2_tells_13 (cal_nC_covers_12_1 G) sh_12 rfl tw_750 tw_751 tw_752 tw_3 tw_763 dsc_X2_covers rfl (sn_if_eq (pc := 16) (tgt := 37) dX2_tells_16 rfl (sn_iload (pc := 37) dX2_tells_37 (sn_reti (pc := 39) (R := fun x τ => (some ((x, τ)))) dX2_tells_39 rfl (fun _ _ _ _ e h => by cases e; exact h))) (sn_aload_n (pc := 19) (i := 1) dX2_tells_19 rfl (sn_iload (pc := 20) dX2_tells_20 (sn_iload (pc := 22) dX2_tells_22 (sn_callV (pc := 24) (N := M_H_isDeed) dX2_tells_24 (cal_H_isDeed_1 G) sh_1 rfl tw_764 tw_765 tw_766 tw_2 tw_767 dsc_X3_isDeed rfl (sn_if_eq (pc := 27) (tgt := 37) dX2_tells_27 rfl (sn_iload (pc := 37) dX2_tells_37 (sn_reti (pc := 39) (R := fun x τ => (some ((x, τ)))) dX2_tells_39 rfl (fun _ _ _ _ e h => by cases e; exact h))) (sn_lf (pc := 30) (ln_a (i := 1) (q := 1) (ln_i (i := 5) (fun z0 => (ln_end (o := fun τ => f_nC_tells_12_1_30 z0 τ) (fun _ _ _ e h => s_nC_tells_12_1_30 G z0 _ _ _ e h))))))))))))))))))))))) _ _ _ _ _ ((eq_nC_tells_12_1 x2 x3 x4 σ).symm.trans e) hr
noncomputable def cF_nC_tells_12_1 : am_Fn := fun _ args σ K => match args with
  | [.ref q0, .ref q1, .int z2, .int z3, .int z4] => match Nat.beq q0 12, Nat.beq q1 1 with
    | true, true => (f_nC_tells_12_1 z2 z3 z4 σ).bind (fun p => K (some (.int p.1)) p.2)
    | _, _ => none
  | _ => none
theorem cal_nC_tells_12_1 (G : am_G) : am_Cal G M_nC_tells cF_nC_tells_12_1 := by
  intro ρ args σ K r e
  unfold cF_nC_tells_12_1 at e
  split at e
  · split at e
    · rename_i hq0 hq1
      obtain ⟨p, h1, h2⟩ := am_bind_some e
      rw [Nat.eq_of_beq_eq_true hq0]
      rw [Nat.eq_of_beq_eq_true hq1]
      exact ⟨some (.int p.1), p.2, am_Met.of rfl (Nat.le_of_ble_eq_true rfl) (s_nC_tells_12_1 G _ _ _ σ p _ h1 ⟨rfl, rfl⟩), h2⟩
    · cases e
  · cases e
