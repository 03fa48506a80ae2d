abbrev M_H_turnDoor : am_MD := (yX3_turnDoor, cX3_turnDoor, 3, none, 1, 21)
theorem dX3_turnDoor_0 : decode cX3_turnDoor 0 = .ok (.aload_n 0, 1) := by decide +kernel
theorem dX3_turnDoor_1 : decode cX3_turnDoor 1 = .ok (.iload_n 1, 1) := by decide +kernel
theorem dX3_turnDoor_2 : decode cX3_turnDoor 2 = .ok (.invokevirtual 93, 3) := by decide +kernel
theorem dX3_turnDoor_5 : decode cX3_turnDoor 5 = .ok (.ifCond .eq 40, 3) := by decide +kernel
theorem dX3_turnDoor_8 : decode cX3_turnDoor 8 = .ok (.aload_n 0, 1) := by decide +kernel
theorem dX3_turnDoor_9 : decode cX3_turnDoor 9 = .ok (.iload_n 2, 1) := by decide +kernel
theorem dX3_turnDoor_10 : decode cX3_turnDoor 10 = .ok (.invokevirtual 93, 3) := by decide +kernel
theorem dX3_turnDoor_13 : decode cX3_turnDoor 13 = .ok (.ifCond .eq 32, 3) := by decide +kernel
theorem dX3_turnDoor_16 : decode cX3_turnDoor 16 = .ok (.iload_n 1, 1) := by decide +kernel
theorem dX3_turnDoor_17 : decode cX3_turnDoor 17 = .ok (.iload_n 2, 1) := by decide +kernel
theorem dX3_turnDoor_18 : decode cX3_turnDoor 18 = .ok (.if_icmp .eq 27, 3) := by decide +kernel
theorem dX3_turnDoor_21 : decode cX3_turnDoor 21 = .ok (.aload_n 0, 1) := by decide +kernel
theorem dX3_turnDoor_22 : decode cX3_turnDoor 22 = .ok (.getfield 18, 3) := by decide +kernel
theorem dX3_turnDoor_25 : decode cX3_turnDoor 25 = .ok (.iload_n 1, 1) := by decide +kernel
theorem dX3_turnDoor_26 : decode cX3_turnDoor 26 = .ok (.dup2, 1) := by decide +kernel
theorem dX3_turnDoor_27 : decode cX3_turnDoor 27 = .ok (.iaload, 1) := by decide +kernel
theorem dX3_turnDoor_28 : decode cX3_turnDoor 28 = .ok (.iconst 1, 1) := by decide +kernel
theorem dX3_turnDoor_29 : decode cX3_turnDoor 29 = .ok (.iload_n 2, 1) := by decide +kernel
theorem dX3_turnDoor_30 : decode cX3_turnDoor 30 = .ok (.ishl, 1) := by decide +kernel
theorem dX3_turnDoor_31 : decode cX3_turnDoor 31 = .ok (.ixor, 1) := by decide +kernel
theorem dX3_turnDoor_32 : decode cX3_turnDoor 32 = .ok (.iastore, 1) := by decide +kernel
theorem dX3_turnDoor_33 : decode cX3_turnDoor 33 = .ok (.aload_n 0, 1) := by decide +kernel
theorem dX3_turnDoor_34 : decode cX3_turnDoor 34 = .ok (.getfield 18, 3) := by decide +kernel
theorem dX3_turnDoor_37 : decode cX3_turnDoor 37 = .ok (.iload_n 2, 1) := by decide +kernel
theorem dX3_turnDoor_38 : decode cX3_turnDoor 38 = .ok (.dup2, 1) := by decide +kernel
theorem dX3_turnDoor_39 : decode cX3_turnDoor 39 = .ok (.iaload, 1) := by decide +kernel
theorem dX3_turnDoor_40 : decode cX3_turnDoor 40 = .ok (.iconst 1, 1) := by decide +kernel
theorem dX3_turnDoor_41 : decode cX3_turnDoor 41 = .ok (.iload_n 1, 1) := by decide +kernel
theorem dX3_turnDoor_42 : decode cX3_turnDoor 42 = .ok (.ishl, 1) := by decide +kernel
theorem dX3_turnDoor_43 : decode cX3_turnDoor 43 = .ok (.ixor, 1) := by decide +kernel
theorem dX3_turnDoor_44 : decode cX3_turnDoor 44 = .ok (.iastore, 1) := by decide +kernel
theorem dX3_turnDoor_45 : decode cX3_turnDoor 45 = .ok (.return_, 1) := by decide +kernel
noncomputable def g_H_turnDoor_37_33 (x1 : Int32) (x2 : Int32) (σ : am_St) : Option (am_St) :=
  if am_ix x2 4 = true then
    if am_ix x2 4 = true then
      let s1 := am_sI σ 38 x2.toNatClampNeg ((σ.1 38 x2.toNatClampNeg) ^^^ (1 <<< (x1 &&& 31)))
      some (s1)
    else none
  else none
noncomputable def f_H_turnDoor_37_33 (x1 : Int32) (x2 : Int32) (σ : am_St) : Option (am_St) := am_lk (g_H_turnDoor_37_33 x1 x2 σ)
theorem eq_H_turnDoor_37_33 (x1 : Int32) (x2 : Int32) (σ : am_St) : f_H_turnDoor_37_33 x1 x2 σ = g_H_turnDoor_37_33 x1 x2 σ := am_lk_eq _
set_option maxRecDepth 100000 in
set_option maxHeartbeats 4000000 in
theorem s_H_turnDoor_37_33 (G : am_G) (x1 : Int32) (x2 : Int32) (σ : am_St) (r : am_St) (Q : am_AQ) (e : f_H_turnDoor_37_33 x1 x2 σ = some r) (hr : am_Pv r Q) : am_AW G M_H_turnDoor 33 [(2, .int x2), (1, .int x1), (0, .ref 37)] [] σ Q :=
  (show am_Snd G M_H_turnDoor 33 am_Pv _ from (sn_aload_n (pc := 33) (i := 0) dX3_turnDoor_33 rfl (sn_gR (r0 := 38) (pc := 34) (h := 37) (f := 7) dX3_turnDoor_34 am_CL_3 sh_37 rfl (Nat.le_of_ble_eq_true rfl) tw_107 (sn_iload_n (pc := 37) (i := 2) dX3_turnDoor_37 rfl (sn_dup2 (pc := 38) dX3_turnDoor_38 (sn_aI (pc := 39) (h := 38) dX3_turnDoor_39 sh_38 (sn_iconst (pc := 40) (v := 1) dX3_turnDoor_40 rfl (sn_iload_n (pc := 41) (i := 1) dX3_turnDoor_41 rfl (sn_ishl (pc := 42) dX3_turnDoor_42 (sn_ixor (pc := 43) dX3_turnDoor_43 (sn_sI (pc := 44) (h := 38) dX3_turnDoor_44 sh_38 (sn_retv (pc := 45) (R := fun τ => (some (τ))) dX3_turnDoor_45 rfl (fun _ _ _ e h => by cases e; exact h))))))))))))) _ _ _ _ _ ((eq_H_turnDoor_37_33 x1 x2 σ).symm.trans e) hr
noncomputable def g_H_turnDoor_37 (x1 : Int32) (x2 : Int32) (σ : am_St) : Option (am_St) :=
  (f_H_hasRoom_37 x1 σ).bind (fun p1 =>
    if p1.1 = 0 then
      some (p1.2)
    else
      (f_H_hasRoom_37 x2 p1.2).bind (fun p2 =>
        if p2.1 = 0 then
          some (p2.2)
        else
          if x1 = x2 then
            some (p2.2)
          else
            if am_ix x1 4 = true then
              if am_ix x1 4 = true then
                let s3 := am_sI p2.2 38 x1.toNatClampNeg ((p2.2.1 38 x1.toNatClampNeg) ^^^ (1 <<< (x2 &&& 31)))
                f_H_turnDoor_37_33 x1 x2 s3
              else none
            else none))
noncomputable def f_H_turnDoor_37 (x1 : Int32) (x2 : Int32) (σ : am_St) : Option (am_St) := am_lk (g_H_turnDoor_37 x1 x2 σ)
theorem eq_H_turnDoor_37 (x1 : Int32) (x2 : Int32) (σ : am_St) : f_H_turnDoor_37 x1 x2 σ = g_H_turnDoor_37 x1 x2 σ := am_lk_eq _
set_option maxRecDepth 100000 in
set_option maxHeartbeats 4000000 in
theorem s_H_turnDoor_37 (G : am_G) (x1 : Int32) (x2 : Int32) (σ : am_St) (r : am_St) (Q : am_AQ) (e : f_H_turnDoor_37 x1 x2 σ = some r) (hr : am_Pv r Q) : am_AW G M_H_turnDoor 0 [(0, .ref 37), (1, .int x1), (2, .int x2)] [] σ Q :=
  (show am_Snd G M_H_turnDoor 0 am_Pv _ from (sn_aload_n (pc := 0) (i := 0) dX3_turnDoor_0 rfl (sn_iload_n (pc := 1) (i := 1) dX3_turnDoor_1 rfl (sn_callV (pc := 2) (N := M_H_hasRoom) dX3_turnDoor_2 (cal_H_hasRoom_37 G) sh_37 rfl tw_331 tw_324 tw_325 tw_2 tw_326 dsc_X3_hasRoom rfl (sn_if_eq (pc := 5) (tgt := 45) dX3_turnDoor_5 rfl (sn_retv (pc := 45) (R := fun τ => (some (τ))) dX3_turnDoor_45 rfl (fun _ _ _ e h => by cases e; exact h)) (sn_aload_n (pc := 8) (i := 0) dX3_turnDoor_8 rfl (sn_iload_n (pc := 9) (i := 2) dX3_turnDoor_9 rfl (sn_callV (pc := 10) (N := M_H_hasRoom) dX3_turnDoor_10 (cal_H_hasRoom_37 G) sh_37 rfl tw_331 tw_324 tw_325 tw_2 tw_326 dsc_X3_hasRoom rfl (sn_if_eq (pc := 13) (tgt := 45) dX3_turnDoor_13 rfl (sn_retv (pc := 45) (R := fun τ => (some (τ))) dX3_turnDoor_45 rfl (fun _ _ _ e h => by cases e; exact h)) (sn_iload_n (pc := 16) (i := 1) dX3_turnDoor_16 rfl (sn_iload_n (pc := 17) (i := 2) dX3_turnDoor_17 rfl (sn_icmp_eq (pc := 18) (tgt := 45) dX3_turnDoor_18 rfl (sn_retv (pc := 45) (R := fun τ => (some (τ))) dX3_turnDoor_45 rfl (fun _ _ _ e h => by cases e; exact h)) (sn_aload_n (pc := 21) (i := 0) dX3_turnDoor_21 rfl (sn_gR (r0 := 38) (pc := 22) (h := 37) (f := 7) dX3_turnDoor_22 am_CL_3 sh_37 rfl (Nat.le_of_ble_eq_true rfl) tw_107 (sn_iload_n (pc := 25) (i := 1) dX3_turnDoor_25 rfl (sn_dup2 (pc := 26) dX3_turnDoor_26 (sn_aI (pc := 27) (h := 38) dX3_turnDoor_27 sh_38 (sn_iconst (pc := 28) (v := 1) dX3_turnDoor_28 rfl (sn_iload_n (pc := 29) (i := 2) dX3_turnDoor_29 rfl (sn_ishl (pc := 30) dX3_turnDoor_30 (sn_ixor (pc := 31) dX3_turnDoor_31 (sn_sI (pc := 32) (h := 38) dX3_turnDoor_32 sh_38 (sn_lf (pc := 33) (ln_a (i := 0) (q := 37) (ln_i (i := 1) (fun z0 => (ln_i (i := 2) (fun z1 => (ln_end (o := fun τ => f_H_turnDoor_37_33 z0 z1 τ) (fun _ _ _ e h => s_H_turnDoor_37_33 G z0 z1 _ _ _ e h)))))))))))))))))))))))))))))) _ _ _ _ _ ((eq_H_turnDoor_37 x1 x2 σ).symm.trans e) hr
noncomputable def cF_H_turnDoor_37 : am_Fn := fun _ args σ K => match args with
  | [.ref q0, .int z1, .int z2] => match Nat.beq q0 37 with
    | true => (f_H_turnDoor_37 z1 z2 σ).bind (fun p => K none p)
    | _ => none
  | _ => none
theorem cal_H_turnDoor_37 (G : am_G) : am_Cal G M_H_turnDoor cF_H_turnDoor_37 := by
  intro ρ args σ K r e
  unfold cF_H_turnDoor_37 at e
  split at e
  · split at e
    · rename_i hq0
      obtain ⟨p, h1, h2⟩ := am_bind_some e
      rw [Nat.eq_of_beq_eq_true hq0]
      exact ⟨none, p, am_Met.of rfl (Nat.le_of_ble_eq_true rfl) (s_H_turnDoor_37 G _ _ σ p _ h1 ⟨rfl, rfl⟩), h2⟩
    · cases e
  · cases e
abbrev M_H_stepsOf : am_MD := (yX3_stepsOf, cX3_stepsOf, 2, (some .int), 0, 0)
theorem dX3_stepsOf_0 : decode cX3_stepsOf 0 = .ok (.iload_n 1, 1) := by decide +kernel
theorem dX3_stepsOf_1 : decode cX3_stepsOf 1 = .ok (.ifCond .lt 25, 3) := by decide +kernel
theorem dX3_stepsOf_4 : decode cX3_stepsOf 4 = .ok (.iload_n 1, 1) := by decide +kernel
theorem dX3_stepsOf_5 : decode cX3_stepsOf 5 = .ok (.aload_n 0, 1) := by decide +kernel
theorem dX3_stepsOf_6 : decode cX3_stepsOf 6 = .ok (.getfield 18, 3) := by decide +kernel
theorem dX3_stepsOf_9 : decode cX3_stepsOf 9 = .ok (.arraylength, 1) := by decide +kernel
theorem dX3_stepsOf_10 : decode cX3_stepsOf 10 = .ok (.if_icmp .ge 16, 3) := by decide +kernel
theorem dX3_stepsOf_13 : decode cX3_stepsOf 13 = .ok (.aload_n 0, 1) := by decide +kernel
theorem dX3_stepsOf_14 : decode cX3_stepsOf 14 = .ok (.getfield 18, 3) := by decide +kernel
theorem dX3_stepsOf_17 : decode cX3_stepsOf 17 = .ok (.iload_n 1, 1) := by decide +kernel
theorem dX3_stepsOf_18 : decode cX3_stepsOf 18 = .ok (.iaload, 1) := by decide +kernel
theorem dX3_stepsOf_19 : decode cX3_stepsOf 19 = .ok (.iconst 1, 1) := by decide +kernel
theorem dX3_stepsOf_20 : decode cX3_stepsOf 20 = .ok (.iload_n 1, 1) := by decide +kernel
theorem dX3_stepsOf_21 : decode cX3_stepsOf 21 = .ok (.ishl, 1) := by decide +kernel
theorem dX3_stepsOf_22 : decode cX3_stepsOf 22 = .ok (.ior, 1) := by decide +kernel
theorem dX3_stepsOf_23 : decode cX3_stepsOf 23 = .ok (.goto 4, 3) := by decide +kernel
theorem dX3_stepsOf_26 : decode cX3_stepsOf 26 = .ok (.iconst 0, 1) := by decide +kernel
theorem dX3_stepsOf_27 : decode cX3_stepsOf 27 = .ok (.ireturn, 1) := by decide +kernel
noncomputable def g_H_stepsOf_37 (x1 : Int32) (σ : am_St) : Option (Int32 × am_St) :=
  if x1 < 0 then
    some ((0, σ))
  else
    if 4 ≤ x1 then
      some ((0, σ))
    else
      if am_ix x1 4 = true then
        some (((σ.1 38 x1.toNatClampNeg) ||| (1 <<< (x1 &&& 31)), σ))
      else none
noncomputable def f_H_stepsOf_37 (x1 : Int32) (σ : am_St) : Option (Int32 × am_St) := am_lk (g_H_stepsOf_37 x1 σ)
theorem eq_H_stepsOf_37 (x1 : Int32) (σ : am_St) : f_H_stepsOf_37 x1 σ = g_H_stepsOf_37 x1 σ := am_lk_eq _
set_option maxRecDepth 100000 in
set_option maxHeartbeats 4000000 in
theorem s_H_stepsOf_37 (G : am_G) (x1 : Int32) (σ : am_St) (r : Int32 × am_St) (Q : am_AQ) (e : f_H_stepsOf_37 x1 σ = some r) (hr : am_Pi r Q) : am_AW G M_H_stepsOf 0 [(0, .ref 37), (1, .int x1)] [] σ Q :=
  (show am_Snd G M_H_stepsOf 0 am_Pi _ from (sn_iload_n (pc := 0) (i := 1) dX3_stepsOf_0 rfl (sn_if_lt (pc := 1) (tgt := 26) dX3_stepsOf_1 rfl (sn_iconst (pc := 26) (v := 0) dX3_stepsOf_26 rfl (sn_reti (pc := 27) (R := fun x τ => (some ((x, τ)))) dX3_stepsOf_27 rfl (fun _ _ _ _ e h => by cases e; exact h))) (sn_iload_n (pc := 4) (i := 1) dX3_stepsOf_4 rfl (sn_aload_n (pc := 5) (i := 0) dX3_stepsOf_5 rfl (sn_gR (r0 := 38) (pc := 6) (h := 37) (f := 7) dX3_stepsOf_6 am_CL_3 sh_37 rfl (Nat.le_of_ble_eq_true rfl) tw_107 (sn_len (pc := 9) (h := 38) (v := 4) dX3_stepsOf_9 sh_38 rfl (sn_icmp_ge (pc := 10) (tgt := 26) dX3_stepsOf_10 rfl (sn_iconst (pc := 26) (v := 0) dX3_stepsOf_26 rfl (sn_reti (pc := 27) (R := fun x τ => (some ((x, τ)))) dX3_stepsOf_27 rfl (fun _ _ _ _ e h => by cases e; exact h))) (sn_aload_n (pc := 13) (i := 0) dX3_stepsOf_13 rfl (sn_gR (r0 := 38) (pc := 14) (h := 37) (f := 7) dX3_stepsOf_14 am_CL_3 sh_37 rfl (Nat.le_of_ble_eq_true rfl) tw_107 (sn_iload_n (pc := 17) (i := 1) dX3_stepsOf_17 rfl (sn_aI (pc := 18) (h := 38) dX3_stepsOf_18 sh_38 (sn_iconst (pc := 19) (v := 1) dX3_stepsOf_19 rfl (sn_iload_n (pc := 20) (i := 1) dX3_stepsOf_20 rfl (sn_ishl (pc := 21) dX3_stepsOf_21 (sn_ior (pc := 22) dX3_stepsOf_22 (sn_goto (pc := 23) (tgt := 27) dX3_stepsOf_23 rfl (sn_reti (pc := 27) (R := fun x τ => (some ((x, τ)))) dX3_stepsOf_27 rfl (fun _ _ _ _ e h => by cases e; exact h))))))))))))))))))) _ _ _ _ _ ((eq_H_stepsOf_37 x1 σ).symm.trans e) hr
noncomputable def cF_H_stepsOf_37 : am_Fn := fun _ args σ K => match args with
  | [.ref q0, .int z1] => match Nat.beq q0 37 with
    | true => (f_H_stepsOf_37 z1 σ).bind (fun p => K (some (.int p.1)) p.2)
    | _ => none
  | _ => none
theorem cal_H_stepsOf_37 (G : am_G) : am_Cal G M_H_stepsOf cF_H_stepsOf_37 := by
  intro ρ args σ K r e
  unfold cF_H_stepsOf_37 at e
  split at e
  · split at e
    · rename_i hq0
      obtain ⟨p, h1, h2⟩ := am_bind_some e
      rw [Nat.eq_of_beq_eq_true hq0]
      exact ⟨some (.int p.1), p.2, am_Met.of rfl (Nat.le_of_ble_eq_true rfl) (s_H_stepsOf_37 G _ σ p _ h1 ⟨rfl, rfl⟩), h2⟩
    · cases e
  · cases e
abbrev M_H_factAt : am_MD := (yX3_factAt, cX3_factAt, 2, (some .int), 0, 0)
theorem dX3_factAt_0 : decode cX3_factAt 0 = .ok (.iload_n 1, 1) := by decide +kernel
theorem dX3_factAt_1 : decode cX3_factAt 1 = .ok (.ifCond .lt 20, 3) := by decide +kernel
theorem dX3_factAt_4 : decode cX3_factAt 4 = .ok (.iload_n 1, 1) := by decide +kernel
theorem dX3_factAt_5 : decode cX3_factAt 5 = .ok (.aload_n 0, 1) := by decide +kernel
theorem dX3_factAt_6 : decode cX3_factAt 6 = .ok (.getfield 77, 3) := by decide +kernel
theorem dX3_factAt_9 : decode cX3_factAt 9 = .ok (.if_icmp .ge 12, 3) := by decide +kernel
theorem dX3_factAt_12 : decode cX3_factAt 12 = .ok (.aload_n 0, 1) := by decide +kernel
theorem dX3_factAt_13 : decode cX3_factAt 13 = .ok (.getfield 40, 3) := by decide +kernel
theorem dX3_factAt_16 : decode cX3_factAt 16 = .ok (.iload_n 1, 1) := by decide +kernel
theorem dX3_factAt_17 : decode cX3_factAt 17 = .ok (.iaload, 1) := by decide +kernel
theorem dX3_factAt_18 : decode cX3_factAt 18 = .ok (.goto 4, 3) := by decide +kernel
theorem dX3_factAt_21 : decode cX3_factAt 21 = .ok (.iconst 0, 1) := by decide +kernel
theorem dX3_factAt_22 : decode cX3_factAt 22 = .ok (.ireturn, 1) := by decide +kernel
noncomputable def g_H_factAt_37 (x1 : Int32) (σ : am_St) : Option (Int32 × am_St) :=
  if x1 < 0 then
    some ((0, σ))
  else
    if (σ.1 37 5) ≤ x1 then
      some ((0, σ))
    else
      if am_ix x1 16 = true then
        some ((σ.1 45 x1.toNatClampNeg, σ))
      else none
noncomputable def f_H_factAt_37 (x1 : Int32) (σ : am_St) : Option (Int32 × am_St) := am_lk (g_H_factAt_37 x1 σ)
theorem eq_H_factAt_37 (x1 : Int32) (σ : am_St) : f_H_factAt_37 x1 σ = g_H_factAt_37 x1 σ := am_lk_eq _
set_option maxRecDepth 100000 in
set_option maxHeartbeats 4000000 in
theorem s_H_factAt_37 (G : am_G) (x1 : Int32) (σ : am_St) (r : Int32 × am_St) (Q : am_AQ) (e : f_H_factAt_37 x1 σ = some r) (hr : am_Pi r Q) : am_AW G M_H_factAt 0 [(0, .ref 37), (1, .int x1)] [] σ Q :=
  (show am_Snd G M_H_factAt 0 am_Pi _ from (sn_iload_n (pc := 0) (i := 1) dX3_factAt_0 rfl (sn_if_lt (pc := 1) (tgt := 21) dX3_factAt_1 rfl (sn_iconst (pc := 21) (v := 0) dX3_factAt_21 rfl (sn_reti (pc := 22) (R := fun x τ => (some ((x, τ)))) dX3_factAt_22 rfl (fun _ _ _ _ e h => by cases e; exact h))) (sn_iload_n (pc := 4) (i := 1) dX3_factAt_4 rfl (sn_aload_n (pc := 5) (i := 0) dX3_factAt_5 rfl (sn_gI (pc := 6) (h := 37) (f := 5) dX3_factAt_6 am_CL_3 sh_37 rfl (Nat.le_of_ble_eq_true rfl) tw_100 (sn_icmp_ge (pc := 9) (tgt := 21) dX3_factAt_9 rfl (sn_iconst (pc := 21) (v := 0) dX3_factAt_21 rfl (sn_reti (pc := 22) (R := fun x τ => (some ((x, τ)))) dX3_factAt_22 rfl (fun _ _ _ _ e h => by cases e; exact h))) (sn_aload_n (pc := 12) (i := 0) dX3_factAt_12 rfl (sn_gR (r0 := 45) (pc := 13) (h := 37) (f := 14) dX3_factAt_13 am_CL_3 sh_37 rfl (Nat.le_of_ble_eq_true rfl) tw_114 (sn_iload_n (pc := 16) (i := 1) dX3_factAt_16 rfl (sn_aI (pc := 17) (h := 45) dX3_factAt_17 sh_45 (sn_goto (pc := 18) (tgt := 22) dX3_factAt_18 rfl (sn_reti (pc := 22) (R := fun x τ => (some ((x, τ)))) dX3_factAt_22 rfl (fun _ _ _ _ e h => by cases e; exact h)))))))))))))) _ _ _ _ _ ((eq_H_factAt_37 x1 σ).symm.trans e) hr
noncomputable def cF_H_factAt_37 : am_Fn := fun _ args σ K => match args with
  | [.ref q0, .int z1] => match Nat.beq q0 37 with
    | true => (f_H_factAt_37 z1 σ).bind (fun p => K (some (.int p.1)) p.2)
    | _ => none
  | _ => none
theorem cal_H_factAt_37 (G : am_G) : am_Cal G M_H_factAt cF_H_factAt_37 := by
  intro ρ args σ K r e
  unfold cF_H_factAt_37 at e
  split at e
  · split at e
    · rename_i hq0
      obtain ⟨p, h1, h2⟩ := am_bind_some e
      rw [Nat.eq_of_beq_eq_true hq0]
      exact ⟨some (.int p.1), p.2, am_Met.of rfl (Nat.le_of_ble_eq_true rfl) (s_H_factAt_37 G _ σ p _ h1 ⟨rfl, rfl⟩), h2⟩
    · cases e
  · cases e
abbrev M_H_childIn : am_MD := (yX3_childIn, cX3_childIn, 1, (some .int), 0, 0)
theorem dX3_childIn_0 : decode cX3_childIn 0 = .ok (.iload_n 0, 1) := by decide +kernel
theorem dX3_childIn_1 : decode cX3_childIn 1 = .ok (.bipush 9, 2) := by decide +kernel
theorem dX3_childIn_3 : decode cX3_childIn 3 = .ok (.ishr, 1) := by decide +kernel
theorem dX3_childIn_4 : decode cX3_childIn 4 = .ok (.bipush 7, 2) := by decide +kernel
theorem dX3_childIn_6 : decode cX3_childIn 6 = .ok (.iand, 1) := by decide +kernel
theorem dX3_childIn_7 : decode cX3_childIn 7 = .ok (.ireturn, 1) := by decide +kernel
noncomputable def g_H_childIn (x0 : Int32) (σ : am_St) : Option (Int32 × am_St) :=
  some (((x0 >>> (9 &&& 31)) &&& 7, σ))
noncomputable def f_H_childIn (x0 : Int32) (σ : am_St) : Option (Int32 × am_St) := am_lk (g_H_childIn x0 σ)
theorem eq_H_childIn (x0 : Int32) (σ : am_St) : f_H_childIn x0 σ = g_H_childIn x0 σ := am_lk_eq _
set_option maxRecDepth 100000 in
set_option maxHeartbeats 4000000 in
theorem s_H_childIn (G : am_G) (x0 : Int32) (σ : am_St) (r : Int32 × am_St) (Q : am_AQ) (e : f_H_childIn x0 σ = some r) (hr : am_Pi r Q) : am_AW G M_H_childIn 0 [(0, .int x0)] [] σ Q :=
  (show am_Snd G M_H_childIn 0 am_Pi _ from (sn_iload_n (pc := 0) (i := 0) dX3_childIn_0 rfl (sn_bipush (pc := 1) (v := 9) dX3_childIn_1 rfl (sn_ishr (pc := 3) dX3_childIn_3 (sn_bipush (pc := 4) (v := 7) dX3_childIn_4 rfl (sn_iand (pc := 6) dX3_childIn_6 (sn_reti (pc := 7) (R := fun x τ => (some ((x, τ)))) dX3_childIn_7 rfl (fun _ _ _ _ e h => by cases e; exact h)))))))) _ _ _ _ _ ((eq_H_childIn x0 σ).symm.trans e) hr
noncomputable def cF_H_childIn : am_Fn := fun _ args σ K => match args with
  | [.int z0] => (f_H_childIn z0 σ).bind (fun p => K (some (.int p.1)) p.2)
  | _ => none
theorem cal_H_childIn (G : am_G) : am_Cal G M_H_childIn cF_H_childIn := by
  intro ρ args σ K r e
  unfold cF_H_childIn at e
  split at e
  · obtain ⟨p, h1, h2⟩ := am_bind_some e
    exact ⟨some (.int p.1), p.2, am_Met.of rfl (Nat.le_of_ble_eq_true rfl) (s_H_childIn G _ σ p _ h1 ⟨rfl, rfl⟩), h2⟩
  · cases e
abbrev M_H_roomIn : am_MD := (yX3_roomIn, cX3_roomIn, 1, (some .int), 0, 0)
theorem dX3_roomIn_0 : decode cX3_roomIn 0 = .ok (.iload_n 0, 1) := by decide +kernel
theorem dX3_roomIn_1 : decode cX3_roomIn 1 = .ok (.iconst 3, 1) := by decide +kernel
theorem dX3_roomIn_2 : decode cX3_roomIn 2 = .ok (.ishr, 1) := by decide +kernel
theorem dX3_roomIn_3 : decode cX3_roomIn 3 = .ok (.bipush 7, 2) := by decide +kernel
theorem dX3_roomIn_5 : decode cX3_roomIn 5 = .ok (.iand, 1) := by decide +kernel
theorem dX3_roomIn_6 : decode cX3_roomIn 6 = .ok (.ireturn, 1) := by decide +kernel
noncomputable def g_H_roomIn (x0 : Int32) (σ : am_St) : Option (Int32 × am_St) :=
  some (((x0 >>> (3 &&& 31)) &&& 7, σ))
noncomputable def f_H_roomIn (x0 : Int32) (σ : am_St) : Option (Int32 × am_St) := am_lk (g_H_roomIn x0 σ)
theorem eq_H_roomIn (x0 : Int32) (σ : am_St) : f_H_roomIn x0 σ = g_H_roomIn x0 σ := am_lk_eq _
set_option maxRecDepth 100000 in
set_option maxHeartbeats 4000000 in
theorem s_H_roomIn (G : am_G) (x0 : Int32) (σ : am_St) (r : Int32 × am_St) (Q : am_AQ) (e : f_H_roomIn x0 σ = some r) (hr : am_Pi r Q) : am_AW G M_H_roomIn 0 [(0, .int x0)] [] σ Q :=
  (show am_Snd G M_H_roomIn 0 am_Pi _ from (sn_iload_n (pc := 0) (i := 0) dX3_roomIn_0 rfl (sn_iconst (pc := 1) (v := 3) dX3_roomIn_1 rfl (sn_ishr (pc := 2) dX3_roomIn_2 (sn_bipush (pc := 3) (v := 7) dX3_roomIn_3 rfl (sn_iand (pc := 5) dX3_roomIn_5 (sn_reti (pc := 6) (R := fun x τ => (some ((x, τ)))) dX3_roomIn_6 rfl (fun _ _ _ _ e h => by cases e; exact h)))))))) _ _ _ _ _ ((eq_H_roomIn x0 σ).symm.trans e) hr
noncomputable def cF_H_roomIn : am_Fn := fun _ args σ K => match args with
  | [.int z0] => (f_H_roomIn z0 σ).bind (fun p => K (some (.int p.1)) p.2)
  | _ => none
theorem cal_H_roomIn (G : am_G) : am_Cal G M_H_roomIn cF_H_roomIn := by
  intro ρ args σ K r e
  unfold cF_H_roomIn at e
  split at e
  · obtain ⟨p, h1, h2⟩ := am_bind_some e
    exact ⟨some (.int p.1), p.2, am_Met.of rfl (Nat.le_of_ble_eq_true rfl) (s_H_roomIn G _ σ p _ h1 ⟨rfl, rfl⟩), h2⟩
  · cases e
abbrev M_H_minuteIn : am_MD := (yX3_minuteIn, cX3_minuteIn, 1, (some .int), 0, 0)
theorem dX3_minuteIn_0 : decode cX3_minuteIn 0 = .ok (.iload_n 0, 1) := by decide +kernel
theorem dX3_minuteIn_1 : decode cX3_minuteIn 1 = .ok (.bipush 6, 2) := by decide +kernel
theorem dX3_minuteIn_3 : decode cX3_minuteIn 3 = .ok (.ishr, 1) := by decide +kernel
theorem dX3_minuteIn_4 : decode cX3_minuteIn 4 = .ok (.bipush 7, 2) := by decide +kernel
theorem dX3_minuteIn_6 : decode cX3_minuteIn 6 = .ok (.iand, 1) := by decide +kernel
theorem dX3_minuteIn_7 : decode cX3_minuteIn 7 = .ok (.ireturn, 1) := by decide +kernel
noncomputable def g_H_minuteIn (x0 : Int32) (σ : am_St) : Option (Int32 × am_St) :=
  some (((x0 >>> (6 &&& 31)) &&& 7, σ))
noncomputable def f_H_minuteIn (x0 : Int32) (σ : am_St) : Option (Int32 × am_St) := am_lk (g_H_minuteIn x0 σ)
theorem eq_H_minuteIn (x0 : Int32) (σ : am_St) : f_H_minuteIn x0 σ = g_H_minuteIn x0 σ := am_lk_eq _
set_option maxRecDepth 100000 in
set_option maxHeartbeats 4000000 in
theorem s_H_minuteIn (G : am_G) (x0 : Int32) (σ : am_St) (r : Int32 × am_St) (Q : am_AQ) (e : f_H_minuteIn x0 σ = some r) (hr : am_Pi r Q) : am_AW G M_H_minuteIn 0 [(0, .int x0)] [] σ Q :=
  (show am_Snd G M_H_minuteIn 0 am_Pi _ from (sn_iload_n (pc := 0) (i := 0) dX3_minuteIn_0 rfl (sn_bipush (pc := 1) (v := 6) dX3_minuteIn_1 rfl (sn_ishr (pc := 3) dX3_minuteIn_3 (sn_bipush (pc := 4) (v := 7) dX3_minuteIn_4 rfl (sn_iand (pc := 6) dX3_minuteIn_6 (sn_reti (pc := 7) (R := fun x τ => (some ((x, τ)))) dX3_minuteIn_7 rfl (fun _ _ _ _ e h => by cases e; exact h)))))))) _ _ _ _ _ ((eq_H_minuteIn x0 σ).symm.trans e) hr
noncomputable def cF_H_minuteIn : am_Fn := fun _ args σ K => match args with
  | [.int z0] => (f_H_minuteIn z0 σ).bind (fun p => K (some (.int p.1)) p.2)
  | _ => none
theorem cal_H_minuteIn (G : am_G) : am_Cal G M_H_minuteIn cF_H_minuteIn := by
  intro ρ args σ K r e
  unfold cF_H_minuteIn at e
  split at e
  · obtain ⟨p, h1, h2⟩ := am_bind_some e
    exact ⟨some (.int p.1), p.2, am_Met.of rfl (Nat.le_of_ble_eq_true rfl) (s_H_minuteIn G _ σ p _ h1 ⟨rfl, rfl⟩), h2⟩
  · cases e
abbrev M_H_moreIn : am_MD := (yX3_moreIn, cX3_moreIn, 1, (some .int), 0, 0)
theorem dX3_moreIn_0 : decode cX3_moreIn 0 = .ok (.iload_n 0, 1) := by decide +kernel
theorem dX3_moreIn_1 : decode cX3_moreIn 1 = .ok (.bipush 7, 2) := by decide +kernel
theorem dX3_moreIn_3 : decode cX3_moreIn 3 = .ok (.iand, 1) := by decide +kernel
theorem dX3_moreIn_4 : decode cX3_moreIn 4 = .ok (.ireturn, 1) := by decide +kernel
noncomputable def g_H_moreIn (x0 : Int32) (σ : am_St) : Option (Int32 × am_St) :=
  some ((x0 &&& 7, σ))
noncomputable def f_H_moreIn (x0 : Int32) (σ : am_St) : Option (Int32 × am_St) := am_lk (g_H_moreIn x0 σ)
theorem eq_H_moreIn (x0 : Int32) (σ : am_St) : f_H_moreIn x0 σ = g_H_moreIn x0 σ := am_lk_eq _
set_option maxRecDepth 100000 in
set_option maxHeartbeats 4000000 in
theorem s_H_moreIn (G : am_G) (x0 : Int32) (σ : am_St) (r : Int32 × am_St) (Q : am_AQ) (e : f_H_moreIn x0 σ = some r) (hr : am_Pi r Q) : am_AW G M_H_moreIn 0 [(0, .int x0)] [] σ Q :=
  (show am_Snd G M_H_moreIn 0 am_Pi _ from (sn_iload_n (pc := 0) (i := 0) dX3_moreIn_0 rfl (sn_bipush (pc := 1) (v := 7) dX3_moreIn_1 rfl (sn_iand (pc := 3) dX3_moreIn_3 (sn_reti (pc := 4) (R := fun x τ => (some ((x, τ)))) dX3_moreIn_4 rfl (fun _ _ _ _ e h => by cases e; exact h)))))) _ _ _ _ _ ((eq_H_moreIn x0 σ).symm.trans e) hr
noncomputable def cF_H_moreIn : am_Fn := fun _ args σ K => match args with
  | [.int z0] => (f_H_moreIn z0 σ).bind (fun p => K (some (.int p.1)) p.2)
  | _ => none
theorem cal_H_moreIn (G : am_G) : am_Cal G M_H_moreIn cF_H_moreIn := by
  intro ρ args σ K r e
  unfold cF_H_moreIn at e
  split at e
  · obtain ⟨p, h1, h2⟩ := am_bind_some e
    exact ⟨some (.int p.1), p.2, am_Met.of rfl (Nat.le_of_ble_eq_true rfl) (s_H_moreIn G _ σ p _ h1 ⟨rfl, rfl⟩), h2⟩
  · cases e
abbrev M_W_narrow : am_MD := (yX10_narrow, cX10_narrow, 3, none, 0, 0)
theorem dX10_narrow_0 : decode cX10_narrow 0 = .ok (.iload_n 1, 1) := by decide +kernel
theorem dX10_narrow_1 : decode cX10_narrow 1 = .ok (.ifCond .lt 19, 3) := by decide +kernel
theorem dX10_narrow_4 : decode cX10_narrow 4 = .ok (.iload_n 1, 1) := by decide +kernel
theorem dX10_narrow_5 : decode cX10_narrow 5 = .ok (.bipush 6, 2) := by decide +kernel
theorem dX10_narrow_7 : decode cX10_narrow 7 = .ok (.if_icmp .ge 13, 3) := by decide +kernel
theorem dX10_narrow_10 : decode cX10_narrow 10 = .ok (.aload_n 0, 1) := by decide +kernel
theorem dX10_narrow_11 : decode cX10_narrow 11 = .ok (.getfield 9, 3) := by decide +kernel
theorem dX10_narrow_14 : decode cX10_narrow 14 = .ok (.iload_n 1, 1) := by decide +kernel
theorem dX10_narrow_15 : decode cX10_narrow 15 = .ok (.dup2, 1) := by decide +kernel
theorem dX10_narrow_16 : decode cX10_narrow 16 = .ok (.iaload, 1) := by decide +kernel
theorem dX10_narrow_17 : decode cX10_narrow 17 = .ok (.iload_n 2, 1) := by decide +kernel
theorem dX10_narrow_18 : decode cX10_narrow 18 = .ok (.iand, 1) := by decide +kernel
theorem dX10_narrow_19 : decode cX10_narrow 19 = .ok (.iastore, 1) := by decide +kernel
theorem dX10_narrow_20 : decode cX10_narrow 20 = .ok (.return_, 1) := by decide +kernel
noncomputable def g_W_narrow (x1 : Int32) (x2 : Int32) (σ : am_St) : Option (am_St) :=
  if x1 < 0 then
    some (σ)
  else
    if 6 ≤ x1 then
      some (σ)
    else
      if am_ix x1 6 = true then
        if am_ix x1 6 = true then
          let s1 := am_sI σ 55 x1.toNatClampNeg ((σ.1 55 x1.toNatClampNeg) &&& x2)
          some (s1)
        else none
      else none
noncomputable def f_W_narrow (x1 : Int32) (x2 : Int32) (σ : am_St) : Option (am_St) := am_lk (g_W_narrow x1 x2 σ)
theorem eq_W_narrow (x1 : Int32) (x2 : Int32) (σ : am_St) : f_W_narrow x1 x2 σ = g_W_narrow x1 x2 σ := am_lk_eq _
set_option maxRecDepth 100000 in
set_option maxHeartbeats 4000000 in
theorem s_W_narrow (G : am_G) (x1 : Int32) (x2 : Int32) (σ : am_St) (r : am_St) (Q : am_AQ) (e : f_W_narrow x1 x2 σ = some r) (hr : am_Pv r Q) : am_AW G M_W_narrow 0 [(0, .ref 54), (1, .int x1), (2, .int x2)] [] σ Q :=
  (show am_Snd G M_W_narrow 0 am_Pv _ from (sn_iload_n (pc := 0) (i := 1) dX10_narrow_0 rfl (sn_if_lt (pc := 1) (tgt := 20) dX10_narrow_1 rfl (sn_retv (pc := 20) (R := fun τ => (some (τ))) dX10_narrow_20 rfl (fun _ _ _ e h => by cases e; exact h)) (sn_iload_n (pc := 4) (i := 1) dX10_narrow_4 rfl (sn_bipush (pc := 5) (v := 6) dX10_narrow_5 rfl (sn_icmp_ge (pc := 7) (tgt := 20) dX10_narrow_7 rfl (sn_retv (pc := 20) (R := fun τ => (some (τ))) dX10_narrow_20 rfl (fun _ _ _ e h => by cases e; exact h)) (sn_aload_n (pc := 10) (i := 0) dX10_narrow_10 rfl (sn_gR (r0 := 55) (pc := 11) (h := 54) (f := 0) dX10_narrow_11 am_CL_9 sh_54 rfl (Nat.le_of_ble_eq_true rfl) tw_176 (sn_iload_n (pc := 14) (i := 1) dX10_narrow_14 rfl (sn_dup2 (pc := 15) dX10_narrow_15 (sn_aI (pc := 16) (h := 55) dX10_narrow_16 sh_55 (sn_iload_n (pc := 17) (i := 2) dX10_narrow_17 rfl (sn_iand (pc := 18) dX10_narrow_18 (sn_sI (pc := 19) (h := 55) dX10_narrow_19 sh_55 (sn_retv (pc := 20) (R := fun τ => (some (τ))) dX10_narrow_20 rfl (fun _ _ _ e h => by cases e; exact h)))))))))))))))) _ _ _ _ _ ((eq_W_narrow x1 x2 σ).symm.trans e) hr
noncomputable def cF_W_narrow : am_Fn := fun _ args σ K => match args with
  | [.ref q0, .int z1, .int z2] => match Nat.beq q0 54 with
    | true => (f_W_narrow z1 z2 σ).bind (fun p => K none p)
    | _ => none
  | _ => none
theorem cal_W_narrow (G : am_G) : am_Cal G M_W_narrow cF_W_narrow := by
  intro ρ args σ K r e
  unfold cF_W_narrow at e
  split at e
  · split at e
    · rename_i hq0
      obtain ⟨p, h1, h2⟩ := am_bind_some e
      rw [Nat.eq_of_beq_eq_true hq0]
      exact ⟨none, p, am_Met.of rfl (Nat.le_of_ble_eq_true rfl) (s_W_narrow G _ _ σ p _ h1 ⟨rfl, rfl⟩), h2⟩
    · cases e
  · cases e
abbrev M_W_openByFacts : am_MD := (yX10_openByFacts, cX10_openByFacts, 6, none, 1, 22)
theorem dX10_openByFacts_0 : decode cX10_openByFacts 0 = .ok (.aload_n 0, 1) := by decide +kernel
theorem dX10_openByFacts_1 : decode cX10_openByFacts 1 = .ok (.aload_n 1, 1) := by decide +kernel
theorem dX10_openByFacts_2 : decode cX10_openByFacts 2 = .ok (.getfield 44, 3) := by decide +kernel
theorem dX10_openByFacts_5 : decode cX10_openByFacts 5 = .ok (.putfield 49, 3) := by decide +kernel
theorem dX10_openByFacts_8 : decode cX10_openByFacts 8 = .ok (.aload_n 0, 1) := by decide +kernel
theorem dX10_openByFacts_9 : decode cX10_openByFacts 9 = .ok (.aload_n 1, 1) := by decide +kernel
theorem dX10_openByFacts_10 : decode cX10_openByFacts 10 = .ok (.getfield 50, 3) := by decide +kernel
theorem dX10_openByFacts_13 : decode cX10_openByFacts 13 = .ok (.putfield 36, 3) := by decide +kernel
theorem dX10_openByFacts_16 : decode cX10_openByFacts 16 = .ok (.iconst 0, 1) := by decide +kernel
theorem dX10_openByFacts_17 : decode cX10_openByFacts 17 = .ok (.istore_n 3, 1) := by decide +kernel
theorem dX10_openByFacts_18 : decode cX10_openByFacts 18 = .ok (.iload_n 3, 1) := by decide +kernel
theorem dX10_openByFacts_19 : decode cX10_openByFacts 19 = .ok (.iconst 4, 1) := by decide +kernel
theorem dX10_openByFacts_20 : decode cX10_openByFacts 20 = .ok (.if_icmp .ge 20, 3) := by decide +kernel
theorem dX10_openByFacts_23 : decode cX10_openByFacts 23 = .ok (.aload_n 0, 1) := by decide +kernel
theorem dX10_openByFacts_24 : decode cX10_openByFacts 24 = .ok (.getfield 15, 3) := by decide +kernel
theorem dX10_openByFacts_27 : decode cX10_openByFacts 27 = .ok (.iload_n 3, 1) := by decide +kernel
theorem dX10_openByFacts_28 : decode cX10_openByFacts 28 = .ok (.aload_n 1, 1) := by decide +kernel
theorem dX10_openByFacts_29 : decode cX10_openByFacts 29 = .ok (.iload_n 3, 1) := by decide +kernel
theorem dX10_openByFacts_30 : decode cX10_openByFacts 30 = .ok (.invokevirtual 51, 3) := by decide +kernel
theorem dX10_openByFacts_33 : decode cX10_openByFacts 33 = .ok (.iastore, 1) := by decide +kernel
theorem dX10_openByFacts_34 : decode cX10_openByFacts 34 = .ok (.iinc 3 1, 3) := by decide +kernel
theorem dX10_openByFacts_37 : decode cX10_openByFacts 37 = .ok (.goto (-19), 3) := by decide +kernel
theorem dX10_openByFacts_40 : decode cX10_openByFacts 40 = .ok (.iconst 0, 1) := by decide +kernel
theorem dX10_openByFacts_41 : decode cX10_openByFacts 41 = .ok (.istore_n 3, 1) := by decide +kernel
theorem dX10_openByFacts_42 : decode cX10_openByFacts 42 = .ok (.iload_n 3, 1) := by decide +kernel
theorem dX10_openByFacts_43 : decode cX10_openByFacts 43 = .ok (.bipush 6, 2) := by decide +kernel
theorem dX10_openByFacts_45 : decode cX10_openByFacts 45 = .ok (.if_icmp .ge 23, 3) := by decide +kernel
theorem dX10_openByFacts_48 : decode cX10_openByFacts 48 = .ok (.aload_n 0, 1) := by decide +kernel
theorem dX10_openByFacts_49 : decode cX10_openByFacts 49 = .ok (.getfield 9, 3) := by decide +kernel
theorem dX10_openByFacts_52 : decode cX10_openByFacts 52 = .ok (.iload_n 3, 1) := by decide +kernel
theorem dX10_openByFacts_53 : decode cX10_openByFacts 53 = .ok (.iconst 1, 1) := by decide +kernel
theorem dX10_openByFacts_54 : decode cX10_openByFacts 54 = .ok (.aload_n 0, 1) := by decide +kernel
theorem dX10_openByFacts_55 : decode cX10_openByFacts 55 = .ok (.getfield 49, 3) := by decide +kernel
theorem dX10_openByFacts_58 : decode cX10_openByFacts 58 = .ok (.ishl, 1) := by decide +kernel
theorem dX10_openByFacts_59 : decode cX10_openByFacts 59 = .ok (.iconst 1, 1) := by decide +kernel
theorem dX10_openByFacts_60 : decode cX10_openByFacts 60 = .ok (.isub, 1) := by decide +kernel
theorem dX10_openByFacts_61 : decode cX10_openByFacts 61 = .ok (.iastore, 1) := by decide +kernel
theorem dX10_openByFacts_62 : decode cX10_openByFacts 62 = .ok (.iinc 3 1, 3) := by decide +kernel
theorem dX10_openByFacts_65 : decode cX10_openByFacts 65 = .ok (.goto (-23), 3) := by decide +kernel
theorem dX10_openByFacts_68 : decode cX10_openByFacts 68 = .ok (.iconst 0, 1) := by decide +kernel
theorem dX10_openByFacts_69 : decode cX10_openByFacts 69 = .ok (.istore_n 3, 1) := by decide +kernel
theorem dX10_openByFacts_70 : decode cX10_openByFacts 70 = .ok (.iload_n 3, 1) := by decide +kernel
theorem dX10_openByFacts_71 : decode cX10_openByFacts 71 = .ok (.aload_n 1, 1) := by decide +kernel
theorem dX10_openByFacts_72 : decode cX10_openByFacts 72 = .ok (.getfield 55, 3) := by decide +kernel
theorem dX10_openByFacts_75 : decode cX10_openByFacts 75 = .ok (.if_icmp .ge 61, 3) := by decide +kernel
theorem dX10_openByFacts_78 : decode cX10_openByFacts 78 = .ok (.aload_n 1, 1) := by decide +kernel
theorem dX10_openByFacts_79 : decode cX10_openByFacts 79 = .ok (.iload_n 3, 1) := by decide +kernel
theorem dX10_openByFacts_80 : decode cX10_openByFacts 80 = .ok (.invokevirtual 58, 3) := by decide +kernel
theorem dX10_openByFacts_83 : decode cX10_openByFacts 83 = .ok (.istore 4, 2) := by decide +kernel
theorem dX10_openByFacts_85 : decode cX10_openByFacts 85 = .ok (.iload 4, 2) := by decide +kernel
theorem dX10_openByFacts_87 : decode cX10_openByFacts 87 = .ok (.invokestatic 61, 3) := by decide +kernel
theorem dX10_openByFacts_90 : decode cX10_openByFacts 90 = .ok (.iload_n 2, 1) := by decide +kernel
theorem dX10_openByFacts_91 : decode cX10_openByFacts 91 = .ok (.if_icmp .ne 39, 3) := by decide +kernel
theorem dX10_openByFacts_94 : decode cX10_openByFacts 94 = .ok (.iconst 1, 1) := by decide +kernel
theorem dX10_openByFacts_95 : decode cX10_openByFacts 95 = .ok (.iload 4, 2) := by decide +kernel
theorem dX10_openByFacts_97 : decode cX10_openByFacts 97 = .ok (.invokestatic 64, 3) := by decide +kernel
theorem dX10_openByFacts_100 : decode cX10_openByFacts 100 = .ok (.ishl, 1) := by decide +kernel
theorem dX10_openByFacts_101 : decode cX10_openByFacts 101 = .ok (.istore 5, 2) := by decide +kernel
theorem dX10_openByFacts_103 : decode cX10_openByFacts 103 = .ok (.aload_n 0, 1) := by decide +kernel
theorem dX10_openByFacts_104 : decode cX10_openByFacts 104 = .ok (.iload 4, 2) := by decide +kernel
theorem dX10_openByFacts_106 : decode cX10_openByFacts 106 = .ok (.invokestatic 67, 3) := by decide +kernel
theorem dX10_openByFacts_109 : decode cX10_openByFacts 109 = .ok (.iload 4, 2) := by decide +kernel
theorem dX10_openByFacts_111 : decode cX10_openByFacts 111 = .ok (.invokestatic 70, 3) := by decide +kernel
theorem dX10_openByFacts_114 : decode cX10_openByFacts 114 = .ok (.iconst 1, 1) := by decide +kernel
theorem dX10_openByFacts_115 : decode cX10_openByFacts 115 = .ok (.if_icmp .ne 8, 3) := by decide +kernel
theorem dX10_openByFacts_118 : decode cX10_openByFacts 118 = .ok (.iload 5, 2) := by decide +kernel
theorem dX10_openByFacts_120 : decode cX10_openByFacts 120 = .ok (.goto 7, 3) := by decide +kernel
theorem dX10_openByFacts_123 : decode cX10_openByFacts 123 = .ok (.iload 5, 2) := by decide +kernel
theorem dX10_openByFacts_125 : decode cX10_openByFacts 125 = .ok (.iconst (-1), 1) := by decide +kernel
theorem dX10_openByFacts_126 : decode cX10_openByFacts 126 = .ok (.ixor, 1) := by decide +kernel
theorem dX10_openByFacts_127 : decode cX10_openByFacts 127 = .ok (.invokevirtual 73, 3) := by decide +kernel
theorem dX10_openByFacts_130 : decode cX10_openByFacts 130 = .ok (.iinc 3 1, 3) := by decide +kernel
theorem dX10_openByFacts_133 : decode cX10_openByFacts 133 = .ok (.goto (-63), 3) := by decide +kernel
theorem dX10_openByFacts_136 : decode cX10_openByFacts 136 = .ok (.return_, 1) := by decide +kernel
abbrev Pl_W_openByFacts_37_42 (G : am_G) : ((Int32 × Int32 × am_St) ⊕ (am_St)) → am_AQ → Prop := am_PL G M_W_openByFacts 42 (fun s : Int32 × Int32 × am_St => [(3, .int s.2.1), (2, .int s.1), (1, .ref 37), (0, .ref 54)]) (fun s => s.2.2) am_Pv
abbrev Pl_W_openByFacts_37_18 (G : am_G) : ((Int32 × Int32 × am_St) ⊕ (am_St)) → am_AQ → Prop := am_PL G M_W_openByFacts 18 (fun s : Int32 × Int32 × am_St => [(3, .int s.2.1), (2, .int s.1), (1, .ref 37), (0, .ref 54)]) (fun s => s.2.2) am_Pv
abbrev Pl_W_openByFacts_37_70 (G : am_G) : ((Int32 × Int32 × am_St) ⊕ (am_St)) → am_AQ → Prop := am_PL G M_W_openByFacts 70 (fun s : Int32 × Int32 × am_St => [(3, .int s.2.1), (2, .int s.1), (1, .ref 37), (0, .ref 54)]) (fun s => s.2.2) am_Pv
noncomputable def g_W_openByFacts_37_130 (x2 : Int32) (x3 : Int32) (σ : am_St) : Option ((Int32 × Int32 × am_St) ⊕ (am_St)) :=
  let v1 := x3 + 1
  some (.inl (x2, v1, σ))
noncomputable def f_W_openByFacts_37_130 (x2 : Int32) (x3 : Int32) (σ : am_St) : Option ((Int32 × Int32 × am_St) ⊕ (am_St)) := am_lk (g_W_openByFacts_37_130 x2 x3 σ)
theorem eq_W_openByFacts_37_130 (x2 : Int32) (x3 : Int32) (σ : am_St) : f_W_openByFacts_37_130 x2 x3 σ = g_W_openByFacts_37_130 x2 x3 σ := am_lk_eq _
set_option maxRecDepth 100000 in
set_option maxHeartbeats 4000000 in
theorem s_W_openByFacts_37_130 (G : am_G) (x2 : Int32) (x3 : Int32) (σ : am_St) (r : (Int32 × Int32 × am_St) ⊕ (am_St)) (Q : am_AQ) (e : f_W_openByFacts_37_130 x2 x3 σ = some r) (hr : (Pl_W_openByFacts_37_70 G) r Q) : am_AW G M_W_openByFacts 130 [(3, .int x3), (2, .int x2), (1, .ref 37), (0, .ref 54)] [] σ Q :=
  (show am_Snd G M_W_openByFacts 130 (Pl_W_openByFacts_37_70 G) _ from (sn_iinc (pc := 130) (v := 1) dX10_openByFacts_130 rfl (Nat.le_of_ble_eq_true rfl) (sn_goto (pc := 133) (tgt := 70) dX10_openByFacts_133 rfl (sn_lf (pc := 70) (ln_a (i := 0) (q := 54) (ln_a (i := 1) (q := 37) (ln_i (i := 2) (fun z0 => (ln_i (i := 3) (fun z1 => (ln_end (o := fun τ => (some (.inl (z0, z1, τ)) : Option ((Int32 × Int32 × am_St) ⊕ (am_St)))) (fun _ _ _ e h => by cases e; exact h)))))))))))) _ _ _ _ _ ((eq_W_openByFacts_37_130 x2 x3 σ).symm.trans e) hr
noncomputable def g_W_openByFacts_37_127 (x2 : Int32) (x3 : Int32) (y1 : Int32) (y2 : Int32) (σ : am_St) : Option ((Int32 × Int32 × am_St) ⊕ (am_St)) :=
  (f_W_narrow y1 y2 σ).bind (fun p1 =>
    f_W_openByFacts_37_130 x2 x3 p1)
noncomputable def f_W_openByFacts_37_127 (x2 : Int32) (x3 : Int32) (y1 : Int32) (y2 : Int32) (σ : am_St) : Option ((Int32 × Int32 × am_St) ⊕ (am_St)) := am_lk (g_W_openByFacts_37_127 x2 x3 y1 y2 σ)
theorem eq_W_openByFacts_37_127 (x2 : Int32) (x3 : Int32) (y1 : Int32) (y2 : Int32) (σ : am_St) : f_W_openByFacts_37_127 x2 x3 y1 y2 σ = g_W_openByFacts_37_127 x2 x3 y1 y2 σ := am_lk_eq _
set_option maxRecDepth 100000 in
set_option maxHeartbeats 4000000 in
theorem s_W_openByFacts_37_127 (G : am_G) (x2 : Int32) (x3 : Int32) (y1 : Int32) (y2 : Int32) (σ : am_St) (r : (Int32 × Int32 × am_St) ⊕ (am_St)) (Q : am_AQ) (e : f_W_openByFacts_37_127 x2 x3 y1 y2 σ = some r) (hr : (Pl_W_openByFacts_37_70 G) r Q) : am_AW G M_W_openByFacts 127 [(3, .int x3), (2, .int x2), (1, .ref 37), (0, .ref 54)] [.int y2, .int y1, .ref 54] σ Q :=
  (show am_Snd G M_W_openByFacts 127 (Pl_W_openByFacts_37_70 G) _ from (sn_callV (pc := 127) (N := M_W_narrow) dX10_openByFacts_127 (cal_W_narrow G) sh_54 rfl tw_360 tw_362 tp_9 tw_10 tw_363 dsc_X10_narrow rfl (sn_lf (pc := 130) (ln_a (i := 0) (q := 54) (ln_a (i := 1) (q := 37) (ln_i (i := 2) (fun z0 => (ln_i (i := 3) (fun z1 => (ln_end (o := fun τ => f_W_openByFacts_37_130 z0 z1 τ) (fun _ _ _ e h => s_W_openByFacts_37_130 G z0 z1 _ _ _ e h))))))))))) _ _ _ _ _ ((eq_W_openByFacts_37_127 x2 x3 y1 y2 σ).symm.trans e) hr
noncomputable def g_W_openByFacts_37_94 (x2 : Int32) (x3 : Int32) (x4 : Int32) (σ : am_St) : Option ((Int32 × Int32 × am_St) ⊕ (am_St)) :=
  (f_H_roomIn x4 σ).bind (fun p1 =>
    let v2 := 1 <<< (p1.1 &&& 31)
    (f_H_minuteIn x4 p1.2).bind (fun p3 =>
      (f_H_moreIn x4 p3.2).bind (fun p4 =>
        if p4.1 = 1 then
          f_W_openByFacts_37_127 x2 x3 p3.1 v2 p4.2
        else
          f_W_openByFacts_37_127 x2 x3 p3.1 (v2 ^^^ (-1)) p4.2)))
noncomputable def f_W_openByFacts_37_94 (x2 : Int32) (x3 : Int32) (x4 : Int32) (σ : am_St) : Option ((Int32 × Int32 × am_St) ⊕ (am_St)) := am_lk (g_W_openByFacts_37_94 x2 x3 x4 σ)
theorem eq_W_openByFacts_37_94 (x2 : Int32) (x3 : Int32) (x4 : Int32) (σ : am_St) : f_W_openByFacts_37_94 x2 x3 x4 σ = g_W_openByFacts_37_94 x2 x3 x4 σ := am_lk_eq _
set_option maxRecDepth 100000 in
set_option maxHeartbeats 4000000 in
theorem s_W_openByFacts_37_94 (G : am_G) (x2 : Int32) (x3 : Int32) (x4 : Int32) (σ : am_St) (r : (Int32 × Int32 × am_St) ⊕ (am_St)) (Q : am_AQ) (e : f_W_openByFacts_37_94 x2 x3 x4 σ = some r) (hr : (Pl_W_openByFacts_37_70 G) r Q) : am_AW G M_W_openByFacts 94 [(4, .int x4), (3, .int x3), (2, .int x2), (1, .ref 37), (0, .ref 54)] [] σ Q :=
  (show am_Snd G M_W_openByFacts 94 (Pl_W_openByFacts_37_70 G) _ from (sn_iconst (pc := 94) (v := 1) dX10_openByFacts_94 rfl (sn_iload (pc := 95) dX10_openByFacts_95 (sn_callS (pc := 97) (N := M_H_roomIn) dX10_openByFacts_97 (cal_H_roomIn G) tw_351 tw_352 tw_2 tw_353 dsc_X3_roomIn rfl (sn_ishl (pc := 100) dX10_openByFacts_100 (sn_istore (pc := 101) dX10_openByFacts_101 (Nat.le_of_ble_eq_true rfl) (sn_aload_n (pc := 103) (i := 0) dX10_openByFacts_103 rfl (sn_iload (pc := 104) dX10_openByFacts_104 (sn_callS (pc := 106) (N := M_H_minuteIn) dX10_openByFacts_106 (cal_H_minuteIn G) tw_354 tw_355 tw_2 tw_356 dsc_X3_minuteIn rfl (sn_iload (pc := 109) dX10_openByFacts_109 (sn_callS (pc := 111) (N := M_H_moreIn) dX10_openByFacts_111 (cal_H_moreIn G) tw_357 tw_358 tw_2 tw_359 dsc_X3_moreIn rfl (sn_iconst (pc := 114) (v := 1) dX10_openByFacts_114 rfl (sn_icmp_ne (pc := 115) (tgt := 123) dX10_openByFacts_115 rfl (sn_iload (pc := 123) dX10_openByFacts_123 (sn_iconst (pc := 125) (v := (-1)) dX10_openByFacts_125 (show Int32.ofInt (-1) = (-1) by decide) (sn_ixor (pc := 126) dX10_openByFacts_126 (sn_lf (pc := 127) (ln_a (i := 0) (q := 54) (ln_a (i := 1) (q := 37) (ln_i (i := 2) (fun z0 => (ln_i (i := 3) (fun z1 => (ln_si (fun w2 => (ln_si (fun w1 => (ln_sa (q := 54) (ln_end (o := fun τ => f_W_openByFacts_37_127 z0 z1 w1 w2 τ) (fun _ _ _ e h => s_W_openByFacts_37_127 G z0 z1 w1 w2 _ _ _ e h))))))))))))))))) (sn_iload (pc := 118) dX10_openByFacts_118 (sn_goto (pc := 120) (tgt := 127) dX10_openByFacts_120 rfl (sn_lf (pc := 127) (ln_a (i := 0) (q := 54) (ln_a (i := 1) (q := 37) (ln_i (i := 2) (fun z0 => (ln_i (i := 3) (fun z1 => (ln_si (fun w2 => (ln_si (fun w1 => (ln_sa (q := 54) (ln_end (o := fun τ => f_W_openByFacts_37_127 z0 z1 w1 w2 τ) (fun _ _ _ e h => s_W_openByFacts_37_127 G z0 z1 w1 w2 _ _ _ e h))))))))))))))))))))))))))))) _ _ _ _ _ ((eq_W_openByFacts_37_94 x2 x3 x4 σ).symm.trans e) hr
noncomputable def b_W_openByFacts_37_70 (x2 : Int32) (x3 : Int32) (σ : am_St) : Option ((Int32 × Int32 × am_St) ⊕ (am_St)) :=
  if (σ.1 37 5) ≤ x3 then
    some (.inr (σ))
  else
    (f_H_factAt_37 x3 σ).bind (fun p1 =>
      (f_H_childIn p1.1 p1.2).bind (fun p2 =>
        if p2.1 = x2 then
          f_W_openByFacts_37_94 x2 x3 p1.1 p2.2
        else
          f_W_openByFacts_37_130 x2 x3 p2.2))
noncomputable def f_W_openByFacts_37_70 (x2 : Int32) (x3 : Int32) (σ : am_St) : Option (am_St) := am_lp (fun s : Int32 × Int32 × am_St => b_W_openByFacts_37_70 s.1 s.2.1 s.2.2) (x2, x3, σ)
set_option maxRecDepth 100000 in
set_option maxHeartbeats 4000000 in
theorem sb_W_openByFacts_37_70 (G : am_G) (x2 : Int32) (x3 : Int32) (σ : am_St) (r : (Int32 × Int32 × am_St) ⊕ (am_St)) (Q : am_AQ) (e : b_W_openByFacts_37_70 x2 x3 σ = some r) (hr : Pl_W_openByFacts_37_70 G r Q) : am_AW G M_W_openByFacts 70 [(3, .int x3), (2, .int x2), (1, .ref 37), (0, .ref 54)] [] σ Q :=
  (show am_Snd G M_W_openByFacts 70 (Pl_W_openByFacts_37_70 G) _ from (sn_iload_n (pc := 70) (i := 3) dX10_openByFacts_70 rfl (sn_aload_n (pc := 71) (i := 1) dX10_openByFacts_71 rfl (sn_gI (pc := 72) (h := 37) (f := 5) dX10_openByFacts_72 am_CL_3 sh_37 rfl (Nat.le_of_ble_eq_true rfl) tw_101 (sn_icmp_ge (pc := 75) (tgt := 136) dX10_openByFacts_75 rfl (sn_retv (pc := 136) (R := fun τ => (some (.inr (τ)) : Option ((Int32 × Int32 × am_St) ⊕ (am_St)))) dX10_openByFacts_136 rfl (fun _ _ _ e h => by cases e; exact h)) (sn_aload_n (pc := 78) (i := 1) dX10_openByFacts_78 rfl (sn_iload_n (pc := 79) (i := 3) dX10_openByFacts_79 rfl (sn_callV (pc := 80) (N := M_H_factAt) dX10_openByFacts_80 (cal_H_factAt_37 G) sh_37 rfl tw_344 tw_345 tw_346 tw_2 tw_347 dsc_X3_factAt rfl (sn_istore (pc := 83) dX10_openByFacts_83 (Nat.le_of_ble_eq_true rfl) (sn_iload (pc := 85) dX10_openByFacts_85 (sn_callS (pc := 87) (N := M_H_childIn) dX10_openByFacts_87 (cal_H_childIn G) tw_348 tw_349 tw_2 tw_350 dsc_X3_childIn rfl (sn_iload_n (pc := 90) (i := 2) dX10_openByFacts_90 rfl (sn_icmp_ne (pc := 91) (tgt := 130) dX10_openByFacts_91 rfl (sn_lf (pc := 130) (ln_a (i := 0) (q := 54) (ln_a (i := 1) (q := 37) (ln_i (i := 2) (fun z0 => (ln_i (i := 3) (fun z1 => (ln_end (o := fun τ => f_W_openByFacts_37_130 z0 z1 τ) (fun _ _ _ e h => s_W_openByFacts_37_130 G z0 z1 _ _ _ e h))))))))) (sn_lf (pc := 94) (ln_a (i := 0) (q := 54) (ln_a (i := 1) (q := 37) (ln_i (i := 2) (fun z0 => (ln_i (i := 3) (fun z1 => (ln_i (i := 4) (fun z2 => (ln_end (o := fun τ => f_W_openByFacts_37_94 z0 z1 z2 τ) (fun _ _ _ e h => s_W_openByFacts_37_94 G z0 z1 z2 _ _ _ e h)))))))))))))))))))))))) _ _ _ _ _ e hr
theorem s_W_openByFacts_37_70 (G : am_G) (x2 : Int32) (x3 : Int32) (σ : am_St) (r : am_St) (Q : am_AQ) (e : f_W_openByFacts_37_70 x2 x3 σ = some r) (hr : am_Pv r Q) : am_AW G M_W_openByFacts 70 [(3, .int x3), (2, .int x2), (1, .ref 37), (0, .ref 54)] [] σ Q :=
  am_loop (P := am_Pv) (L := fun s : Int32 × Int32 × am_St => [(3, .int s.2.1), (2, .int s.1), (1, .ref 37), (0, .ref 54)]) (g := fun s => s.2.2) (fun s o Q e hr => sb_W_openByFacts_37_70 G s.1 s.2.1 s.2.2 o Q e hr) (x2, x3, σ) r Q e hr
noncomputable def b_W_openByFacts_37_42 (x2 : Int32) (x3 : Int32) (σ : am_St) : Option ((Int32 × Int32 × am_St) ⊕ (am_St)) :=
  if 6 ≤ x3 then
    (f_W_openByFacts_37_70 x2 0 σ).map (fun r => .inr r)
  else
    if am_ix x3 6 = true then
      let s1 := am_sI σ 55 x3.toNatClampNeg ((1 <<< ((σ.1 54 5) &&& 31)) - 1)
      let v2 := x3 + 1
      some (.inl (x2, v2, s1))
    else none
noncomputable def f_W_openByFacts_37_42 (x2 : Int32) (x3 : Int32) (σ : am_St) : Option (am_St) := am_lp (fun s : Int32 × Int32 × am_St => b_W_openByFacts_37_42 s.1 s.2.1 s.2.2) (x2, x3, σ)
set_option maxRecDepth 100000 in
set_option maxHeartbeats 4000000 in
theorem sb_W_openByFacts_37_42 (G : am_G) (x2 : Int32) (x3 : Int32) (σ : am_St) (r : (Int32 × Int32 × am_St) ⊕ (am_St)) (Q : am_AQ) (e : b_W_openByFacts_37_42 x2 x3 σ = some r) (hr : Pl_W_openByFacts_37_42 G r Q) : am_AW G M_W_openByFacts 42 [(3, .int x3), (2, .int x2), (1, .ref 37), (0, .ref 54)] [] σ Q :=
  (show am_Snd G M_W_openByFacts 42 (Pl_W_openByFacts_37_42 G) _ from (sn_iload_n (pc := 42) (i := 3) dX10_openByFacts_42 rfl (sn_bipush (pc := 43) (v := 6) dX10_openByFacts_43 rfl (sn_icmp_ge (pc := 45) (tgt := 68) dX10_openByFacts_45 rfl (sn_iconst (pc := 68) (v := 0) dX10_openByFacts_68 rfl (sn_istore_n (pc := 69) (i := 3) dX10_openByFacts_69 rfl (Nat.le_of_ble_eq_true rfl) (sn_lf (pc := 70) (ln_a (i := 0) (q := 54) (ln_a (i := 1) (q := 37) (ln_i (i := 2) (fun z0 => (ln_i (i := 3) (fun z1 => (ln_end (o := fun τ => ((f_W_openByFacts_37_70 z0 z1 τ).map (fun r => .inr r) : Option ((Int32 × Int32 × am_St) ⊕ (am_St)))) (fun _ _ _ e h => by obtain ⟨r9, e9, rfl⟩ := am_map_some e; exact s_W_openByFacts_37_70 G z0 z1 _ _ _ e9 h))))))))))) (sn_aload_n (pc := 48) (i := 0) dX10_openByFacts_48 rfl (sn_gR (r0 := 55) (pc := 49) (h := 54) (f := 0) dX10_openByFacts_49 am_CL_9 sh_54 rfl (Nat.le_of_ble_eq_true rfl) tw_176 (sn_iload_n (pc := 52) (i := 3) dX10_openByFacts_52 rfl (sn_iconst (pc := 53) (v := 1) dX10_openByFacts_53 rfl (sn_aload_n (pc := 54) (i := 0) dX10_openByFacts_54 rfl (sn_gI (pc := 55) (h := 54) (f := 5) dX10_openByFacts_55 am_CL_9 sh_54 rfl (Nat.le_of_ble_eq_true rfl) tw_181 (sn_ishl (pc := 58) dX10_openByFacts_58 (sn_iconst (pc := 59) (v := 1) dX10_openByFacts_59 rfl (sn_isub (pc := 60) dX10_openByFacts_60 (sn_sI (pc := 61) (h := 55) dX10_openByFacts_61 sh_55 (sn_iinc (pc := 62) (v := 1) dX10_openByFacts_62 rfl (Nat.le_of_ble_eq_true rfl) (sn_goto (pc := 65) (tgt := 42) dX10_openByFacts_65 rfl (sn_lf (pc := 42) (ln_a (i := 0) (q := 54) (ln_a (i := 1) (q := 37) (ln_i (i := 2) (fun z0 => (ln_i (i := 3) (fun z1 => (ln_end (o := fun τ => (some (.inl (z0, z1, τ)) : Option ((Int32 × Int32 × am_St) ⊕ (am_St)))) (fun _ _ _ e h => by cases e; exact h))))))))))))))))))))))))) _ _ _ _ _ e hr
theorem s_W_openByFacts_37_42 (G : am_G) (x2 : Int32) (x3 : Int32) (σ : am_St) (r : am_St) (Q : am_AQ) (e : f_W_openByFacts_37_42 x2 x3 σ = some r) (hr : am_Pv r Q) : am_AW G M_W_openByFacts 42 [(3, .int x3), (2, .int x2), (1, .ref 37), (0, .ref 54)] [] σ Q :=
  am_loop (P := am_Pv) (L := fun s : Int32 × Int32 × am_St => [(3, .int s.2.1), (2, .int s.1), (1, .ref 37), (0, .ref 54)]) (g := fun s => s.2.2) (fun s o Q e hr => sb_W_openByFacts_37_42 G s.1 s.2.1 s.2.2 o Q e hr) (x2, x3, σ) r Q e hr
noncomputable def b_W_openByFacts_37_18 (x2 : Int32) (x3 : Int32) (σ : am_St) : Option ((Int32 × Int32 × am_St) ⊕ (am_St)) :=
  if 4 ≤ x3 then
    (f_W_openByFacts_37_42 x2 0 σ).map (fun r => .inr r)
  else
    (f_H_stepsOf_37 x3 σ).bind (fun p1 =>
      if am_ix x3 4 = true then
        let s2 := am_sI p1.2 56 x3.toNatClampNeg p1.1
        let v3 := x3 + 1
        some (.inl (x2, v3, s2))
      else none)
noncomputable def f_W_openByFacts_37_18 (x2 : Int32) (x3 : Int32) (σ : am_St) : Option (am_St) := am_lp (fun s : Int32 × Int32 × am_St => b_W_openByFacts_37_18 s.1 s.2.1 s.2.2) (x2, x3, σ)
set_option maxRecDepth 100000 in
set_option maxHeartbeats 4000000 in
theorem sb_W_openByFacts_37_18 (G : am_G) (x2 : Int32) (x3 : Int32) (σ : am_St) (r : (Int32 × Int32 × am_St) ⊕ (am_St)) (Q : am_AQ) (e : b_W_openByFacts_37_18 x2 x3 σ = some r) (hr : Pl_W_openByFacts_37_18 G r Q) : am_AW G M_W_openByFacts 18 [(3, .int x3), (2, .int x2), (1, .ref 37), (0, .ref 54)] [] σ Q :=
  (show am_Snd G M_W_openByFacts 18 (Pl_W_openByFacts_37_18 G) _ from (sn_iload_n (pc := 18) (i := 3) dX10_openByFacts_18 rfl (sn_iconst (pc := 19) (v := 4) dX10_openByFacts_19 rfl (sn_icmp_ge (pc := 20) (tgt := 40) dX10_openByFacts_20 rfl (sn_iconst (pc := 40) (v := 0) dX10_openByFacts_40 rfl (sn_istore_n (pc := 41) (i := 3) dX10_openByFacts_41 rfl (Nat.le_of_ble_eq_true rfl) (sn_lf (pc := 42) (ln_a (i := 0) (q := 54) (ln_a (i := 1) (q := 37) (ln_i (i := 2) (fun z0 => (ln_i (i := 3) (fun z1 => (ln_end (o := fun τ => ((f_W_openByFacts_37_42 z0 z1 τ).map (fun r => .inr r) : Option ((Int32 × Int32 × am_St) ⊕ (am_St)))) (fun _ _ _ e h => by obtain ⟨r9, e9, rfl⟩ := am_map_some e; exact s_W_openByFacts_37_42 G z0 z1 _ _ _ e9 h))))))))))) (sn_aload_n (pc := 23) (i := 0) dX10_openByFacts_23 rfl (sn_gR (r0 := 56) (pc := 24) (h := 54) (f := 1) dX10_openByFacts_24 am_CL_9 sh_54 rfl (Nat.le_of_ble_eq_true rfl) tw_177 (sn_iload_n (pc := 27) (i := 3) dX10_openByFacts_27 rfl (sn_aload_n (pc := 28) (i := 1) dX10_openByFacts_28 rfl (sn_iload_n (pc := 29) (i := 3) dX10_openByFacts_29 rfl (sn_callV (pc := 30) (N := M_H_stepsOf) dX10_openByFacts_30 (cal_H_stepsOf_37 G) sh_37 rfl tw_340 tw_341 tw_342 tw_2 tw_343 dsc_X3_stepsOf rfl (sn_sI (pc := 33) (h := 56) dX10_openByFacts_33 sh_56 (sn_iinc (pc := 34) (v := 1) dX10_openByFacts_34 rfl (Nat.le_of_ble_eq_true rfl) (sn_goto (pc := 37) (tgt := 18) dX10_openByFacts_37 rfl (sn_lf (pc := 18) (ln_a (i := 0) (q := 54) (ln_a (i := 1) (q := 37) (ln_i (i := 2) (fun z0 => (ln_i (i := 3) (fun z1 => (ln_end (o := fun τ => (some (.inl (z0, z1, τ)) : Option ((Int32 × Int32 × am_St) ⊕ (am_St)))) (fun _ _ _ e h => by cases e; exact h)))))))))))))))))))))) _ _ _ _ _ e hr
theorem s_W_openByFacts_37_18 (G : am_G) (x2 : Int32) (x3 : Int32) (σ : am_St) (r : am_St) (Q : am_AQ) (e : f_W_openByFacts_37_18 x2 x3 σ = some r) (hr : am_Pv r Q) : am_AW G M_W_openByFacts 18 [(3, .int x3), (2, .int x2), (1, .ref 37), (0, .ref 54)] [] σ Q :=
  am_loop (P := am_Pv) (L := fun s : Int32 × Int32 × am_St => [(3, .int s.2.1), (2, .int s.1), (1, .ref 37), (0, .ref 54)]) (g := fun s => s.2.2) (fun s o Q e hr => sb_W_openByFacts_37_18 G s.1 s.2.1 s.2.2 o Q e hr) (x2, x3, σ) r Q e hr
noncomputable def g_W_openByFacts_37 (x2 : Int32) (σ : am_St) : Option (am_St) :=
  let s1 := am_sI σ 54 5 (σ.1 37 0)
  let s2 := am_sI s1 54 6 (s1.1 37 1)
  f_W_openByFacts_37_18 x2 0 s2
noncomputable def f_W_openByFacts_37 (x2 : Int32) (σ : am_St) : Option (am_St) := am_lk (g_W_openByFacts_37 x2 σ)
theorem eq_W_openByFacts_37 (x2 : Int32) (σ : am_St) : f_W_openByFacts_37 x2 σ = g_W_openByFacts_37 x2 σ := am_lk_eq _
set_option maxRecDepth 100000 in
set_option maxHeartbeats 4000000 in
theorem s_W_openByFacts_37 (G : am_G) (x2 : Int32) (σ : am_St) (r : am_St) (Q : am_AQ) (e : f_W_openByFacts_37 x2 σ = some r) (hr : am_Pv r Q) : am_AW G M_W_openByFacts 0 [(0, .ref 54), (1, .ref 37), (2, .int x2)] [] σ Q :=
  (show am_Snd G M_W_openByFacts 0 am_Pv _ from (sn_aload_n (pc := 0) (i := 0) dX10_openByFacts_0 rfl (sn_aload_n (pc := 1) (i := 1) dX10_openByFacts_1 rfl (sn_gI (pc := 2) (h := 37) (f := 0) dX10_openByFacts_2 am_CL_3 sh_37 rfl (Nat.le_of_ble_eq_true rfl) tw_76 (sn_pI (pc := 5) (h := 54) (f := 5) dX10_openByFacts_5 am_CL_9 sh_54 rfl (Nat.le_of_ble_eq_true rfl) tw_181 rfl rfl (sn_aload_n (pc := 8) (i := 0) dX10_openByFacts_8 rfl (sn_aload_n (pc := 9) (i := 1) dX10_openByFacts_9 rfl (sn_gI (pc := 10) (h := 37) (f := 1) dX10_openByFacts_10 am_CL_3 sh_37 rfl (Nat.le_of_ble_eq_true rfl) tw_80 (sn_pI (pc := 13) (h := 54) (f := 6) dX10_openByFacts_13 am_CL_9 sh_54 rfl (Nat.le_of_ble_eq_true rfl) tw_182 rfl rfl (sn_iconst (pc := 16) (v := 0) dX10_openByFacts_16 rfl (sn_istore_n (pc := 17) (i := 3) dX10_openByFacts_17 rfl (Nat.le_of_ble_eq_true rfl) (sn_lf (pc := 18) (ln_a (i := 0) (q := 54) (ln_a (i := 1) (q := 37) (ln_i (i := 2) (fun z0 => (ln_i (i := 3) (fun z1 => (ln_end (o := fun τ => f_W_openByFacts_37_18 z0 z1 τ) (fun _ _ _ e h => s_W_openByFacts_37_18 G z0 z1 _ _ _ e h)))))))))))))))))))) _ _ _ _ _ ((eq_W_openByFacts_37 x2 σ).symm.trans e) hr
noncomputable def cF_W_openByFacts_37 : am_Fn := fun _ args σ K => match args with
  | [.ref q0, .ref q1, .int z2] => match Nat.beq q0 54, Nat.beq q1 37 with
    | true, true => (f_W_openByFacts_37 z2 σ).bind (fun p => K none p)
    | _, _ => none
  | _ => none
theorem cal_W_openByFacts_37 (G : am_G) : am_Cal G M_W_openByFacts cF_W_openByFacts_37 := by
  intro ρ args σ K r e
  unfold cF_W_openByFacts_37 at e
  split at e
  · split at e
    · rename_i hq0 hq1
      obtain ⟨p, h1, h2⟩ := am_bind_some e
      rw [Nat.eq_of_beq_eq_true hq0]
      rw [Nat.eq_of_beq_eq_true hq1]
      exact ⟨none, p, am_Met.of rfl (Nat.le_of_ble_eq_true rfl) (s_W_openByFacts_37 G _ σ p _ h1 ⟨rfl, rfl⟩), h2⟩
    · cases e
  · cases e
abbrev M_W_sumNextTo : am_MD := (yX10_sumNextTo, cX10_sumNextTo, 8, (some .int), 0, 0)
theorem dX10_sumNextTo_0 : decode cX10_sumNextTo 0 = .ok (.iconst 0, 1) := by decide +kernel
theorem dX10_sumNextTo_1 : decode cX10_sumNextTo 1 = .ok (.istore 4, 2) := by decide +kernel
theorem dX10_sumNextTo_3 : decode cX10_sumNextTo 3 = .ok (.iload_n 3, 1) := by decide +kernel
theorem dX10_sumNextTo_4 : decode cX10_sumNextTo 4 = .ok (.ifCond .lt 21, 3) := by decide +kernel
theorem dX10_sumNextTo_7 : decode cX10_sumNextTo 7 = .ok (.iload_n 3, 1) := by decide +kernel
theorem dX10_sumNextTo_8 : decode cX10_sumNextTo 8 = .ok (.aload_n 0, 1) := by decide +kernel
theorem dX10_sumNextTo_9 : decode cX10_sumNextTo 9 = .ok (.getfield 15, 3) := by decide +kernel
theorem dX10_sumNextTo_12 : decode cX10_sumNextTo 12 = .ok (.arraylength, 1) := by decide +kernel
theorem dX10_sumNextTo_13 : decode cX10_sumNextTo 13 = .ok (.if_icmp .ge 12, 3) := by decide +kernel
theorem dX10_sumNextTo_16 : decode cX10_sumNextTo 16 = .ok (.aload_n 0, 1) := by decide +kernel
theorem dX10_sumNextTo_17 : decode cX10_sumNextTo 17 = .ok (.getfield 15, 3) := by decide +kernel
theorem dX10_sumNextTo_20 : decode cX10_sumNextTo 20 = .ok (.iload_n 3, 1) := by decide +kernel
theorem dX10_sumNextTo_21 : decode cX10_sumNextTo 21 = .ok (.iaload, 1) := by decide +kernel
theorem dX10_sumNextTo_22 : decode cX10_sumNextTo 22 = .ok (.goto 4, 3) := by decide +kernel
theorem dX10_sumNextTo_25 : decode cX10_sumNextTo 25 = .ok (.iconst 0, 1) := by decide +kernel
theorem dX10_sumNextTo_26 : decode cX10_sumNextTo 26 = .ok (.istore 5, 2) := by decide +kernel
theorem dX10_sumNextTo_28 : decode cX10_sumNextTo 28 = .ok (.iconst 0, 1) := by decide +kernel
theorem dX10_sumNextTo_29 : decode cX10_sumNextTo 29 = .ok (.istore 6, 2) := by decide +kernel
theorem dX10_sumNextTo_31 : decode cX10_sumNextTo 31 = .ok (.iload 6, 2) := by decide +kernel
theorem dX10_sumNextTo_33 : decode cX10_sumNextTo 33 = .ok (.aload_n 0, 1) := by decide +kernel
theorem dX10_sumNextTo_34 : decode cX10_sumNextTo 34 = .ok (.getfield 49, 3) := by decide +kernel
theorem dX10_sumNextTo_37 : decode cX10_sumNextTo 37 = .ok (.if_icmp .ge 49, 3) := by decide +kernel
theorem dX10_sumNextTo_40 : decode cX10_sumNextTo 40 = .ok (.iload_n 2, 1) := by decide +kernel
theorem dX10_sumNextTo_41 : decode cX10_sumNextTo 41 = .ok (.iconst 4, 1) := by decide +kernel
theorem dX10_sumNextTo_42 : decode cX10_sumNextTo 42 = .ok (.imul, 1) := by decide +kernel
theorem dX10_sumNextTo_43 : decode cX10_sumNextTo 43 = .ok (.iload 6, 2) := by decide +kernel
theorem dX10_sumNextTo_45 : decode cX10_sumNextTo 45 = .ok (.iadd, 1) := by decide +kernel
theorem dX10_sumNextTo_46 : decode cX10_sumNextTo 46 = .ok (.istore 7, 2) := by decide +kernel
theorem dX10_sumNextTo_48 : decode cX10_sumNextTo 48 = .ok (.iload 7, 2) := by decide +kernel
theorem dX10_sumNextTo_50 : decode cX10_sumNextTo 50 = .ok (.ifCond .lt 30, 3) := by decide +kernel
theorem dX10_sumNextTo_53 : decode cX10_sumNextTo 53 = .ok (.iload 7, 2) := by decide +kernel
theorem dX10_sumNextTo_55 : decode cX10_sumNextTo 55 = .ok (.aload_n 1, 1) := by decide +kernel
theorem dX10_sumNextTo_56 : decode cX10_sumNextTo 56 = .ok (.arraylength, 1) := by decide +kernel
theorem dX10_sumNextTo_57 : decode cX10_sumNextTo 57 = .ok (.if_icmp .ge 23, 3) := by decide +kernel
theorem dX10_sumNextTo_60 : decode cX10_sumNextTo 60 = .ok (.iload 5, 2) := by decide +kernel
theorem dX10_sumNextTo_62 : decode cX10_sumNextTo 62 = .ok (.iload 6, 2) := by decide +kernel
theorem dX10_sumNextTo_64 : decode cX10_sumNextTo 64 = .ok (.ishr, 1) := by decide +kernel
theorem dX10_sumNextTo_65 : decode cX10_sumNextTo 65 = .ok (.iconst 1, 1) := by decide +kernel
theorem dX10_sumNextTo_66 : decode cX10_sumNextTo 66 = .ok (.iand, 1) := by decide +kernel
theorem dX10_sumNextTo_67 : decode cX10_sumNextTo 67 = .ok (.iconst 1, 1) := by decide +kernel
theorem dX10_sumNextTo_68 : decode cX10_sumNextTo 68 = .ok (.if_icmp .ne 12, 3) := by decide +kernel
theorem dX10_sumNextTo_71 : decode cX10_sumNextTo 71 = .ok (.iload 4, 2) := by decide +kernel
theorem dX10_sumNextTo_73 : decode cX10_sumNextTo 73 = .ok (.aload_n 1, 1) := by decide +kernel
theorem dX10_sumNextTo_74 : decode cX10_sumNextTo 74 = .ok (.iload 7, 2) := by decide +kernel
theorem dX10_sumNextTo_76 : decode cX10_sumNextTo 76 = .ok (.iaload, 1) := by decide +kernel
theorem dX10_sumNextTo_77 : decode cX10_sumNextTo 77 = .ok (.iadd, 1) := by decide +kernel
theorem dX10_sumNextTo_78 : decode cX10_sumNextTo 78 = .ok (.istore 4, 2) := by decide +kernel
theorem dX10_sumNextTo_80 : decode cX10_sumNextTo 80 = .ok (.iinc 6 1, 3) := by decide +kernel
theorem dX10_sumNextTo_83 : decode cX10_sumNextTo 83 = .ok (.goto (-52), 3) := by decide +kernel
theorem dX10_sumNextTo_86 : decode cX10_sumNextTo 86 = .ok (.iload 4, 2) := by decide +kernel
theorem dX10_sumNextTo_88 : decode cX10_sumNextTo 88 = .ok (.ireturn, 1) := by decide +kernel
abbrev Pl_W_sumNextTo_57_31 (G : am_G) : ((Int32 × Int32 × Int32 × Int32 × am_St) ⊕ (Int32 × am_St)) → am_AQ → Prop := am_PL G M_W_sumNextTo 31 (fun s : Int32 × Int32 × Int32 × Int32 × am_St => [(6, .int s.2.2.2.1), (5, .int s.2.2.1), (4, .int s.2.1), (2, .int s.1), (1, .ref 57), (0, .ref 54)]) (fun s => s.2.2.2.2) am_Pi
noncomputable def g_W_sumNextTo_57_80 (x2 : Int32) (x4 : Int32) (x5 : Int32) (x6 : Int32) (σ : am_St) : Option ((Int32 × Int32 × Int32 × Int32 × am_St) ⊕ (Int32 × am_St)) :=
  let v1 := x6 + 1
  some (.inl (x2, x4, x5, v1, σ))
noncomputable def f_W_sumNextTo_57_80 (x2 : Int32) (x4 : Int32) (x5 : Int32) (x6 : Int32) (σ : am_St) : Option ((Int32 × Int32 × Int32 × Int32 × am_St) ⊕ (Int32 × am_St)) := am_lk (g_W_sumNextTo_57_80 x2 x4 x5 x6 σ)
theorem eq_W_sumNextTo_57_80 (x2 : Int32) (x4 : Int32) (x5 : Int32) (x6 : Int32) (σ : am_St) : f_W_sumNextTo_57_80 x2 x4 x5 x6 σ = g_W_sumNextTo_57_80 x2 x4 x5 x6 σ := am_lk_eq _
set_option maxRecDepth 100000 in
set_option maxHeartbeats 4000000 in
theorem s_W_sumNextTo_57_80 (G : am_G) (x2 : Int32) (x4 : Int32) (x5 : Int32) (x6 : Int32) (σ : am_St) (r : (Int32 × Int32 × Int32 × Int32 × am_St) ⊕ (Int32 × am_St)) (Q : am_AQ) (e : f_W_sumNextTo_57_80 x2 x4 x5 x6 σ = some r) (hr : (Pl_W_sumNextTo_57_31 G) r Q) : am_AW G M_W_sumNextTo 80 [(6, .int x6), (5, .int x5), (4, .int x4), (2, .int x2), (1, .ref 57), (0, .ref 54)] [] σ Q :=
  (show am_Snd G M_W_sumNextTo 80 (Pl_W_sumNextTo_57_31 G) _ from (sn_iinc (pc := 80) (v := 1) dX10_sumNextTo_80 rfl (Nat.le_of_ble_eq_true rfl) (sn_goto (pc := 83) (tgt := 31) dX10_sumNextTo_83 rfl (sn_lf (pc := 31) (ln_a (i := 0) (q := 54) (ln_a (i := 1) (q := 57) (ln_i (i := 2) (fun z0 => (ln_i (i := 4) (fun z1 => (ln_i (i := 5) (fun z2 => (ln_i (i := 6) (fun z3 => (ln_end (o := fun τ => (some (.inl (z0, z1, z2, z3, τ)) : Option ((Int32 × Int32 × Int32 × Int32 × am_St) ⊕ (Int32 × am_St)))) (fun _ _ _ e h => by cases e; exact h)))))))))))))))) _ _ _ _ _ ((eq_W_sumNextTo_57_80 x2 x4 x5 x6 σ).symm.trans e) hr
noncomputable def b_W_sumNextTo_57_31 (x2 : Int32) (x4 : Int32) (x5 : Int32) (x6 : Int32) (σ : am_St) : Option ((Int32 × Int32 × Int32 × Int32 × am_St) ⊕ (Int32 × am_St)) :=
  if (σ.1 54 5) ≤ x6 then
    some (.inr ((x4, σ)))
  else
    let v1 := (x2 * 4) + x6
    if v1 < 0 then
      f_W_sumNextTo_57_80 x2 x4 x5 x6 σ
    else
      if 24 ≤ v1 then
        f_W_sumNextTo_57_80 x2 x4 x5 x6 σ
      else
        if ((x5 >>> (x6 &&& 31)) &&& 1) = 1 then
          if am_ix v1 24 = true then
            let v2 := x4 + (σ.1 57 v1.toNatClampNeg)
            f_W_sumNextTo_57_80 x2 v2 x5 x6 σ
          else none
        else
          f_W_sumNextTo_57_80 x2 x4 x5 x6 σ
noncomputable def f_W_sumNextTo_57_31 (x2 : Int32) (x4 : Int32) (x5 : Int32) (x6 : Int32) (σ : am_St) : Option (Int32 × am_St) := am_lp (fun s : Int32 × Int32 × Int32 × Int32 × am_St => b_W_sumNextTo_57_31 s.1 s.2.1 s.2.2.1 s.2.2.2.1 s.2.2.2.2) (x2, x4, x5, x6, σ)
set_option maxRecDepth 100000 in
set_option maxHeartbeats 4000000 in
theorem sb_W_sumNextTo_57_31 (G : am_G) (x2 : Int32) (x4 : Int32) (x5 : Int32) (x6 : Int32) (σ : am_St) (r : (Int32 × Int32 × Int32 × Int32 × am_St) ⊕ (Int32 × am_St)) (Q : am_AQ) (e : b_W_sumNextTo_57_31 x2 x4 x5 x6 σ = some r) (hr : Pl_W_sumNextTo_57_31 G r Q) : am_AW G M_W_sumNextTo 31 [(6, .int x6), (5, .int x5), (4, .int x4), (2, .int x2), (1, .ref 57), (0, .ref 54)] [] σ Q :=
  (show am_Snd G M_W_sumNextTo 31 (Pl_W_sumNextTo_57_31 G) _ from (sn_iload (pc := 31) dX10_sumNextTo_31 (sn_aload_n (pc := 33) (i := 0) dX10_sumNextTo_33 rfl (sn_gI (pc := 34) (h := 54) (f := 5) dX10_sumNextTo_34 am_CL_9 sh_54 rfl (Nat.le_of_ble_eq_true rfl) tw_181 (sn_icmp_ge (pc := 37) (tgt := 86) dX10_sumNextTo_37 rfl (sn_iload (pc := 86) dX10_sumNextTo_86 (sn_reti (pc := 88) (R := fun x τ => (some (.inr ((x, τ))) : Option ((Int32 × Int32 × Int32 × Int32 × am_St) ⊕ (Int32 × am_St)))) dX10_sumNextTo_88 rfl (fun _ _ _ _ e h => by cases e; exact h))) (sn_iload_n (pc := 40) (i := 2) dX10_sumNextTo_40 rfl (sn_iconst (pc := 41) (v := 4) dX10_sumNextTo_41 rfl (sn_imul (pc := 42) dX10_sumNextTo_42 (sn_iload (pc := 43) dX10_sumNextTo_43 (sn_iadd (pc := 45) dX10_sumNextTo_45 (sn_istore (pc := 46) dX10_sumNextTo_46 (Nat.le_of_ble_eq_true rfl) (sn_iload (pc := 48) dX10_sumNextTo_48 (sn_if_lt (pc := 50) (tgt := 80) dX10_sumNextTo_50 rfl (sn_lf (pc := 80) (ln_a (i := 0) (q := 54) (ln_a (i := 1) (q := 57) (ln_i (i := 2) (fun z0 => (ln_i (i := 4) (fun z1 => (ln_i (i := 5) (fun z2 => (ln_i (i := 6) (fun z3 => (ln_end (o := fun τ => f_W_sumNextTo_57_80 z0 z1 z2 z3 τ) (fun _ _ _ e h => s_W_sumNextTo_57_80 G z0 z1 z2 z3 _ _ _ e h))))))))))))) (sn_iload (pc := 53) dX10_sumNextTo_53 (sn_aload_n (pc := 55) (i := 1) dX10_sumNextTo_55 rfl (sn_len (pc := 56) (h := 57) (v := 24) dX10_sumNextTo_56 sh_57 rfl (sn_icmp_ge (pc := 57) (tgt := 80) dX10_sumNextTo_57 rfl (sn_lf (pc := 80) (ln_a (i := 0) (q := 54) (ln_a (i := 1) (q := 57) (ln_i (i := 2) (fun z0 => (ln_i (i := 4) (fun z1 => (ln_i (i := 5) (fun z2 => (ln_i (i := 6) (fun z3 => (ln_end (o := fun τ => f_W_sumNextTo_57_80 z0 z1 z2 z3 τ) (fun _ _ _ e h => s_W_sumNextTo_57_80 G z0 z1 z2 z3 _ _ _ e h))))))))))))) (sn_iload (pc := 60) dX10_sumNextTo_60 (sn_iload (pc := 62) dX10_sumNextTo_62 (sn_ishr (pc := 64) dX10_sumNextTo_64 (sn_iconst (pc := 65) (v := 1) dX10_sumNextTo_65 rfl (sn_iand (pc := 66) dX10_sumNextTo_66 (sn_iconst (pc := 67) (v := 1) dX10_sumNextTo_67 rfl (sn_icmp_ne (pc := 68) (tgt := 80) dX10_sumNextTo_68 rfl (sn_lf (pc := 80) (ln_a (i := 0) (q := 54) (ln_a (i := 1) (q := 57) (ln_i (i := 2) (fun z0 => (ln_i (i := 4) (fun z1 => (ln_i (i := 5) (fun z2 => (ln_i (i := 6) (fun z3 => (ln_end (o := fun τ => f_W_sumNextTo_57_80 z0 z1 z2 z3 τ) (fun _ _ _ e h => s_W_sumNextTo_57_80 G z0 z1 z2 z3 _ _ _ e h))))))))))))) (sn_iload (pc := 71) dX10_sumNextTo_71 (sn_aload_n (pc := 73) (i := 1) dX10_sumNextTo_73 rfl (sn_iload (pc := 74) dX10_sumNextTo_74 (sn_aI (pc := 76) (h := 57) dX10_sumNextTo_76 sh_57 (sn_iadd (pc := 77) dX10_sumNextTo_77 (sn_istore (pc := 78) dX10_sumNextTo_78 (Nat.le_of_ble_eq_true rfl) (sn_lf (pc := 80) (ln_a (i := 0) (q := 54) (ln_a (i := 1) (q := 57) (ln_i (i := 2) (fun z0 => (ln_i (i := 4) (fun z1 => (ln_i (i := 5) (fun z2 => (ln_i (i := 6) (fun z3 => (ln_end (o := fun τ => f_W_sumNextTo_57_80 z0 z1 z2 z3 τ) (fun _ _ _ e h => s_W_sumNextTo_57_80 G z0 z1 z2 z3 _ _ _ e h))))))))))))))))))))))))))))))))))))))))))) _ _ _ _ _ e hr
theorem s_W_sumNextTo_57_31 (G : am_G) (x2 : Int32) (x4 : Int32) (x5 : Int32) (x6 : Int32) (σ : am_St) (r : Int32 × am_St) (Q : am_AQ) (e : f_W_sumNextTo_57_31 x2 x4 x5 x6 σ = some r) (hr : am_Pi r Q) : am_AW G M_W_sumNextTo 31 [(6, .int x6), (5, .int x5), (4, .int x4), (2, .int x2), (1, .ref 57), (0, .ref 54)] [] σ Q :=
  am_loop (P := am_Pi) (L := fun s : Int32 × Int32 × Int32 × Int32 × am_St => [(6, .int s.2.2.2.1), (5, .int s.2.2.1), (4, .int s.2.1), (2, .int s.1), (1, .ref 57), (0, .ref 54)]) (g := fun s => s.2.2.2.2) (fun s o Q e hr => sb_W_sumNextTo_57_31 G s.1 s.2.1 s.2.2.1 s.2.2.2.1 s.2.2.2.2 o Q e hr) (x2, x4, x5, x6, σ) r Q e hr
noncomputable def g_W_sumNextTo_57_26 (x2 : Int32) (x4 : Int32) (y0 : Int32) (σ : am_St) : Option (Int32 × am_St) :=
  f_W_sumNextTo_57_31 x2 x4 y0 0 σ
noncomputable def f_W_sumNextTo_57_26 (x2 : Int32) (x4 : Int32) (y0 : Int32) (σ : am_St) : Option (Int32 × am_St) := am_lk (g_W_sumNextTo_57_26 x2 x4 y0 σ)
theorem eq_W_sumNextTo_57_26 (x2 : Int32) (x4 : Int32) (y0 : Int32) (σ : am_St) : f_W_sumNextTo_57_26 x2 x4 y0 σ = g_W_sumNextTo_57_26 x2 x4 y0 σ := am_lk_eq _
set_option maxRecDepth 100000 in
set_option maxHeartbeats 4000000 in
theorem s_W_sumNextTo_57_26 (G : am_G) (x2 : Int32) (x4 : Int32) (y0 : Int32) (σ : am_St) (r : Int32 × am_St) (Q : am_AQ) (e : f_W_sumNextTo_57_26 x2 x4 y0 σ = some r) (hr : am_Pi r Q) : am_AW G M_W_sumNextTo 26 [(4, .int x4), (2, .int x2), (1, .ref 57), (0, .ref 54)] [.int y0] σ Q :=
  (show am_Snd G M_W_sumNextTo 26 am_Pi _ from (sn_istore (pc := 26) dX10_sumNextTo_26 (Nat.le_of_ble_eq_true rfl) (sn_iconst (pc := 28) (v := 0) dX10_sumNextTo_28 rfl (sn_istore (pc := 29) dX10_sumNextTo_29 (Nat.le_of_ble_eq_true rfl) (sn_lf (pc := 31) (ln_a (i := 0) (q := 54) (ln_a (i := 1) (q := 57) (ln_i (i := 2) (fun z0 => (ln_i (i := 4) (fun z1 => (ln_i (i := 5) (fun z2 => (ln_i (i := 6) (fun z3 => (ln_end (o := fun τ => f_W_sumNextTo_57_31 z0 z1 z2 z3 τ) (fun _ _ _ e h => s_W_sumNextTo_57_31 G z0 z1 z2 z3 _ _ _ e h))))))))))))))))) _ _ _ _ _ ((eq_W_sumNextTo_57_26 x2 x4 y0 σ).symm.trans e) hr
noncomputable def g_W_sumNextTo_57_25 (x2 : Int32) (x4 : Int32) (σ : am_St) : Option (Int32 × am_St) :=
  f_W_sumNextTo_57_26 x2 x4 0 σ
noncomputable def f_W_sumNextTo_57_25 (x2 : Int32) (x4 : Int32) (σ : am_St) : Option (Int32 × am_St) := am_lk (g_W_sumNextTo_57_25 x2 x4 σ)
theorem eq_W_sumNextTo_57_25 (x2 : Int32) (x4 : Int32) (σ : am_St) : f_W_sumNextTo_57_25 x2 x4 σ = g_W_sumNextTo_57_25 x2 x4 σ := am_lk_eq _
set_option maxRecDepth 100000 in
set_option maxHeartbeats 4000000 in
theorem s_W_sumNextTo_57_25 (G : am_G) (x2 : Int32) (x4 : Int32) (σ : am_St) (r : Int32 × am_St) (Q : am_AQ) (e : f_W_sumNextTo_57_25 x2 x4 σ = some r) (hr : am_Pi r Q) : am_AW G M_W_sumNextTo 25 [(4, .int x4), (2, .int x2), (1, .ref 57), (0, .ref 54)] [] σ Q :=
  (show am_Snd G M_W_sumNextTo 25 am_Pi _ from (sn_iconst (pc := 25) (v := 0) dX10_sumNextTo_25 rfl (sn_lf (pc := 26) (ln_a (i := 0) (q := 54) (ln_a (i := 1) (q := 57) (ln_i (i := 2) (fun z0 => (ln_i (i := 4) (fun z1 => (ln_si (fun w0 => (ln_end (o := fun τ => f_W_sumNextTo_57_26 z0 z1 w0 τ) (fun _ _ _ e h => s_W_sumNextTo_57_26 G z0 z1 w0 _ _ _ e h))))))))))))) _ _ _ _ _ ((eq_W_sumNextTo_57_25 x2 x4 σ).symm.trans e) hr
noncomputable def g_W_sumNextTo_57 (x2 : Int32) (x3 : Int32) (σ : am_St) : Option (Int32 × am_St) :=
  if x3 < 0 then
    f_W_sumNextTo_57_25 x2 0 σ
  else
    if 4 ≤ x3 then
      f_W_sumNextTo_57_25 x2 0 σ
    else
      if am_ix x3 4 = true then
        f_W_sumNextTo_57_26 x2 0 (σ.1 56 x3.toNatClampNeg) σ
      else none
noncomputable def f_W_sumNextTo_57 (x2 : Int32) (x3 : Int32) (σ : am_St) : Option (Int32 × am_St) := am_lk (g_W_sumNextTo_57 x2 x3 σ)
theorem eq_W_sumNextTo_57 (x2 : Int32) (x3 : Int32) (σ : am_St) : f_W_sumNextTo_57 x2 x3 σ = g_W_sumNextTo_57 x2 x3 σ := am_lk_eq _
set_option maxRecDepth 100000 in
set_option maxHeartbeats 4000000 in
theorem s_W_sumNextTo_57 (G : am_G) (x2 : Int32) (x3 : Int32) (σ : am_St) (r : Int32 × am_St) (Q : am_AQ) (e : f_W_sumNextTo_57 x2 x3 σ = some r) (hr : am_Pi r Q) : am_AW G M_W_sumNextTo 0 [(0, .ref 54), (1, .ref 57), (2, .int x2), (3, .int x3)] [] σ Q :=
  (show am_Snd G M_W_sumNextTo 0 am_Pi _ from (sn_iconst (pc := 0) (v := 0) dX10_sumNextTo_0 rfl (sn_istore (pc := 1) dX10_sumNextTo_1 (Nat.le_of_ble_eq_true rfl) (sn_iload_n (pc := 3) (i := 3) dX10_sumNextTo_3 rfl (sn_if_lt (pc := 4) (tgt := 25) dX10_sumNextTo_4 rfl (sn_lf (pc := 25) (ln_a (i := 0) (q := 54) (ln_a (i := 1) (q := 57) (ln_i (i := 2) (fun z0 => (ln_i (i := 4) (fun z1 => (ln_end (o := fun τ => f_W_sumNextTo_57_25 z0 z1 τ) (fun _ _ _ e h => s_W_sumNextTo_57_25 G z0 z1 _ _ _ e h))))))))) (sn_iload_n (pc := 7) (i := 3) dX10_sumNextTo_7 rfl (sn_aload_n (pc := 8) (i := 0) dX10_sumNextTo_8 rfl (sn_gR (r0 := 56) (pc := 9) (h := 54) (f := 1) dX10_sumNextTo_9 am_CL_9 sh_54 rfl (Nat.le_of_ble_eq_true rfl) tw_177 (sn_len (pc := 12) (h := 56) (v := 4) dX10_sumNextTo_12 sh_56 rfl (sn_icmp_ge (pc := 13) (tgt := 25) dX10_sumNextTo_13 rfl (sn_lf (pc := 25) (ln_a (i := 0) (q := 54) (ln_a (i := 1) (q := 57) (ln_i (i := 2) (fun z0 => (ln_i (i := 4) (fun z1 => (ln_end (o := fun τ => f_W_sumNextTo_57_25 z0 z1 τ) (fun _ _ _ e h => s_W_sumNextTo_57_25 G z0 z1 _ _ _ e h))))))))) (sn_aload_n (pc := 16) (i := 0) dX10_sumNextTo_16 rfl (sn_gR (r0 := 56) (pc := 17) (h := 54) (f := 1) dX10_sumNextTo_17 am_CL_9 sh_54 rfl (Nat.le_of_ble_eq_true rfl) tw_177 (sn_iload_n (pc := 20) (i := 3) dX10_sumNextTo_20 rfl (sn_aI (pc := 21) (h := 56) dX10_sumNextTo_21 sh_56 (sn_goto (pc := 22) (tgt := 26) dX10_sumNextTo_22 rfl (sn_lf (pc := 26) (ln_a (i := 0) (q := 54) (ln_a (i := 1) (q := 57) (ln_i (i := 2) (fun z0 => (ln_i (i := 4) (fun z1 => (ln_si (fun w0 => (ln_end (o := fun τ => f_W_sumNextTo_57_26 z0 z1 w0 τ) (fun _ _ _ e h => s_W_sumNextTo_57_26 G z0 z1 w0 _ _ _ e h)))))))))))))))))))))))))) _ _ _ _ _ ((eq_W_sumNextTo_57 x2 x3 σ).symm.trans e) hr
noncomputable def cF_W_sumNextTo_57 : am_Fn := fun _ args σ K => match args with
  | [.ref q0, .ref q1, .int z2, .int z3] => match Nat.beq q0 54, Nat.beq q1 57 with
    | true, true => (f_W_sumNextTo_57 z2 z3 σ).bind (fun p => K (some (.int p.1)) p.2)
    | _, _ => none
  | _ => none
theorem cal_W_sumNextTo_57 (G : am_G) : am_Cal G M_W_sumNextTo cF_W_sumNextTo_57 := by
  intro ρ args σ K r e
  unfold cF_W_sumNextTo_57 at e
  split at e
  · split at e
    · rename_i hq0 hq1
      obtain ⟨p, h1, h2⟩ := am_bind_some e
      rw [Nat.eq_of_beq_eq_true hq0]
      rw [Nat.eq_of_beq_eq_true hq1]
      exact ⟨some (.int p.1), p.2, am_Met.of rfl (Nat.le_of_ble_eq_true rfl) (s_W_sumNextTo_57 G _ _ σ p _ h1 ⟨rfl, rfl⟩), h2⟩
    · cases e
  · cases e
abbrev M_W_sum : am_MD := (yX10_sum, cX10_sum, 8, none, 1, 27)
theorem dX10_sum_0 : decode cX10_sum 0 = .ok (.iconst 0, 1) := by decide +kernel
theorem dX10_sum_1 : decode cX10_sum 1 = .ok (.istore 4, 2) := by decide +kernel
theorem dX10_sum_3 : decode cX10_sum 3 = .ok (.iload 4, 2) := by decide +kernel
theorem dX10_sum_5 : decode cX10_sum 5 = .ok (.aload_n 0, 1) := by decide +kernel
theorem dX10_sum_6 : decode cX10_sum 6 = .ok (.getfield 36, 3) := by decide +kernel
theorem dX10_sum_9 : decode cX10_sum 9 = .ok (.if_icmp .ge 109, 3) := by decide +kernel
theorem dX10_sum_12 : decode cX10_sum 12 = .ok (.iload_n 2, 1) := by decide +kernel
theorem dX10_sum_13 : decode cX10_sum 13 = .ok (.iload 4, 2) := by decide +kernel
theorem dX10_sum_15 : decode cX10_sum 15 = .ok (.iload_n 3, 1) := by decide +kernel
theorem dX10_sum_16 : decode cX10_sum 16 = .ok (.imul, 1) := by decide +kernel
theorem dX10_sum_17 : decode cX10_sum 17 = .ok (.iadd, 1) := by decide +kernel
theorem dX10_sum_18 : decode cX10_sum 18 = .ok (.istore 5, 2) := by decide +kernel
theorem dX10_sum_20 : decode cX10_sum 20 = .ok (.iconst 0, 1) := by decide +kernel
theorem dX10_sum_21 : decode cX10_sum 21 = .ok (.istore 6, 2) := by decide +kernel
theorem dX10_sum_23 : decode cX10_sum 23 = .ok (.iload 6, 2) := by decide +kernel
theorem dX10_sum_25 : decode cX10_sum 25 = .ok (.aload_n 0, 1) := by decide +kernel
theorem dX10_sum_26 : decode cX10_sum 26 = .ok (.getfield 49, 3) := by decide +kernel
theorem dX10_sum_29 : decode cX10_sum 29 = .ok (.if_icmp .ge 83, 3) := by decide +kernel
theorem dX10_sum_32 : decode cX10_sum 32 = .ok (.iload 5, 2) := by decide +kernel
theorem dX10_sum_34 : decode cX10_sum 34 = .ok (.iconst 4, 1) := by decide +kernel
theorem dX10_sum_35 : decode cX10_sum 35 = .ok (.imul, 1) := by decide +kernel
theorem dX10_sum_36 : decode cX10_sum 36 = .ok (.iload 6, 2) := by decide +kernel
theorem dX10_sum_38 : decode cX10_sum 38 = .ok (.iadd, 1) := by decide +kernel
theorem dX10_sum_39 : decode cX10_sum 39 = .ok (.istore 7, 2) := by decide +kernel
theorem dX10_sum_41 : decode cX10_sum 41 = .ok (.iload 5, 2) := by decide +kernel
theorem dX10_sum_43 : decode cX10_sum 43 = .ok (.ifCond .lt 63, 3) := by decide +kernel
theorem dX10_sum_46 : decode cX10_sum 46 = .ok (.iload 5, 2) := by decide +kernel
theorem dX10_sum_48 : decode cX10_sum 48 = .ok (.aload_n 0, 1) := by decide +kernel
theorem dX10_sum_49 : decode cX10_sum 49 = .ok (.getfield 9, 3) := by decide +kernel
theorem dX10_sum_52 : decode cX10_sum 52 = .ok (.arraylength, 1) := by decide +kernel
theorem dX10_sum_53 : decode cX10_sum 53 = .ok (.if_icmp .ge 53, 3) := by decide +kernel
theorem dX10_sum_56 : decode cX10_sum 56 = .ok (.iload 7, 2) := by decide +kernel
theorem dX10_sum_58 : decode cX10_sum 58 = .ok (.aload_n 1, 1) := by decide +kernel
theorem dX10_sum_59 : decode cX10_sum 59 = .ok (.arraylength, 1) := by decide +kernel
theorem dX10_sum_60 : decode cX10_sum 60 = .ok (.if_icmp .ge 46, 3) := by decide +kernel
theorem dX10_sum_63 : decode cX10_sum 63 = .ok (.aload_n 1, 1) := by decide +kernel
theorem dX10_sum_64 : decode cX10_sum 64 = .ok (.iload 7, 2) := by decide +kernel
theorem dX10_sum_66 : decode cX10_sum 66 = .ok (.iload 4, 2) := by decide +kernel
theorem dX10_sum_68 : decode cX10_sum 68 = .ok (.ifCond .ne 7, 3) := by decide +kernel
theorem dX10_sum_71 : decode cX10_sum 71 = .ok (.iconst 1, 1) := by decide +kernel
theorem dX10_sum_72 : decode cX10_sum 72 = .ok (.goto 14, 3) := by decide +kernel
theorem dX10_sum_75 : decode cX10_sum 75 = .ok (.aload_n 0, 1) := by decide +kernel
theorem dX10_sum_76 : decode cX10_sum 76 = .ok (.aload_n 1, 1) := by decide +kernel
theorem dX10_sum_77 : decode cX10_sum 77 = .ok (.iload 5, 2) := by decide +kernel
theorem dX10_sum_79 : decode cX10_sum 79 = .ok (.iload_n 3, 1) := by decide +kernel
theorem dX10_sum_80 : decode cX10_sum 80 = .ok (.isub, 1) := by decide +kernel
theorem dX10_sum_81 : decode cX10_sum 81 = .ok (.iload 6, 2) := by decide +kernel
theorem dX10_sum_83 : decode cX10_sum 83 = .ok (.invokevirtual 83, 3) := by decide +kernel
theorem dX10_sum_86 : decode cX10_sum 86 = .ok (.iastore, 1) := by decide +kernel
theorem dX10_sum_87 : decode cX10_sum 87 = .ok (.aload_n 1, 1) := by decide +kernel
theorem dX10_sum_88 : decode cX10_sum 88 = .ok (.iload 7, 2) := by decide +kernel
theorem dX10_sum_90 : decode cX10_sum 90 = .ok (.dup2, 1) := by decide +kernel
theorem dX10_sum_91 : decode cX10_sum 91 = .ok (.iaload, 1) := by decide +kernel
theorem dX10_sum_92 : decode cX10_sum 92 = .ok (.aload_n 0, 1) := by decide +kernel
theorem dX10_sum_93 : decode cX10_sum 93 = .ok (.getfield 9, 3) := by decide +kernel
theorem dX10_sum_96 : decode cX10_sum 96 = .ok (.iload 5, 2) := by decide +kernel
theorem dX10_sum_98 : decode cX10_sum 98 = .ok (.iaload, 1) := by decide +kernel
theorem dX10_sum_99 : decode cX10_sum 99 = .ok (.iload 6, 2) := by decide +kernel
theorem dX10_sum_101 : decode cX10_sum 101 = .ok (.ishr, 1) := by decide +kernel
theorem dX10_sum_102 : decode cX10_sum 102 = .ok (.iconst 1, 1) := by decide +kernel
theorem dX10_sum_103 : decode cX10_sum 103 = .ok (.iand, 1) := by decide +kernel
theorem dX10_sum_104 : decode cX10_sum 104 = .ok (.imul, 1) := by decide +kernel
theorem dX10_sum_105 : decode cX10_sum 105 = .ok (.iastore, 1) := by decide +kernel
theorem dX10_sum_106 : decode cX10_sum 106 = .ok (.iinc 6 1, 3) := by decide +kernel
theorem dX10_sum_109 : decode cX10_sum 109 = .ok (.goto (-86), 3) := by decide +kernel
theorem dX10_sum_112 : decode cX10_sum 112 = .ok (.iinc 4 1, 3) := by decide +kernel
theorem dX10_sum_115 : decode cX10_sum 115 = .ok (.goto (-112), 3) := by decide +kernel
theorem dX10_sum_118 : decode cX10_sum 118 = .ok (.return_, 1) := by decide +kernel
abbrev Pl_W_sum_57_3 (G : am_G) : ((Int32 × Int32 × Int32 × am_St) ⊕ (am_St)) → am_AQ → Prop := am_PL G M_W_sum 3 (fun s : Int32 × Int32 × Int32 × am_St => [(4, .int s.2.2.1), (3, .int s.2.1), (2, .int s.1), (1, .ref 57), (0, .ref 54)]) (fun s => s.2.2.2) am_Pv
abbrev Pl_W_sum_57_23 (G : am_G) : ((Int32 × Int32 × Int32 × Int32 × Int32 × am_St) ⊕ ((Int32 × Int32 × Int32 × am_St) ⊕ (am_St))) → am_AQ → Prop := am_PL G M_W_sum 23 (fun s : Int32 × Int32 × Int32 × Int32 × Int32 × am_St => [(6, .int s.2.2.2.2.1), (5, .int s.2.2.2.1), (4, .int s.2.2.1), (3, .int s.2.1), (2, .int s.1), (1, .ref 57), (0, .ref 54)]) (fun s => s.2.2.2.2.2) (Pl_W_sum_57_3 G)
noncomputable def g_W_sum_57_106 (x2 : Int32) (x3 : Int32) (x4 : Int32) (x5 : Int32) (x6 : Int32) (σ : am_St) : Option ((Int32 × Int32 × Int32 × Int32 × Int32 × am_St) ⊕ ((Int32 × Int32 × Int32 × am_St) ⊕ (am_St))) :=
  let v1 := x6 + 1
  some (.inl (x2, x3, x4, x5, v1, σ))
noncomputable def f_W_sum_57_106 (x2 : Int32) (x3 : Int32) (x4 : Int32) (x5 : Int32) (x6 : Int32) (σ : am_St) : Option ((Int32 × Int32 × Int32 × Int32 × Int32 × am_St) ⊕ ((Int32 × Int32 × Int32 × am_St) ⊕ (am_St))) := am_lk (g_W_sum_57_106 x2 x3 x4 x5 x6 σ)
theorem eq_W_sum_57_106 (x2 : Int32) (x3 : Int32) (x4 : Int32) (x5 : Int32) (x6 : Int32) (σ : am_St) : f_W_sum_57_106 x2 x3 x4 x5 x6 σ = g_W_sum_57_106 x2 x3 x4 x5 x6 σ := am_lk_eq _
set_option maxRecDepth 100000 in
set_option maxHeartbeats 4000000 in
theorem s_W_sum_57_106 (G : am_G) (x2 : Int32) (x3 : Int32) (x4 : Int32) (x5 : Int32) (x6 : Int32) (σ : am_St) (r : (Int32 × Int32 × Int32 × Int32 × Int32 × am_St) ⊕ ((Int32 × Int32 × Int32 × am_St) ⊕ (am_St))) (Q : am_AQ) (e : f_W_sum_57_106 x2 x3 x4 x5 x6 σ = some r) (hr : (Pl_W_sum_57_23 G) r Q) : am_AW G M_W_sum 106 [(6, .int x6), (5, .int x5), (4, .int x4), (3, .int x3), (2, .int x2), (1, .ref 57), (0, .ref 54)] [] σ Q :=
  (show am_Snd G M_W_sum 106 (Pl_W_sum_57_23 G) _ from (sn_iinc (pc := 106) (v := 1) dX10_sum_106 rfl (Nat.le_of_ble_eq_true rfl) (sn_goto (pc := 109) (tgt := 23) dX10_sum_109 rfl (sn_lf (pc := 23) (ln_a (i := 0) (q := 54) (ln_a (i := 1) (q := 57) (ln_i (i := 2) (fun z0 => (ln_i (i := 3) (fun z1 => (ln_i (i := 4) (fun z2 => (ln_i (i := 5) (fun z3 => (ln_i (i := 6) (fun z4 => (ln_end (o := fun τ => (some (.inl (z0, z1, z2, z3, z4, τ)) : Option ((Int32 × Int32 × Int32 × Int32 × Int32 × am_St) ⊕ ((Int32 × Int32 × Int32 × am_St) ⊕ (am_St))))) (fun _ _ _ e h => by cases e; exact h)))))))))))))))))) _ _ _ _ _ ((eq_W_sum_57_106 x2 x3 x4 x5 x6 σ).symm.trans e) hr
noncomputable def g_W_sum_57_86 (x2 : Int32) (x3 : Int32) (x4 : Int32) (x5 : Int32) (x6 : Int32) (x7 : Int32) (y1 : Int32) (y2 : Int32) (σ : am_St) : Option ((Int32 × Int32 × Int32 × Int32 × Int32 × am_St) ⊕ ((Int32 × Int32 × Int32 × am_St) ⊕ (am_St))) :=
  if am_ix y1 24 = true then
    let s1 := am_sI σ 57 y1.toNatClampNeg y2
    if am_ix x7 24 = true then
      if am_ix x5 6 = true then
        if am_ix x7 24 = true then
          let s2 := am_sI s1 57 x7.toNatClampNeg ((s1.1 57 x7.toNatClampNeg) * (((s1.1 55 x5.toNatClampNeg) >>> (x6 &&& 31)) &&& 1))
          f_W_sum_57_106 x2 x3 x4 x5 x6 s2
        else none
      else none
    else none
  else none
noncomputable def f_W_sum_57_86 (x2 : Int32) (x3 : Int32) (x4 : Int32) (x5 : Int32) (x6 : Int32) (x7 : Int32) (y1 : Int32) (y2 : Int32) (σ : am_St) : Option ((Int32 × Int32 × Int32 × Int32 × Int32 × am_St) ⊕ ((Int32 × Int32 × Int32 × am_St) ⊕ (am_St))) := am_lk (g_W_sum_57_86 x2 x3 x4 x5 x6 x7 y1 y2 σ)
theorem eq_W_sum_57_86 (x2 : Int32) (x3 : Int32) (x4 : Int32) (x5 : Int32) (x6 : Int32) (x7 : Int32) (y1 : Int32) (y2 : Int32) (σ : am_St) : f_W_sum_57_86 x2 x3 x4 x5 x6 x7 y1 y2 σ = g_W_sum_57_86 x2 x3 x4 x5 x6 x7 y1 y2 σ := am_lk_eq _
set_option maxRecDepth 100000 in
set_option maxHeartbeats 4000000 in
theorem s_W_sum_57_86 (G : am_G) (x2 : Int32) (x3 : Int32) (x4 : Int32) (x5 : Int32) (x6 : Int32) (x7 : Int32) (y1 : Int32) (y2 : Int32) (σ : am_St) (r : (Int32 × Int32 × Int32 × Int32 × Int32 × am_St) ⊕ ((Int32 × Int32 × Int32 × am_St) ⊕ (am_St))) (Q : am_AQ) (e : f_W_sum_57_86 x2 x3 x4 x5 x6 x7 y1 y2 σ = some r) (hr : (Pl_W_sum_57_23 G) r Q) : am_AW G M_W_sum 86 [(7, .int x7), (6, .int x6), (5, .int x5), (4, .int x4), (3, .int x3), (2, .int x2), (1, .ref 57), (0, .ref 54)] [.int y2, .int y1, .ref 57] σ Q :=
  (show am_Snd G M_W_sum 86 (Pl_W_sum_57_23 G) _ from (sn_sI (pc := 86) (h := 57) dX10_sum_86 sh_57 (sn_aload_n (pc := 87) (i := 1) dX10_sum_87 rfl (sn_iload (pc := 88) dX10_sum_88 (sn_dup2 (pc := 90) dX10_sum_90 (sn_aI (pc := 91) (h := 57) dX10_sum_91 sh_57 (sn_aload_n (pc := 92) (i := 0) dX10_sum_92 rfl (sn_gR (r0 := 55) (pc := 93) (h := 54) (f := 0) dX10_sum_93 am_CL_9 sh_54 rfl (Nat.le_of_ble_eq_true rfl) tw_176 (sn_iload (pc := 96) dX10_sum_96 (sn_aI (pc := 98) (h := 55) dX10_sum_98 sh_55 (sn_iload (pc := 99) dX10_sum_99 (sn_ishr (pc := 101) dX10_sum_101 (sn_iconst (pc := 102) (v := 1) dX10_sum_102 rfl (sn_iand (pc := 103) dX10_sum_103 (sn_imul (pc := 104) dX10_sum_104 (sn_sI (pc := 105) (h := 57) dX10_sum_105 sh_57 (sn_lf (pc := 106) (ln_a (i := 0) (q := 54) (ln_a (i := 1) (q := 57) (ln_i (i := 2) (fun z0 => (ln_i (i := 3) (fun z1 => (ln_i (i := 4) (fun z2 => (ln_i (i := 5) (fun z3 => (ln_i (i := 6) (fun z4 => (ln_end (o := fun τ => f_W_sum_57_106 z0 z1 z2 z3 z4 τ) (fun _ _ _ e h => s_W_sum_57_106 G z0 z1 z2 z3 z4 _ _ _ e h))))))))))))))))))))))))))))))) _ _ _ _ _ ((eq_W_sum_57_86 x2 x3 x4 x5 x6 x7 y1 y2 σ).symm.trans e) hr
noncomputable def b_W_sum_57_23 (x2 : Int32) (x3 : Int32) (x4 : Int32) (x5 : Int32) (x6 : Int32) (σ : am_St) : Option ((Int32 × Int32 × Int32 × Int32 × Int32 × am_St) ⊕ ((Int32 × Int32 × Int32 × am_St) ⊕ (am_St))) :=
  if (σ.1 54 5) ≤ x6 then
    let v1 := x4 + 1
    some (.inr (.inl (x2, x3, v1, σ)))
  else
    let v2 := (x5 * 4) + x6
    if x5 < 0 then
      f_W_sum_57_106 x2 x3 x4 x5 x6 σ
    else
      if 6 ≤ x5 then
        f_W_sum_57_106 x2 x3 x4 x5 x6 σ
      else
        if 24 ≤ v2 then
          f_W_sum_57_106 x2 x3 x4 x5 x6 σ
        else
          if x4 = 0 then
            f_W_sum_57_86 x2 x3 x4 x5 x6 v2 v2 1 σ
          else
            (f_W_sumNextTo_57 (x5 - x3) x6 σ).bind (fun p3 =>
              f_W_sum_57_86 x2 x3 x4 x5 x6 v2 v2 p3.1 p3.2)
noncomputable def f_W_sum_57_23 (x2 : Int32) (x3 : Int32) (x4 : Int32) (x5 : Int32) (x6 : Int32) (σ : am_St) : Option ((Int32 × Int32 × Int32 × am_St) ⊕ (am_St)) := am_lp (fun s : Int32 × Int32 × Int32 × Int32 × Int32 × am_St => b_W_sum_57_23 s.1 s.2.1 s.2.2.1 s.2.2.2.1 s.2.2.2.2.1 s.2.2.2.2.2) (x2, x3, x4, x5, x6, σ)
set_option maxRecDepth 100000 in
set_option maxHeartbeats 4000000 in
theorem sb_W_sum_57_23 (G : am_G) (x2 : Int32) (x3 : Int32) (x4 : Int32) (x5 : Int32) (x6 : Int32) (σ : am_St) (r : (Int32 × Int32 × Int32 × Int32 × Int32 × am_St) ⊕ ((Int32 × Int32 × Int32 × am_St) ⊕ (am_St))) (Q : am_AQ) (e : b_W_sum_57_23 x2 x3 x4 x5 x6 σ = some r) (hr : Pl_W_sum_57_23 G r Q) : am_AW G M_W_sum 23 [(6, .int x6), (5, .int x5), (4, .int x4), (3, .int x3), (2, .int x2), (1, .ref 57), (0, .ref 54)] [] σ Q :=
  (show am_Snd G M_W_sum 23 (Pl_W_sum_57_23 G) _ from (sn_iload (pc := 23) dX10_sum_23 (sn_aload_n (pc := 25) (i := 0) dX10_sum_25 rfl (sn_gI (pc := 26) (h := 54) (f := 5) dX10_sum_26 am_CL_9 sh_54 rfl (Nat.le_of_ble_eq_true rfl) tw_181 (sn_icmp_ge (pc := 29) (tgt := 112) dX10_sum_29 rfl (sn_iinc (pc := 112) (v := 1) dX10_sum_112 rfl (Nat.le_of_ble_eq_true rfl) (sn_goto (pc := 115) (tgt := 3) dX10_sum_115 rfl (sn_lf (pc := 3) (ln_a (i := 0) (q := 54) (ln_a (i := 1) (q := 57) (ln_i (i := 2) (fun z0 => (ln_i (i := 3) (fun z1 => (ln_i (i := 4) (fun z2 => (ln_end (o := fun τ => (some (.inr (.inl (z0, z1, z2, τ))) : Option ((Int32 × Int32 × Int32 × Int32 × Int32 × am_St) ⊕ ((Int32 × Int32 × Int32 × am_St) ⊕ (am_St))))) (fun _ _ _ e h => by cases e; exact h))))))))))))) (sn_iload (pc := 32) dX10_sum_32 (sn_iconst (pc := 34) (v := 4) dX10_sum_34 rfl (sn_imul (pc := 35) dX10_sum_35 (sn_iload (pc := 36) dX10_sum_36 (sn_iadd (pc := 38) dX10_sum_38 (sn_istore (pc := 39) dX10_sum_39 (Nat.le_of_ble_eq_true rfl) (sn_iload (pc := 41) dX10_sum_41 (sn_if_lt (pc := 43) (tgt := 106) dX10_sum_43 rfl (sn_lf (pc := 106) (ln_a (i := 0) (q := 54) (ln_a (i := 1) (q := 57) (ln_i (i := 2) (fun z0 => (ln_i (i := 3) (fun z1 => (ln_i (i := 4) (fun z2 => (ln_i (i := 5) (fun z3 => (ln_i (i := 6) (fun z4 => (ln_end (o := fun τ => f_W_sum_57_106 z0 z1 z2 z3 z4 τ) (fun _ _ _ e h => s_W_sum_57_106 G z0 z1 z2 z3 z4 _ _ _ e h))))))))))))))) (sn_iload (pc := 46) dX10_sum_46 (sn_aload_n (pc := 48) (i := 0) dX10_sum_48 rfl (sn_gR (r0 := 55) (pc := 49) (h := 54) (f := 0) dX10_sum_49 am_CL_9 sh_54 rfl (Nat.le_of_ble_eq_true rfl) tw_176 (sn_len (pc := 52) (h := 55) (v := 6) dX10_sum_52 sh_55 rfl (sn_icmp_ge (pc := 53) (tgt := 106) dX10_sum_53 rfl (sn_lf (pc := 106) (ln_a (i := 0) (q := 54) (ln_a (i := 1) (q := 57) (ln_i (i := 2) (fun z0 => (ln_i (i := 3) (fun z1 => (ln_i (i := 4) (fun z2 => (ln_i (i := 5) (fun z3 => (ln_i (i := 6) (fun z4 => (ln_end (o := fun τ => f_W_sum_57_106 z0 z1 z2 z3 z4 τ) (fun _ _ _ e h => s_W_sum_57_106 G z0 z1 z2 z3 z4 _ _ _ e h))))))))))))))) (sn_iload (pc := 56) dX10_sum_56 (sn_aload_n (pc := 58) (i := 1) dX10_sum_58 rfl (sn_len (pc := 59) (h := 57) (v := 24) dX10_sum_59 sh_57 rfl (sn_icmp_ge (pc := 60) (tgt := 106) dX10_sum_60 rfl (sn_lf (pc := 106) (ln_a (i := 0) (q := 54) (ln_a (i := 1) (q := 57) (ln_i (i := 2) (fun z0 => (ln_i (i := 3) (fun z1 => (ln_i (i := 4) (fun z2 => (ln_i (i := 5) (fun z3 => (ln_i (i := 6) (fun z4 => (ln_end (o := fun τ => f_W_sum_57_106 z0 z1 z2 z3 z4 τ) (fun _ _ _ e h => s_W_sum_57_106 G z0 z1 z2 z3 z4 _ _ _ e h))))))))))))))) (sn_aload_n (pc := 63) (i := 1) dX10_sum_63 rfl (sn_iload (pc := 64) dX10_sum_64 (sn_iload (pc := 66) dX10_sum_66 (sn_if_ne (pc := 68) (tgt := 75) dX10_sum_68 rfl (sn_aload_n (pc := 75) (i := 0) dX10_sum_75 rfl (sn_aload_n (pc := 76) (i := 1) dX10_sum_76 rfl (sn_iload (pc := 77) dX10_sum_77 (sn_iload_n (pc := 79) (i := 3) dX10_sum_79 rfl (sn_isub (pc := 80) dX10_sum_80 (sn_iload (pc := 81) dX10_sum_81 (sn_callV (pc := 83) (N := M_W_sumNextTo) dX10_sum_83 (cal_W_sumNextTo_57 G) sh_54 rfl tw_368 tw_370 tp_11 tw_10 tw_371 dsc_X10_sumNextTo rfl (sn_lf (pc := 86) (ln_a (i := 0) (q := 54) (ln_a (i := 1) (q := 57) (ln_i (i := 2) (fun z0 => (ln_i (i := 3) (fun z1 => (ln_i (i := 4) (fun z2 => (ln_i (i := 5) (fun z3 => (ln_i (i := 6) (fun z4 => (ln_i (i := 7) (fun z5 => (ln_si (fun w2 => (ln_si (fun w1 => (ln_sa (q := 57) (ln_end (o := fun τ => f_W_sum_57_86 z0 z1 z2 z3 z4 z5 w1 w2 τ) (fun _ _ _ e h => s_W_sum_57_86 G z0 z1 z2 z3 z4 z5 w1 w2 _ _ _ e h))))))))))))))))))))))))))))) (sn_iconst (pc := 71) (v := 1) dX10_sum_71 rfl (sn_goto (pc := 72) (tgt := 86) dX10_sum_72 rfl (sn_lf (pc := 86) (ln_a (i := 0) (q := 54) (ln_a (i := 1) (q := 57) (ln_i (i := 2) (fun z0 => (ln_i (i := 3) (fun z1 => (ln_i (i := 4) (fun z2 => (ln_i (i := 5) (fun z3 => (ln_i (i := 6) (fun z4 => (ln_i (i := 7) (fun z5 => (ln_si (fun w2 => (ln_si (fun w1 => (ln_sa (q := 57) (ln_end (o := fun τ => f_W_sum_57_86 z0 z1 z2 z3 z4 z5 w1 w2 τ) (fun _ _ _ e h => s_W_sum_57_86 G z0 z1 z2 z3 z4 z5 w1 w2 _ _ _ e h)))))))))))))))))))))))))))))))))))))))))))))))))) _ _ _ _ _ e hr
theorem s_W_sum_57_23 (G : am_G) (x2 : Int32) (x3 : Int32) (x4 : Int32) (x5 : Int32) (x6 : Int32) (σ : am_St) (r : (Int32 × Int32 × Int32 × am_St) ⊕ (am_St)) (Q : am_AQ) (e : f_W_sum_57_23 x2 x3 x4 x5 x6 σ = some r) (hr : (Pl_W_sum_57_3 G) r Q) : am_AW G M_W_sum 23 [(6, .int x6), (5, .int x5), (4, .int x4), (3, .int x3), (2, .int x2), (1, .ref 57), (0, .ref 54)] [] σ Q :=
  am_loop (P := (Pl_W_sum_57_3 G)) (L := fun s : Int32 × Int32 × Int32 × Int32 × Int32 × am_St => [(6, .int s.2.2.2.2.1), (5, .int s.2.2.2.1), (4, .int s.2.2.1), (3, .int s.2.1), (2, .int s.1), (1, .ref 57), (0, .ref 54)]) (g := fun s => s.2.2.2.2.2) (fun s o Q e hr => sb_W_sum_57_23 G s.1 s.2.1 s.2.2.1 s.2.2.2.1 s.2.2.2.2.1 s.2.2.2.2.2 o Q e hr) (x2, x3, x4, x5, x6, σ) r Q e hr
noncomputable def b_W_sum_57_3 (x2 : Int32) (x3 : Int32) (x4 : Int32) (σ : am_St) : Option ((Int32 × Int32 × Int32 × am_St) ⊕ (am_St)) :=
  if (σ.1 54 6) ≤ x4 then
    some (.inr (σ))
  else
    let v1 := x2 + (x4 * x3)
    f_W_sum_57_23 x2 x3 x4 v1 0 σ
noncomputable def f_W_sum_57_3 (x2 : Int32) (x3 : Int32) (x4 : Int32) (σ : am_St) : Option (am_St) := am_lp (fun s : Int32 × Int32 × Int32 × am_St => b_W_sum_57_3 s.1 s.2.1 s.2.2.1 s.2.2.2) (x2, x3, x4, σ)
set_option maxRecDepth 100000 in
set_option maxHeartbeats 4000000 in
theorem sb_W_sum_57_3 (G : am_G) (x2 : Int32) (x3 : Int32) (x4 : Int32) (σ : am_St) (r : (Int32 × Int32 × Int32 × am_St) ⊕ (am_St)) (Q : am_AQ) (e : b_W_sum_57_3 x2 x3 x4 σ = some r) (hr : Pl_W_sum_57_3 G r Q) : am_AW G M_W_sum 3 [(4, .int x4), (3, .int x3), (2, .int x2), (1, .ref 57), (0, .ref 54)] [] σ Q :=
  (show am_Snd G M_W_sum 3 (Pl_W_sum_57_3 G) _ from (sn_iload (pc := 3) dX10_sum_3 (sn_aload_n (pc := 5) (i := 0) dX10_sum_5 rfl (sn_gI (pc := 6) (h := 54) (f := 6) dX10_sum_6 am_CL_9 sh_54 rfl (Nat.le_of_ble_eq_true rfl) tw_182 (sn_icmp_ge (pc := 9) (tgt := 118) dX10_sum_9 rfl (sn_retv (pc := 118) (R := fun τ => (some (.inr (τ)) : Option ((Int32 × Int32 × Int32 × am_St) ⊕ (am_St)))) dX10_sum_118 rfl (fun _ _ _ e h => by cases e; exact h)) (sn_iload_n (pc := 12) (i := 2) dX10_sum_12 rfl (sn_iload (pc := 13) dX10_sum_13 (sn_iload_n (pc := 15) (i := 3) dX10_sum_15 rfl (sn_imul (pc := 16) dX10_sum_16 (sn_iadd (pc := 17) dX10_sum_17 (sn_istore (pc := 18) dX10_sum_18 (Nat.le_of_ble_eq_true rfl) (sn_iconst (pc := 20) (v := 0) dX10_sum_20 rfl (sn_istore (pc := 21) dX10_sum_21 (Nat.le_of_ble_eq_true rfl) (sn_lf (pc := 23) (ln_a (i := 0) (q := 54) (ln_a (i := 1) (q := 57) (ln_i (i := 2) (fun z0 => (ln_i (i := 3) (fun z1 => (ln_i (i := 4) (fun z2 => (ln_i (i := 5) (fun z3 => (ln_i (i := 6) (fun z4 => (ln_end (o := fun τ => f_W_sum_57_23 z0 z1 z2 z3 z4 τ) (fun _ _ _ e h => s_W_sum_57_23 G z0 z1 z2 z3 z4 _ _ _ e h)))))))))))))))))))))))))))) _ _ _ _ _ e hr
theorem s_W_sum_57_3 (G : am_G) (x2 : Int32) (x3 : Int32) (x4 : Int32) (σ : am_St) (r : am_St) (Q : am_AQ) (e : f_W_sum_57_3 x2 x3 x4 σ = some r) (hr : am_Pv r Q) : am_AW G M_W_sum 3 [(4, .int x4), (3, .int x3), (2, .int x2), (1, .ref 57), (0, .ref 54)] [] σ Q :=
  am_loop (P := am_Pv) (L := fun s : Int32 × Int32 × Int32 × am_St => [(4, .int s.2.2.1), (3, .int s.2.1), (2, .int s.1), (1, .ref 57), (0, .ref 54)]) (g := fun s => s.2.2.2) (fun s o Q e hr => sb_W_sum_57_3 G s.1 s.2.1 s.2.2.1 s.2.2.2 o Q e hr) (x2, x3, x4, σ) r Q e hr
noncomputable def g_W_sum_57 (x2 : Int32) (x3 : Int32) (σ : am_St) : Option (am_St) :=
  f_W_sum_57_3 x2 x3 0 σ
noncomputable def f_W_sum_57 (x2 : Int32) (x3 : Int32) (σ : am_St) : Option (am_St) := am_lk (g_W_sum_57 x2 x3 σ)
theorem eq_W_sum_57 (x2 : Int32) (x3 : Int32) (σ : am_St) : f_W_sum_57 x2 x3 σ = g_W_sum_57 x2 x3 σ := am_lk_eq _
set_option maxRecDepth 100000 in
set_option maxHeartbeats 4000000 in
theorem s_W_sum_57 (G : am_G) (x2 : Int32) (x3 : Int32) (σ : am_St) (r : am_St) (Q : am_AQ) (e : f_W_sum_57 x2 x3 σ = some r) (hr : am_Pv r Q) : am_AW G M_W_sum 0 [(0, .ref 54), (1, .ref 57), (2, .int x2), (3, .int x3)] [] σ Q :=
  (show am_Snd G M_W_sum 0 am_Pv _ from (sn_iconst (pc := 0) (v := 0) dX10_sum_0 rfl (sn_istore (pc := 1) dX10_sum_1 (Nat.le_of_ble_eq_true rfl) (sn_lf (pc := 3) (ln_a (i := 0) (q := 54) (ln_a (i := 1) (q := 57) (ln_i (i := 2) (fun z0 => (ln_i (i := 3) (fun z1 => (ln_i (i := 4) (fun z2 => (ln_end (o := fun τ => f_W_sum_57_3 z0 z1 z2 τ) (fun _ _ _ e h => s_W_sum_57_3 G z0 z1 z2 _ _ _ e h)))))))))))))) _ _ _ _ _ ((eq_W_sum_57 x2 x3 σ).symm.trans e) hr
noncomputable def cF_W_sum_57 : am_Fn := fun _ args σ K => match args with
  | [.ref q0, .ref q1, .int z2, .int z3] => match Nat.beq q0 54, Nat.beq q1 57 with
    | true, true => (f_W_sum_57 z2 z3 σ).bind (fun p => K none p)
    | _, _ => none
  | _ => none
theorem cal_W_sum_57 (G : am_G) : am_Cal G M_W_sum cF_W_sum_57 := by
  intro ρ args σ K r e
  unfold cF_W_sum_57 at e
  split at e
  · split at e
    · rename_i hq0 hq1
      obtain ⟨p, h1, h2⟩ := am_bind_some e
      rw [Nat.eq_of_beq_eq_true hq0]
      rw [Nat.eq_of_beq_eq_true hq1]
      exact ⟨none, p, am_Met.of rfl (Nat.le_of_ble_eq_true rfl) (s_W_sum_57 G _ _ σ p _ h1 ⟨rfl, rfl⟩), h2⟩
    · cases e
  · cases e
abbrev M_W_all : am_MD := (yX10_all, cX10_all, 4, (some .int), 0, 0)
theorem dX10_all_0 : decode cX10_all 0 = .ok (.iconst 0, 1) := by decide +kernel
theorem dX10_all_1 : decode cX10_all 1 = .ok (.istore_n 1, 1) := by decide +kernel
theorem dX10_all_2 : decode cX10_all 2 = .ok (.iconst 0, 1) := by decide +kernel
theorem dX10_all_3 : decode cX10_all 3 = .ok (.istore_n 2, 1) := by decide +kernel
theorem dX10_all_4 : decode cX10_all 4 = .ok (.iload_n 2, 1) := by decide +kernel
theorem dX10_all_5 : decode cX10_all 5 = .ok (.aload_n 0, 1) := by decide +kernel
theorem dX10_all_6 : decode cX10_all 6 = .ok (.getfield 49, 3) := by decide +kernel
theorem dX10_all_9 : decode cX10_all 9 = .ok (.if_icmp .ge 42, 3) := by decide +kernel
theorem dX10_all_12 : decode cX10_all 12 = .ok (.aload_n 0, 1) := by decide +kernel
theorem dX10_all_13 : decode cX10_all 13 = .ok (.getfield 36, 3) := by decide +kernel
theorem dX10_all_16 : decode cX10_all 16 = .ok (.iconst 1, 1) := by decide +kernel
theorem dX10_all_17 : decode cX10_all 17 = .ok (.isub, 1) := by decide +kernel
theorem dX10_all_18 : decode cX10_all 18 = .ok (.iconst 4, 1) := by decide +kernel
theorem dX10_all_19 : decode cX10_all 19 = .ok (.imul, 1) := by decide +kernel
theorem dX10_all_20 : decode cX10_all 20 = .ok (.iload_n 2, 1) := by decide +kernel
theorem dX10_all_21 : decode cX10_all 21 = .ok (.iadd, 1) := by decide +kernel
theorem dX10_all_22 : decode cX10_all 22 = .ok (.istore_n 3, 1) := by decide +kernel
theorem dX10_all_23 : decode cX10_all 23 = .ok (.iload_n 3, 1) := by decide +kernel
theorem dX10_all_24 : decode cX10_all 24 = .ok (.ifCond .lt 21, 3) := by decide +kernel
theorem dX10_all_27 : decode cX10_all 27 = .ok (.iload_n 3, 1) := by decide +kernel
theorem dX10_all_28 : decode cX10_all 28 = .ok (.aload_n 0, 1) := by decide +kernel
theorem dX10_all_29 : decode cX10_all 29 = .ok (.getfield 18, 3) := by decide +kernel
theorem dX10_all_32 : decode cX10_all 32 = .ok (.arraylength, 1) := by decide +kernel
theorem dX10_all_33 : decode cX10_all 33 = .ok (.if_icmp .ge 12, 3) := by decide +kernel
theorem dX10_all_36 : decode cX10_all 36 = .ok (.iload_n 1, 1) := by decide +kernel
theorem dX10_all_37 : decode cX10_all 37 = .ok (.aload_n 0, 1) := by decide +kernel
theorem dX10_all_38 : decode cX10_all 38 = .ok (.getfield 18, 3) := by decide +kernel
theorem dX10_all_41 : decode cX10_all 41 = .ok (.iload_n 3, 1) := by decide +kernel
theorem dX10_all_42 : decode cX10_all 42 = .ok (.iaload, 1) := by decide +kernel
theorem dX10_all_43 : decode cX10_all 43 = .ok (.iadd, 1) := by decide +kernel
theorem dX10_all_44 : decode cX10_all 44 = .ok (.istore_n 1, 1) := by decide +kernel
theorem dX10_all_45 : decode cX10_all 45 = .ok (.iinc 2 1, 3) := by decide +kernel
theorem dX10_all_48 : decode cX10_all 48 = .ok (.goto (-44), 3) := by decide +kernel
theorem dX10_all_51 : decode cX10_all 51 = .ok (.iload_n 1, 1) := by decide +kernel
theorem dX10_all_52 : decode cX10_all 52 = .ok (.ireturn, 1) := by decide +kernel
abbrev Pl_W_all_4 (G : am_G) : ((Int32 × Int32 × am_St) ⊕ (Int32 × am_St)) → am_AQ → Prop := am_PL G M_W_all 4 (fun s : Int32 × Int32 × am_St => [(2, .int s.2.1), (1, .int s.1), (0, .ref 54)]) (fun s => s.2.2) am_Pi
noncomputable def g_W_all_45 (x1 : Int32) (x2 : Int32) (σ : am_St) : Option ((Int32 × Int32 × am_St) ⊕ (Int32 × am_St)) :=
  let v1 := x2 + 1
  some (.inl (x1, v1, σ))
noncomputable def f_W_all_45 (x1 : Int32) (x2 : Int32) (σ : am_St) : Option ((Int32 × Int32 × am_St) ⊕ (Int32 × am_St)) := am_lk (g_W_all_45 x1 x2 σ)
theorem eq_W_all_45 (x1 : Int32) (x2 : Int32) (σ : am_St) : f_W_all_45 x1 x2 σ = g_W_all_45 x1 x2 σ := am_lk_eq _
set_option maxRecDepth 100000 in
set_option maxHeartbeats 4000000 in
theorem s_W_all_45 (G : am_G) (x1 : Int32) (x2 : Int32) (σ : am_St) (r : (Int32 × Int32 × am_St) ⊕ (Int32 × am_St)) (Q : am_AQ) (e : f_W_all_45 x1 x2 σ = some r) (hr : (Pl_W_all_4 G) r Q) : am_AW G M_W_all 45 [(2, .int x2), (1, .int x1), (0, .ref 54)] [] σ Q :=
  (show am_Snd G M_W_all 45 (Pl_W_all_4 G) _ from (sn_iinc (pc := 45) (v := 1) dX10_all_45 rfl (Nat.le_of_ble_eq_true rfl) (sn_goto (pc := 48) (tgt := 4) dX10_all_48 rfl (sn_lf (pc := 4) (ln_a (i := 0) (q := 54) (ln_i (i := 1) (fun z0 => (ln_i (i := 2) (fun z1 => (ln_end (o := fun τ => (some (.inl (z0, z1, τ)) : Option ((Int32 × Int32 × am_St) ⊕ (Int32 × am_St)))) (fun _ _ _ e h => by cases e; exact h))))))))))) _ _ _ _ _ ((eq_W_all_45 x1 x2 σ).symm.trans e) hr
noncomputable def b_W_all_4 (x1 : Int32) (x2 : Int32) (σ : am_St) : Option ((Int32 × Int32 × am_St) ⊕ (Int32 × am_St)) :=
  if (σ.1 54 5) ≤ x2 then
    some (.inr ((x1, σ)))
  else
    let v1 := (((σ.1 54 6) - 1) * 4) + x2
    if v1 < 0 then
      f_W_all_45 x1 x2 σ
    else
      if 24 ≤ v1 then
        f_W_all_45 x1 x2 σ
      else
        if am_ix v1 24 = true then
          let v2 := x1 + (σ.1 57 v1.toNatClampNeg)
          f_W_all_45 v2 x2 σ
        else none
noncomputable def f_W_all_4 (x1 : Int32) (x2 : Int32) (σ : am_St) : Option (Int32 × am_St) := am_lp (fun s : Int32 × Int32 × am_St => b_W_all_4 s.1 s.2.1 s.2.2) (x1, x2, σ)
set_option maxRecDepth 100000 in
set_option maxHeartbeats 4000000 in
theorem sb_W_all_4 (G : am_G) (x1 : Int32) (x2 : Int32) (σ : am_St) (r : (Int32 × Int32 × am_St) ⊕ (Int32 × am_St)) (Q : am_AQ) (e : b_W_all_4 x1 x2 σ = some r) (hr : Pl_W_all_4 G r Q) : am_AW G M_W_all 4 [(2, .int x2), (1, .int x1), (0, .ref 54)] [] σ Q :=
  (show am_Snd G M_W_all 4 (Pl_W_all_4 G) _ from (sn_iload_n (pc := 4) (i := 2) dX10_all_4 rfl (sn_aload_n (pc := 5) (i := 0) dX10_all_5 rfl (sn_gI (pc := 6) (h := 54) (f := 5) dX10_all_6 am_CL_9 sh_54 rfl (Nat.le_of_ble_eq_true rfl) tw_181 (sn_icmp_ge (pc := 9) (tgt := 51) dX10_all_9 rfl (sn_iload_n (pc := 51) (i := 1) dX10_all_51 rfl (sn_reti (pc := 52) (R := fun x τ => (some (.inr ((x, τ))) : Option ((Int32 × Int32 × am_St) ⊕ (Int32 × am_St)))) dX10_all_52 rfl (fun _ _ _ _ e h => by cases e; exact h))) (sn_aload_n (pc := 12) (i := 0) dX10_all_12 rfl (sn_gI (pc := 13) (h := 54) (f := 6) dX10_all_13 am_CL_9 sh_54 rfl (Nat.le_of_ble_eq_true rfl) tw_182 (sn_iconst (pc := 16) (v := 1) dX10_all_16 rfl (sn_isub (pc := 17) dX10_all_17 (sn_iconst (pc := 18) (v := 4) dX10_all_18 rfl (sn_imul (pc := 19) dX10_all_19 (sn_iload_n (pc := 20) (i := 2) dX10_all_20 rfl (sn_iadd (pc := 21) dX10_all_21 (sn_istore_n (pc := 22) (i := 3) dX10_all_22 rfl (Nat.le_of_ble_eq_true rfl) (sn_iload_n (pc := 23) (i := 3) dX10_all_23 rfl (sn_if_lt (pc := 24) (tgt := 45) dX10_all_24 rfl (sn_lf (pc := 45) (ln_a (i := 0) (q := 54) (ln_i (i := 1) (fun z0 => (ln_i (i := 2) (fun z1 => (ln_end (o := fun τ => f_W_all_45 z0 z1 τ) (fun _ _ _ e h => s_W_all_45 G z0 z1 _ _ _ e h)))))))) (sn_iload_n (pc := 27) (i := 3) dX10_all_27 rfl (sn_aload_n (pc := 28) (i := 0) dX10_all_28 rfl (sn_gR (r0 := 57) (pc := 29) (h := 54) (f := 2) dX10_all_29 am_CL_9 sh_54 rfl (Nat.le_of_ble_eq_true rfl) tw_178 (sn_len (pc := 32) (h := 57) (v := 24) dX10_all_32 sh_57 rfl (sn_icmp_ge (pc := 33) (tgt := 45) dX10_all_33 rfl (sn_lf (pc := 45) (ln_a (i := 0) (q := 54) (ln_i (i := 1) (fun z0 => (ln_i (i := 2) (fun z1 => (ln_end (o := fun τ => f_W_all_45 z0 z1 τ) (fun _ _ _ e h => s_W_all_45 G z0 z1 _ _ _ e h)))))))) (sn_iload_n (pc := 36) (i := 1) dX10_all_36 rfl (sn_aload_n (pc := 37) (i := 0) dX10_all_37 rfl (sn_gR (r0 := 57) (pc := 38) (h := 54) (f := 2) dX10_all_38 am_CL_9 sh_54 rfl (Nat.le_of_ble_eq_true rfl) tw_178 (sn_iload_n (pc := 41) (i := 3) dX10_all_41 rfl (sn_aI (pc := 42) (h := 57) dX10_all_42 sh_57 (sn_iadd (pc := 43) dX10_all_43 (sn_istore_n (pc := 44) (i := 1) dX10_all_44 rfl (Nat.le_of_ble_eq_true rfl) (sn_lf (pc := 45) (ln_a (i := 0) (q := 54) (ln_i (i := 1) (fun z0 => (ln_i (i := 2) (fun z1 => (ln_end (o := fun τ => f_W_all_45 z0 z1 τ) (fun _ _ _ e h => s_W_all_45 G z0 z1 _ _ _ e h)))))))))))))))))))))))))))))))))))) _ _ _ _ _ e hr
theorem s_W_all_4 (G : am_G) (x1 : Int32) (x2 : Int32) (σ : am_St) (r : Int32 × am_St) (Q : am_AQ) (e : f_W_all_4 x1 x2 σ = some r) (hr : am_Pi r Q) : am_AW G M_W_all 4 [(2, .int x2), (1, .int x1), (0, .ref 54)] [] σ Q :=
  am_loop (P := am_Pi) (L := fun s : Int32 × Int32 × am_St => [(2, .int s.2.1), (1, .int s.1), (0, .ref 54)]) (g := fun s => s.2.2) (fun s o Q e hr => sb_W_all_4 G s.1 s.2.1 s.2.2 o Q e hr) (x1, x2, σ) r Q e hr
noncomputable def g_W_all (σ : am_St) : Option (Int32 × am_St) :=
  f_W_all_4 0 0 σ
noncomputable def f_W_all (σ : am_St) : Option (Int32 × am_St) := am_lk (g_W_all  σ)
theorem eq_W_all (σ : am_St) : f_W_all  σ = g_W_all  σ := am_lk_eq _
set_option maxRecDepth 100000 in
set_option maxHeartbeats 4000000 in
theorem s_W_all (G : am_G) (σ : am_St) (r : Int32 × am_St) (Q : am_AQ) (e : f_W_all  σ = some r) (hr : am_Pi r Q) : am_AW G M_W_all 0 [(0, .ref 54)] [] σ Q :=
  (show am_Snd G M_W_all 0 am_Pi _ from (sn_iconst (pc := 0) (v := 0) dX10_all_0 rfl (sn_istore_n (pc := 1) (i := 1) dX10_all_1 rfl (Nat.le_of_ble_eq_true rfl) (sn_iconst (pc := 2) (v := 0) dX10_all_2 rfl (sn_istore_n (pc := 3) (i := 2) dX10_all_3 rfl (Nat.le_of_ble_eq_true rfl) (sn_lf (pc := 4) (ln_a (i := 0) (q := 54) (ln_i (i := 1) (fun z0 => (ln_i (i := 2) (fun z1 => (ln_end (o := fun τ => f_W_all_4 z0 z1 τ) (fun _ _ _ e h => s_W_all_4 G z0 z1 _ _ _ e h))))))))))))) _ _ _ _ _ ((eq_W_all  σ).symm.trans e) hr
noncomputable def cF_W_all : am_Fn := fun _ args σ K => match args with
  | [.ref q0] => match Nat.beq q0 54 with
    | true => (f_W_all σ).bind (fun p => K (some (.int p.1)) p.2)
    | _ => none
  | _ => none
theorem cal_W_all (G : am_G) : am_Cal G M_W_all cF_W_all := by
  intro ρ args σ K r e
  unfold cF_W_all at e
  split at e
  · split at e
    · rename_i hq0
      obtain ⟨p, h1, h2⟩ := am_bind_some e
      rw [Nat.eq_of_beq_eq_true hq0]
      exact ⟨some (.int p.1), p.2, am_Met.of rfl (Nat.le_of_ble_eq_true rfl) (s_W_all G  σ p _ h1 ⟨rfl, rfl⟩), h2⟩
    · cases e
  · cases e
abbrev M_W_someFor : am_MD := (yX10_someFor, cX10_someFor, 3, (some .boolean), 2, 54)
theorem dX10_someFor_0 : decode cX10_someFor 0 = .ok (.aload_n 0, 1) := by decide +kernel
theorem dX10_someFor_1 : decode cX10_someFor 1 = .ok (.aload_n 1, 1) := by decide +kernel
theorem dX10_someFor_2 : decode cX10_someFor 2 = .ok (.iload_n 2, 1) := by decide +kernel
theorem dX10_someFor_3 : decode cX10_someFor 3 = .ok (.invokevirtual 28, 3) := by decide +kernel
theorem dX10_someFor_6 : decode cX10_someFor 6 = .ok (.aload_n 0, 1) := by decide +kernel
theorem dX10_someFor_7 : decode cX10_someFor 7 = .ok (.aload_n 0, 1) := by decide +kernel
theorem dX10_someFor_8 : decode cX10_someFor 8 = .ok (.getfield 18, 3) := by decide +kernel
theorem dX10_someFor_11 : decode cX10_someFor 11 = .ok (.iconst 0, 1) := by decide +kernel
theorem dX10_someFor_12 : decode cX10_someFor 12 = .ok (.iconst 1, 1) := by decide +kernel
theorem dX10_someFor_13 : decode cX10_someFor 13 = .ok (.invokevirtual 32, 3) := by decide +kernel
theorem dX10_someFor_16 : decode cX10_someFor 16 = .ok (.aload_n 0, 1) := by decide +kernel
theorem dX10_someFor_17 : decode cX10_someFor 17 = .ok (.invokevirtual 40, 3) := by decide +kernel
theorem dX10_someFor_20 : decode cX10_someFor 20 = .ok (.ifCond .le 7, 3) := by decide +kernel
theorem dX10_someFor_23 : decode cX10_someFor 23 = .ok (.iconst 1, 1) := by decide +kernel
theorem dX10_someFor_24 : decode cX10_someFor 24 = .ok (.goto 4, 3) := by decide +kernel
theorem dX10_someFor_27 : decode cX10_someFor 27 = .ok (.iconst 0, 1) := by decide +kernel
theorem dX10_someFor_28 : decode cX10_someFor 28 = .ok (.ireturn, 1) := by decide +kernel
noncomputable def g_W_someFor_37 (x2 : Int32) (σ : am_St) : Option (Int32 × am_St) :=
  (f_W_openByFacts_37 x2 σ).bind (fun p1 =>
    (f_W_sum_57 0 1 p1).bind (fun p2 =>
      (f_W_all p2).bind (fun p3 =>
        if p3.1 ≤ 0 then
          some ((0, p3.2))
        else
          some ((1, p3.2)))))
noncomputable def f_W_someFor_37 (x2 : Int32) (σ : am_St) : Option (Int32 × am_St) := am_lk (g_W_someFor_37 x2 σ)
theorem eq_W_someFor_37 (x2 : Int32) (σ : am_St) : f_W_someFor_37 x2 σ = g_W_someFor_37 x2 σ := am_lk_eq _
set_option maxRecDepth 100000 in
set_option maxHeartbeats 4000000 in
theorem s_W_someFor_37 (G : am_G) (x2 : Int32) (σ : am_St) (r : Int32 × am_St) (Q : am_AQ) (e : f_W_someFor_37 x2 σ = some r) (hr : am_Pi r Q) : am_AW G M_W_someFor 0 [(0, .ref 54), (1, .ref 37), (2, .int x2)] [] σ Q :=
  (show am_Snd G M_W_someFor 0 am_Pi _ from (sn_aload_n (pc := 0) (i := 0) dX10_someFor_0 rfl (sn_aload_n (pc := 1) (i := 1) dX10_someFor_1 rfl (sn_iload_n (pc := 2) (i := 2) dX10_someFor_2 rfl (sn_callV (pc := 3) (N := M_W_openByFacts) dX10_someFor_3 (cal_W_openByFacts_37 G) sh_54 rfl tw_336 tw_338 tp_8 tw_10 tw_339 dsc_X10_openByFacts rfl (sn_aload_n (pc := 6) (i := 0) dX10_someFor_6 rfl (sn_aload_n (pc := 7) (i := 0) dX10_someFor_7 rfl (sn_gR (r0 := 57) (pc := 8) (h := 54) (f := 2) dX10_someFor_8 am_CL_9 sh_54 rfl (Nat.le_of_ble_eq_true rfl) tw_178 (sn_iconst (pc := 11) (v := 0) dX10_someFor_11 rfl (sn_iconst (pc := 12) (v := 1) dX10_someFor_12 rfl (sn_callV (pc := 13) (N := M_W_sum) dX10_someFor_13 (cal_W_sum_57 G) sh_54 rfl tw_364 tw_366 tp_10 tw_10 tw_367 dsc_X10_sum rfl (sn_aload_n (pc := 16) (i := 0) dX10_someFor_16 rfl (sn_callV (pc := 17) (N := M_W_all) dX10_someFor_17 (cal_W_all G) sh_54 rfl tw_372 tw_373 tw_374 tw_10 tw_375 dsc_X10_all rfl (sn_if_le (pc := 20) (tgt := 27) dX10_someFor_20 rfl (sn_iconst (pc := 27) (v := 0) dX10_someFor_27 rfl (sn_retz (pc := 28) (R := fun x τ => (some ((x, τ)))) dX10_someFor_28 rfl (fun _ _ _ _ e h => by cases e; exact h))) (sn_iconst (pc := 23) (v := 1) dX10_someFor_23 rfl (sn_goto (pc := 24) (tgt := 28) dX10_someFor_24 rfl (sn_retz (pc := 28) (R := fun x τ => (some ((x, τ)))) dX10_someFor_28 rfl (fun _ _ _ _ e h => by cases e; exact h)))))))))))))))))) _ _ _ _ _ ((eq_W_someFor_37 x2 σ).symm.trans e) hr
noncomputable def cF_W_someFor_37 : am_Fn := fun _ args σ K => match args with
  | [.ref q0, .ref q1, .int z2] => match Nat.beq q0 54, Nat.beq q1 37 with
    | true, true => (f_W_someFor_37 z2 σ).bind (fun p => K (some (.int p.1)) p.2)
    | _, _ => none
  | _ => none
theorem cal_W_someFor_37 (G : am_G) : am_Cal G M_W_someFor cF_W_someFor_37 := by
  intro ρ args σ K r e
  unfold cF_W_someFor_37 at e
  split at e
  · split at e
    · rename_i hq0 hq1
      obtain ⟨p, h1, h2⟩ := am_bind_some e
      rw [Nat.eq_of_beq_eq_true hq0]
      rw [Nat.eq_of_beq_eq_true hq1]
      exact ⟨some (.int p.1), p.2, am_Met.of rfl (Nat.le_of_ble_eq_true rfl) (s_W_someFor_37 G _ σ p _ h1 ⟨rfl, rfl⟩), h2⟩
    · cases e
  · cases e
abbrev M_T_turnsDoor : am_MD := (yX4_turnsDoor, cX4_turnsDoor, 6, (some .boolean), 3, 76)
theorem dX4_turnsDoor_0 : decode cX4_turnsDoor 0 = .ok (.aload_n 0, 1) := by decide +kernel
theorem dX4_turnsDoor_1 : decode cX4_turnsDoor 1 = .ok (.getfield 22, 3) := by decide +kernel
theorem dX4_turnsDoor_4 : decode cX4_turnsDoor 4 = .ok (.iload_n 1, 1) := by decide +kernel
theorem dX4_turnsDoor_5 : decode cX4_turnsDoor 5 = .ok (.invokevirtual 89, 3) := by decide +kernel
theorem dX4_turnsDoor_8 : decode cX4_turnsDoor 8 = .ok (.ifCond .eq 19, 3) := by decide +kernel
theorem dX4_turnsDoor_11 : decode cX4_turnsDoor 11 = .ok (.aload_n 0, 1) := by decide +kernel
theorem dX4_turnsDoor_12 : decode cX4_turnsDoor 12 = .ok (.getfield 22, 3) := by decide +kernel
theorem dX4_turnsDoor_15 : decode cX4_turnsDoor 15 = .ok (.iload_n 2, 1) := by decide +kernel
theorem dX4_turnsDoor_16 : decode cX4_turnsDoor 16 = .ok (.invokevirtual 89, 3) := by decide +kernel
theorem dX4_turnsDoor_19 : decode cX4_turnsDoor 19 = .ok (.ifCond .eq 8, 3) := by decide +kernel
theorem dX4_turnsDoor_22 : decode cX4_turnsDoor 22 = .ok (.iload_n 1, 1) := by decide +kernel
theorem dX4_turnsDoor_23 : decode cX4_turnsDoor 23 = .ok (.iload_n 2, 1) := by decide +kernel
theorem dX4_turnsDoor_24 : decode cX4_turnsDoor 24 = .ok (.if_icmp .ne 5, 3) := by decide +kernel
theorem dX4_turnsDoor_27 : decode cX4_turnsDoor 27 = .ok (.iconst 0, 1) := by decide +kernel
theorem dX4_turnsDoor_28 : decode cX4_turnsDoor 28 = .ok (.ireturn, 1) := by decide +kernel
theorem dX4_turnsDoor_29 : decode cX4_turnsDoor 29 = .ok (.aload_n 0, 1) := by decide +kernel
theorem dX4_turnsDoor_30 : decode cX4_turnsDoor 30 = .ok (.getfield 22, 3) := by decide +kernel
theorem dX4_turnsDoor_33 : decode cX4_turnsDoor 33 = .ok (.iload_n 1, 1) := by decide +kernel
theorem dX4_turnsDoor_34 : decode cX4_turnsDoor 34 = .ok (.iload_n 2, 1) := by decide +kernel
theorem dX4_turnsDoor_35 : decode cX4_turnsDoor 35 = .ok (.invokevirtual 93, 3) := by decide +kernel
theorem dX4_turnsDoor_38 : decode cX4_turnsDoor 38 = .ok (.iconst 1, 1) := by decide +kernel
theorem dX4_turnsDoor_39 : decode cX4_turnsDoor 39 = .ok (.istore 4, 2) := by decide +kernel
theorem dX4_turnsDoor_41 : decode cX4_turnsDoor 41 = .ok (.iconst 0, 1) := by decide +kernel
theorem dX4_turnsDoor_42 : decode cX4_turnsDoor 42 = .ok (.istore 5, 2) := by decide +kernel
theorem dX4_turnsDoor_44 : decode cX4_turnsDoor 44 = .ok (.iload 5, 2) := by decide +kernel
theorem dX4_turnsDoor_46 : decode cX4_turnsDoor 46 = .ok (.aload_n 0, 1) := by decide +kernel
theorem dX4_turnsDoor_47 : decode cX4_turnsDoor 47 = .ok (.getfield 22, 3) := by decide +kernel
theorem dX4_turnsDoor_50 : decode cX4_turnsDoor 50 = .ok (.getfield 96, 3) := by decide +kernel
theorem dX4_turnsDoor_53 : decode cX4_turnsDoor 53 = .ok (.if_icmp .ge 26, 3) := by decide +kernel
theorem dX4_turnsDoor_56 : decode cX4_turnsDoor 56 = .ok (.iload 4, 2) := by decide +kernel
theorem dX4_turnsDoor_58 : decode cX4_turnsDoor 58 = .ok (.ifCond .eq 21, 3) := by decide +kernel
theorem dX4_turnsDoor_61 : decode cX4_turnsDoor 61 = .ok (.aload_n 3, 1) := by decide +kernel
theorem dX4_turnsDoor_62 : decode cX4_turnsDoor 62 = .ok (.aload_n 0, 1) := by decide +kernel
theorem dX4_turnsDoor_63 : decode cX4_turnsDoor 63 = .ok (.getfield 22, 3) := by decide +kernel
theorem dX4_turnsDoor_66 : decode cX4_turnsDoor 66 = .ok (.iload 5, 2) := by decide +kernel
theorem dX4_turnsDoor_68 : decode cX4_turnsDoor 68 = .ok (.invokevirtual 99, 3) := by decide +kernel
theorem dX4_turnsDoor_71 : decode cX4_turnsDoor 71 = .ok (.istore 4, 2) := by decide +kernel
theorem dX4_turnsDoor_73 : decode cX4_turnsDoor 73 = .ok (.iinc 5 1, 3) := by decide +kernel
theorem dX4_turnsDoor_76 : decode cX4_turnsDoor 76 = .ok (.goto (-32), 3) := by decide +kernel
theorem dX4_turnsDoor_79 : decode cX4_turnsDoor 79 = .ok (.iload 4, 2) := by decide +kernel
theorem dX4_turnsDoor_81 : decode cX4_turnsDoor 81 = .ok (.ireturn, 1) := by decide +kernel
abbrev Pl_T_turnsDoor_44 (G : am_G) : ((Int32 × Int32 × am_St) ⊕ (Int32 × am_St)) → am_AQ → Prop := am_PL G M_T_turnsDoor 44 (fun s : Int32 × Int32 × am_St => [(5, .int s.2.1), (4, .int s.1), (3, .ref 54), (0, .ref 35)]) (fun s => s.2.2) am_Pi
noncomputable def b_T_turnsDoor_44 (x4 : Int32) (x5 : Int32) (σ : am_St) : Option ((Int32 × Int32 × am_St) ⊕ (Int32 × am_St)) :=
  if (σ.1 37 2) ≤ x5 then
    if x4 &&& 1 = x4 then some (.inr ((x4, σ))) else none
  else
    if x4 = 0 then
      if x4 &&& 1 = x4 then some (.inr ((x4, σ))) else none
    else
      (f_W_someFor_37 x5 σ).bind (fun p1 =>
        let v2 := x5 + 1
        some (.inl (p1.1, v2, p1.2)))
noncomputable def f_T_turnsDoor_44 (x4 : Int32) (x5 : Int32) (σ : am_St) : Option (Int32 × am_St) := am_lp (fun s : Int32 × Int32 × am_St => b_T_turnsDoor_44 s.1 s.2.1 s.2.2) (x4, x5, σ)
set_option maxRecDepth 100000 in
set_option maxHeartbeats 4000000 in
theorem sb_T_turnsDoor_44 (G : am_G) (x4 : Int32) (x5 : Int32) (σ : am_St) (r : (Int32 × Int32 × am_St) ⊕ (Int32 × am_St)) (Q : am_AQ) (e : b_T_turnsDoor_44 x4 x5 σ = some r) (hr : Pl_T_turnsDoor_44 G r Q) : am_AW G M_T_turnsDoor 44 [(5, .int x5), (4, .int x4), (3, .ref 54), (0, .ref 35)] [] σ Q :=
  (show am_Snd G M_T_turnsDoor 44 (Pl_T_turnsDoor_44 G) _ from (sn_iload (pc := 44) dX4_turnsDoor_44 (sn_aload_n (pc := 46) (i := 0) dX4_turnsDoor_46 rfl (sn_gR (r0 := 37) (pc := 47) (h := 35) (f := 2) dX4_turnsDoor_47 am_CL_4 sh_35 rfl (Nat.le_of_ble_eq_true rfl) tw_162 (sn_gI (pc := 50) (h := 37) (f := 2) dX4_turnsDoor_50 am_CL_3 sh_37 rfl (Nat.le_of_ble_eq_true rfl) tw_87 (sn_icmp_ge (pc := 53) (tgt := 79) dX4_turnsDoor_53 rfl (sn_iload (pc := 79) dX4_turnsDoor_79 (sn_retz (pc := 81) (R := fun x τ => (some (.inr ((x, τ))) : Option ((Int32 × Int32 × am_St) ⊕ (Int32 × am_St)))) dX4_turnsDoor_81 rfl (fun _ _ _ _ e h => by cases e; exact h))) (sn_iload (pc := 56) dX4_turnsDoor_56 (sn_if_eq (pc := 58) (tgt := 79) dX4_turnsDoor_58 rfl (sn_iload (pc := 79) dX4_turnsDoor_79 (sn_retz (pc := 81) (R := fun x τ => (some (.inr ((x, τ))) : Option ((Int32 × Int32 × am_St) ⊕ (Int32 × am_St)))) dX4_turnsDoor_81 rfl (fun _ _ _ _ e h => by cases e; exact h))) (sn_aload_n (pc := 61) (i := 3) dX4_turnsDoor_61 rfl (sn_aload_n (pc := 62) (i := 0) dX4_turnsDoor_62 rfl (sn_gR (r0 := 37) (pc := 63) (h := 35) (f := 2) dX4_turnsDoor_63 am_CL_4 sh_35 rfl (Nat.le_of_ble_eq_true rfl) tw_162 (sn_iload (pc := 66) dX4_turnsDoor_66 (sn_callV (pc := 68) (N := M_W_someFor) dX4_turnsDoor_68 (cal_W_someFor_37 G) sh_54 rfl tw_332 tw_333 tw_334 tw_10 tw_335 dsc_X10_someFor rfl (sn_istore (pc := 71) dX4_turnsDoor_71 (Nat.le_of_ble_eq_true rfl) (sn_iinc (pc := 73) (v := 1) dX4_turnsDoor_73 rfl (Nat.le_of_ble_eq_true rfl) (sn_goto (pc := 76) (tgt := 44) dX4_turnsDoor_76 rfl (sn_lf (pc := 44) (ln_a (i := 0) (q := 35) (ln_a (i := 3) (q := 54) (ln_i (i := 4) (fun z0 => (ln_i (i := 5) (fun z1 => (ln_end (o := fun τ => (some (.inl (z0, z1, τ)) : Option ((Int32 × Int32 × am_St) ⊕ (Int32 × am_St)))) (fun _ _ _ e h => by cases e; exact h))))))))))))))))))))))))) _ _ _ _ _ e hr
theorem s_T_turnsDoor_44 (G : am_G) (x4 : Int32) (x5 : Int32) (σ : am_St) (r : Int32 × am_St) (Q : am_AQ) (e : f_T_turnsDoor_44 x4 x5 σ = some r) (hr : am_Pi r Q) : am_AW G M_T_turnsDoor 44 [(5, .int x5), (4, .int x4), (3, .ref 54), (0, .ref 35)] [] σ Q :=
  am_loop (P := am_Pi) (L := fun s : Int32 × Int32 × am_St => [(5, .int s.2.1), (4, .int s.1), (3, .ref 54), (0, .ref 35)]) (g := fun s => s.2.2) (fun s o Q e hr => sb_T_turnsDoor_44 G s.1 s.2.1 s.2.2 o Q e hr) (x4, x5, σ) r Q e hr
noncomputable def g_T_turnsDoor_29 (x1 : Int32) (x2 : Int32) (σ : am_St) : Option (Int32 × am_St) :=
  (f_H_turnDoor_37 x1 x2 σ).bind (fun p1 =>
    f_T_turnsDoor_44 1 0 p1)
noncomputable def f_T_turnsDoor_29 (x1 : Int32) (x2 : Int32) (σ : am_St) : Option (Int32 × am_St) := am_lk (g_T_turnsDoor_29 x1 x2 σ)
theorem eq_T_turnsDoor_29 (x1 : Int32) (x2 : Int32) (σ : am_St) : f_T_turnsDoor_29 x1 x2 σ = g_T_turnsDoor_29 x1 x2 σ := am_lk_eq _
set_option maxRecDepth 100000 in
set_option maxHeartbeats 4000000 in
theorem s_T_turnsDoor_29 (G : am_G) (x1 : Int32) (x2 : Int32) (σ : am_St) (r : Int32 × am_St) (Q : am_AQ) (e : f_T_turnsDoor_29 x1 x2 σ = some r) (hr : am_Pi r Q) : am_AW G M_T_turnsDoor 29 [(3, .ref 54), (2, .int x2), (1, .int x1), (0, .ref 35)] [] σ Q :=
  (show am_Snd G M_T_turnsDoor 29 am_Pi _ from (sn_aload_n (pc := 29) (i := 0) dX4_turnsDoor_29 rfl (sn_gR (r0 := 37) (pc := 30) (h := 35) (f := 2) dX4_turnsDoor_30 am_CL_4 sh_35 rfl (Nat.le_of_ble_eq_true rfl) tw_162 (sn_iload_n (pc := 33) (i := 1) dX4_turnsDoor_33 rfl (sn_iload_n (pc := 34) (i := 2) dX4_turnsDoor_34 rfl (sn_callV (pc := 35) (N := M_H_turnDoor) dX4_turnsDoor_35 (cal_H_turnDoor_37 G) sh_37 rfl tw_327 tw_328 tw_329 tw_2 tw_330 dsc_X3_turnDoor rfl (sn_iconst (pc := 38) (v := 1) dX4_turnsDoor_38 rfl (sn_istore (pc := 39) dX4_turnsDoor_39 (Nat.le_of_ble_eq_true rfl) (sn_iconst (pc := 41) (v := 0) dX4_turnsDoor_41 rfl (sn_istore (pc := 42) dX4_turnsDoor_42 (Nat.le_of_ble_eq_true rfl) (sn_lf (pc := 44) (ln_a (i := 0) (q := 35) (ln_a (i := 3) (q := 54) (ln_i (i := 4) (fun z0 => (ln_i (i := 5) (fun z1 => (ln_end (o := fun τ => f_T_turnsDoor_44 z0 z1 τ) (fun _ _ _ e h => s_T_turnsDoor_44 G z0 z1 _ _ _ e h))))))))))))))))))) _ _ _ _ _ ((eq_T_turnsDoor_29 x1 x2 σ).symm.trans e) hr
noncomputable def g_T_turnsDoor (x1 : Int32) (x2 : Int32) (σ : am_St) : Option (Int32 × am_St) :=
  (f_H_hasRoom_37 x1 σ).bind (fun p1 =>
    if p1.1 = 0 then
      some ((0, p1.2))
    else
      (f_H_hasRoom_37 x2 p1.2).bind (fun p2 =>
        if p2.1 = 0 then
          some ((0, p2.2))
        else
          if x1 = x2 then
            some ((0, p2.2))
          else
            f_T_turnsDoor_29 x1 x2 p2.2))
noncomputable def f_T_turnsDoor (x1 : Int32) (x2 : Int32) (σ : am_St) : Option (Int32 × am_St) := am_lk (g_T_turnsDoor x1 x2 σ)
theorem eq_T_turnsDoor (x1 : Int32) (x2 : Int32) (σ : am_St) : f_T_turnsDoor x1 x2 σ = g_T_turnsDoor x1 x2 σ := am_lk_eq _
set_option maxRecDepth 100000 in
set_option maxHeartbeats 4000000 in
theorem s_T_turnsDoor (G : am_G) (x1 : Int32) (x2 : Int32) (σ : am_St) (r : Int32 × am_St) (Q : am_AQ) (e : f_T_turnsDoor x1 x2 σ = some r) (hr : am_Pi r Q) : am_AW G M_T_turnsDoor 0 [(0, .ref 35), (1, .int x1), (2, .int x2), (3, .ref 54)] [] σ Q :=
  (show am_Snd G M_T_turnsDoor 0 am_Pi _ from (sn_aload_n (pc := 0) (i := 0) dX4_turnsDoor_0 rfl (sn_gR (r0 := 37) (pc := 1) (h := 35) (f := 2) dX4_turnsDoor_1 am_CL_4 sh_35 rfl (Nat.le_of_ble_eq_true rfl) tw_162 (sn_iload_n (pc := 4) (i := 1) dX4_turnsDoor_4 rfl (sn_callV (pc := 5) (N := M_H_hasRoom) dX4_turnsDoor_5 (cal_H_hasRoom_37 G) sh_37 rfl tw_323 tw_324 tw_325 tw_2 tw_326 dsc_X3_hasRoom rfl (sn_if_eq (pc := 8) (tgt := 27) dX4_turnsDoor_8 rfl (sn_iconst (pc := 27) (v := 0) dX4_turnsDoor_27 rfl (sn_retz (pc := 28) (R := fun x τ => (some ((x, τ)))) dX4_turnsDoor_28 rfl (fun _ _ _ _ e h => by cases e; exact h))) (sn_aload_n (pc := 11) (i := 0) dX4_turnsDoor_11 rfl (sn_gR (r0 := 37) (pc := 12) (h := 35) (f := 2) dX4_turnsDoor_12 am_CL_4 sh_35 rfl (Nat.le_of_ble_eq_true rfl) tw_162 (sn_iload_n (pc := 15) (i := 2) dX4_turnsDoor_15 rfl (sn_callV (pc := 16) (N := M_H_hasRoom) dX4_turnsDoor_16 (cal_H_hasRoom_37 G) sh_37 rfl tw_323 tw_324 tw_325 tw_2 tw_326 dsc_X3_hasRoom rfl (sn_if_eq (pc := 19) (tgt := 27) dX4_turnsDoor_19 rfl (sn_iconst (pc := 27) (v := 0) dX4_turnsDoor_27 rfl (sn_retz (pc := 28) (R := fun x τ => (some ((x, τ)))) dX4_turnsDoor_28 rfl (fun _ _ _ _ e h => by cases e; exact h))) (sn_iload_n (pc := 22) (i := 1) dX4_turnsDoor_22 rfl (sn_iload_n (pc := 23) (i := 2) dX4_turnsDoor_23 rfl (sn_icmp_ne (pc := 24) (tgt := 29) dX4_turnsDoor_24 rfl (sn_lf (pc := 29) (ln_a (i := 0) (q := 35) (ln_i (i := 1) (fun z0 => (ln_i (i := 2) (fun z1 => (ln_a (i := 3) (q := 54) (ln_end (o := fun τ => f_T_turnsDoor_29 z0 z1 τ) (fun _ _ _ e h => s_T_turnsDoor_29 G z0 z1 _ _ _ e h))))))))) (sn_iconst (pc := 27) (v := 0) dX4_turnsDoor_27 rfl (sn_retz (pc := 28) (R := fun x τ => (some ((x, τ)))) dX4_turnsDoor_28 rfl (fun _ _ _ _ e h => by cases e; exact h))))))))))))))))) _ _ _ _ _ ((eq_T_turnsDoor x1 x2 σ).symm.trans e) hr
noncomputable def cF_T_turnsDoor : am_Fn := fun _ args σ K => match args with
  | [.ref q0, .int z1, .int z2, .ref q3] => match Nat.beq q0 35, Nat.beq q3 54 with
    | true, true => (f_T_turnsDoor z1 z2 σ).bind (fun p => K (some (.int p.1)) p.2)
    | _, _ => none
  | _ => none
theorem cal_T_turnsDoor (G : am_G) : am_Cal G M_T_turnsDoor cF_T_turnsDoor := by
  intro ρ args σ K r e
  unfold cF_T_turnsDoor at e
  split at e
  · split at e
    · rename_i hq0 hq3
      obtain ⟨p, h1, h2⟩ := am_bind_some e
      rw [Nat.eq_of_beq_eq_true hq0]
      rw [Nat.eq_of_beq_eq_true hq3]
      exact ⟨some (.int p.1), p.2, am_Met.of rfl (Nat.le_of_ble_eq_true rfl) (s_T_turnsDoor G _ _ σ p _ h1 ⟨rfl, rfl⟩), h2⟩
    · cases e
  · cases e
abbrev M_X_bit : am_MD := (yX11_bit, cX11_bit, 1, (some .int), 0, 0)
theorem dX11_bit_0 : decode cX11_bit 0 = .ok (.iload_n 0, 1) := by decide +kernel
theorem dX11_bit_1 : decode cX11_bit 1 = .ok (.ifCond .eq 7, 3) := by decide +kernel
theorem dX11_bit_4 : decode cX11_bit 4 = .ok (.iconst 1, 1) := by decide +kernel
theorem dX11_bit_5 : decode cX11_bit 5 = .ok (.goto 4, 3) := by decide +kernel
theorem dX11_bit_8 : decode cX11_bit 8 = .ok (.iconst 0, 1) := by decide +kernel
theorem dX11_bit_9 : decode cX11_bit 9 = .ok (.ireturn, 1) := by decide +kernel
noncomputable def g_X_bit (x0 : Int32) (σ : am_St) : Option (Int32 × am_St) :=
  if x0 = 0 then
    some ((0, σ))
  else
    some ((1, σ))
noncomputable def f_X_bit (x0 : Int32) (σ : am_St) : Option (Int32 × am_St) := am_lk (g_X_bit x0 σ)
theorem eq_X_bit (x0 : Int32) (σ : am_St) : f_X_bit x0 σ = g_X_bit x0 σ := am_lk_eq _
set_option maxRecDepth 100000 in
set_option maxHeartbeats 4000000 in
theorem s_X_bit (G : am_G) (x0 : Int32) (σ : am_St) (r : Int32 × am_St) (Q : am_AQ) (e : f_X_bit x0 σ = some r) (hr : am_Pi r Q) : am_AW G M_X_bit 0 [(0, .int x0)] [] σ Q :=
  (show am_Snd G M_X_bit 0 am_Pi _ from (sn_iload_n (pc := 0) (i := 0) dX11_bit_0 rfl (sn_if_eq (pc := 1) (tgt := 8) dX11_bit_1 rfl (sn_iconst (pc := 8) (v := 0) dX11_bit_8 rfl (sn_reti (pc := 9) (R := fun x τ => (some ((x, τ)))) dX11_bit_9 rfl (fun _ _ _ _ e h => by cases e; exact h))) (sn_iconst (pc := 4) (v := 1) dX11_bit_4 rfl (sn_goto (pc := 5) (tgt := 9) dX11_bit_5 rfl (sn_reti (pc := 9) (R := fun x τ => (some ((x, τ)))) dX11_bit_9 rfl (fun _ _ _ _ e h => by cases e; exact h))))))) _ _ _ _ _ ((eq_X_bit x0 σ).symm.trans e) hr
noncomputable def cF_X_bit : am_Fn := fun _ args σ K => match args with
  | [.int z0] => (f_X_bit z0 σ).bind (fun p => K (some (.int p.1)) p.2)
  | _ => none
theorem cal_X_bit (G : am_G) : am_Cal G M_X_bit cF_X_bit := by
  intro ρ args σ K r e
  unfold cF_X_bit at e
  split at e
  · obtain ⟨p, h1, h2⟩ := am_bind_some e
    exact ⟨some (.int p.1), p.2, am_Met.of rfl (Nat.le_of_ble_eq_true rfl) (s_X_bit G _ σ p _ h1 ⟨rfl, rfl⟩), h2⟩
  · cases e
abbrev M_H_hasChild : am_MD := (yX3_hasChild, cX3_hasChild, 2, (some .boolean), 0, 0)
theorem dX3_hasChild_0 : decode cX3_hasChild 0 = .ok (.iload_n 1, 1) := by decide +kernel
theorem dX3_hasChild_1 : decode cX3_hasChild 1 = .ok (.ifCond .lt 15, 3) := by decide +kernel
theorem dX3_hasChild_4 : decode cX3_hasChild 4 = .ok (.iload_n 1, 1) := by decide +kernel
theorem dX3_hasChild_5 : decode cX3_hasChild 5 = .ok (.aload_n 0, 1) := by decide +kernel
theorem dX3_hasChild_6 : decode cX3_hasChild 6 = .ok (.getfield 68, 3) := by decide +kernel
theorem dX3_hasChild_9 : decode cX3_hasChild 9 = .ok (.if_icmp .ge 7, 3) := by decide +kernel
theorem dX3_hasChild_12 : decode cX3_hasChild 12 = .ok (.iconst 1, 1) := by decide +kernel
theorem dX3_hasChild_13 : decode cX3_hasChild 13 = .ok (.goto 4, 3) := by decide +kernel
theorem dX3_hasChild_16 : decode cX3_hasChild 16 = .ok (.iconst 0, 1) := by decide +kernel
theorem dX3_hasChild_17 : decode cX3_hasChild 17 = .ok (.ireturn, 1) := by decide +kernel
noncomputable def g_H_hasChild_37 (x1 : Int32) (σ : am_St) : Option (Int32 × am_St) :=
  if x1 < 0 then
    some ((0, σ))
  else
    if (σ.1 37 2) ≤ x1 then
      some ((0, σ))
    else
      some ((1, σ))
noncomputable def f_H_hasChild_37 (x1 : Int32) (σ : am_St) : Option (Int32 × am_St) := am_lk (g_H_hasChild_37 x1 σ)
theorem eq_H_hasChild_37 (x1 : Int32) (σ : am_St) : f_H_hasChild_37 x1 σ = g_H_hasChild_37 x1 σ := am_lk_eq _
set_option maxRecDepth 100000 in
set_option maxHeartbeats 4000000 in
theorem s_H_hasChild_37 (G : am_G) (x1 : Int32) (σ : am_St) (r : Int32 × am_St) (Q : am_AQ) (e : f_H_hasChild_37 x1 σ = some r) (hr : am_Pi r Q) : am_AW G M_H_hasChild 0 [(0, .ref 37), (1, .int x1)] [] σ Q :=
  (show am_Snd G M_H_hasChild 0 am_Pi _ from (sn_iload_n (pc := 0) (i := 1) dX3_hasChild_0 rfl (sn_if_lt (pc := 1) (tgt := 16) dX3_hasChild_1 rfl (sn_iconst (pc := 16) (v := 0) dX3_hasChild_16 rfl (sn_retz (pc := 17) (R := fun x τ => (some ((x, τ)))) dX3_hasChild_17 rfl (fun _ _ _ _ e h => by cases e; exact h))) (sn_iload_n (pc := 4) (i := 1) dX3_hasChild_4 rfl (sn_aload_n (pc := 5) (i := 0) dX3_hasChild_5 rfl (sn_gI (pc := 6) (h := 37) (f := 2) dX3_hasChild_6 am_CL_3 sh_37 rfl (Nat.le_of_ble_eq_true rfl) tw_83 (sn_icmp_ge (pc := 9) (tgt := 16) dX3_hasChild_9 rfl (sn_iconst (pc := 16) (v := 0) dX3_hasChild_16 rfl (sn_retz (pc := 17) (R := fun x τ => (some ((x, τ)))) dX3_hasChild_17 rfl (fun _ _ _ _ e h => by cases e; exact h))) (sn_iconst (pc := 12) (v := 1) dX3_hasChild_12 rfl (sn_goto (pc := 13) (tgt := 17) dX3_hasChild_13 rfl (sn_retz (pc := 17) (R := fun x τ => (some ((x, τ)))) dX3_hasChild_17 rfl (fun _ _ _ _ e h => by cases e; exact h))))))))))) _ _ _ _ _ ((eq_H_hasChild_37 x1 σ).symm.trans e) hr
noncomputable def cF_H_hasChild_37 : am_Fn := fun _ args σ K => match args with
  | [.ref q0, .int z1] => match Nat.beq q0 37 with
    | true => (f_H_hasChild_37 z1 σ).bind (fun p => K (some (.int p.1)) p.2)
    | _ => none
  | _ => none
theorem cal_H_hasChild_37 (G : am_G) : am_Cal G M_H_hasChild cF_H_hasChild_37 := by
  intro ρ args σ K r e
  unfold cF_H_hasChild_37 at e
  split at e
  · split at e
    · rename_i hq0
      obtain ⟨p, h1, h2⟩ := am_bind_some e
      rw [Nat.eq_of_beq_eq_true hq0]
      exact ⟨some (.int p.1), p.2, am_Met.of rfl (Nat.le_of_ble_eq_true rfl) (s_H_hasChild_37 G _ σ p _ h1 ⟨rfl, rfl⟩), h2⟩
    · cases e
  · cases e
abbrev M_H_mark : am_MD := (yX3_mark, cX3_mark, 4, (some .int), 0, 0)
theorem dX3_mark_0 : decode cX3_mark 0 = .ok (.iload_n 0, 1) := by decide +kernel
theorem dX3_mark_1 : decode cX3_mark 1 = .ok (.bipush 9, 2) := by decide +kernel
theorem dX3_mark_3 : decode cX3_mark 3 = .ok (.ishl, 1) := by decide +kernel
theorem dX3_mark_4 : decode cX3_mark 4 = .ok (.iload_n 1, 1) := by decide +kernel
theorem dX3_mark_5 : decode cX3_mark 5 = .ok (.bipush 6, 2) := by decide +kernel
theorem dX3_mark_7 : decode cX3_mark 7 = .ok (.ishl, 1) := by decide +kernel
theorem dX3_mark_8 : decode cX3_mark 8 = .ok (.ior, 1) := by decide +kernel
theorem dX3_mark_9 : decode cX3_mark 9 = .ok (.iload_n 2, 1) := by decide +kernel
theorem dX3_mark_10 : decode cX3_mark 10 = .ok (.iconst 3, 1) := by decide +kernel
theorem dX3_mark_11 : decode cX3_mark 11 = .ok (.ishl, 1) := by decide +kernel
theorem dX3_mark_12 : decode cX3_mark 12 = .ok (.ior, 1) := by decide +kernel
theorem dX3_mark_13 : decode cX3_mark 13 = .ok (.iload_n 3, 1) := by decide +kernel
theorem dX3_mark_14 : decode cX3_mark 14 = .ok (.ior, 1) := by decide +kernel
theorem dX3_mark_15 : decode cX3_mark 15 = .ok (.ireturn, 1) := by decide +kernel
noncomputable def g_H_mark (x0 : Int32) (x1 : Int32) (x2 : Int32) (x3 : Int32) (σ : am_St) : Option (Int32 × am_St) :=
  some (((((x0 <<< (9 &&& 31)) ||| (x1 <<< (6 &&& 31))) ||| (x2 <<< (3 &&& 31))) ||| x3, σ))
noncomputable def f_H_mark (x0 : Int32) (x1 : Int32) (x2 : Int32) (x3 : Int32) (σ : am_St) : Option (Int32 × am_St) := am_lk (g_H_mark x0 x1 x2 x3 σ)
theorem eq_H_mark (x0 : Int32) (x1 : Int32) (x2 : Int32) (x3 : Int32) (σ : am_St) : f_H_mark x0 x1 x2 x3 σ = g_H_mark x0 x1 x2 x3 σ := am_lk_eq _
set_option maxRecDepth 100000 in
set_option maxHeartbeats 4000000 in
theorem s_H_mark (G : am_G) (x0 : Int32) (x1 : Int32) (x2 : Int32) (x3 : Int32) (σ : am_St) (r : Int32 × am_St) (Q : am_AQ) (e : f_H_mark x0 x1 x2 x3 σ = some r) (hr : am_Pi r Q) : am_AW G M_H_mark 0 [(0, .int x0), (1, .int x1), (2, .int x2), (3, .int x3)] [] σ Q :=
  (show am_Snd G M_H_mark 0 am_Pi _ from (sn_iload_n (pc := 0) (i := 0) dX3_mark_0 rfl (sn_bipush (pc := 1) (v := 9) dX3_mark_1 rfl (sn_ishl (pc := 3) dX3_mark_3 (sn_iload_n (pc := 4) (i := 1) dX3_mark_4 rfl (sn_bipush (pc := 5) (v := 6) dX3_mark_5 rfl (sn_ishl (pc := 7) dX3_mark_7 (sn_ior (pc := 8) dX3_mark_8 (sn_iload_n (pc := 9) (i := 2) dX3_mark_9 rfl (sn_iconst (pc := 10) (v := 3) dX3_mark_10 rfl (sn_ishl (pc := 11) dX3_mark_11 (sn_ior (pc := 12) dX3_mark_12 (sn_iload_n (pc := 13) (i := 3) dX3_mark_13 rfl (sn_ior (pc := 14) dX3_mark_14 (sn_reti (pc := 15) (R := fun x τ => (some ((x, τ)))) dX3_mark_15 rfl (fun _ _ _ _ e h => by cases e; exact h)))))))))))))))) _ _ _ _ _ ((eq_H_mark x0 x1 x2 x3 σ).symm.trans e) hr
noncomputable def cF_H_mark : am_Fn := fun _ args σ K => match args with
  | [.int z0, .int z1, .int z2, .int z3] => (f_H_mark z0 z1 z2 z3 σ).bind (fun p => K (some (.int p.1)) p.2)
  | _ => none
theorem cal_H_mark (G : am_G) : am_Cal G M_H_mark cF_H_mark := by
  intro ρ args σ K r e
  unfold cF_H_mark at e
  split at e
  · obtain ⟨p, h1, h2⟩ := am_bind_some e
    exact ⟨some (.int p.1), p.2, am_Met.of rfl (Nat.le_of_ble_eq_true rfl) (s_H_mark G _ _ _ _ σ p _ h1 ⟨rfl, rfl⟩), h2⟩
  · cases e
abbrev M_H_addFact : am_MD := (yX3_addFact, cX3_addFact, 5, (some .boolean), 1, 23)
theorem dX3_addFact_0 : decode cX3_addFact 0 = .ok (.aload_n 0, 1) := by decide +kernel
theorem dX3_addFact_1 : decode cX3_addFact 1 = .ok (.getfield 77, 3) := by decide +kernel
theorem dX3_addFact_4 : decode cX3_addFact 4 = .ok (.ifCond .lt 12, 3) := by decide +kernel
theorem dX3_addFact_7 : decode cX3_addFact 7 = .ok (.aload_n 0, 1) := by decide +kernel
theorem dX3_addFact_8 : decode cX3_addFact 8 = .ok (.getfield 77, 3) := by decide +kernel
theorem dX3_addFact_11 : decode cX3_addFact 11 = .ok (.bipush 16, 2) := by decide +kernel
theorem dX3_addFact_13 : decode cX3_addFact 13 = .ok (.if_icmp .lt 5, 3) := by decide +kernel
theorem dX3_addFact_16 : decode cX3_addFact 16 = .ok (.iconst 0, 1) := by decide +kernel
theorem dX3_addFact_17 : decode cX3_addFact 17 = .ok (.ireturn, 1) := by decide +kernel
theorem dX3_addFact_18 : decode cX3_addFact 18 = .ok (.aload_n 0, 1) := by decide +kernel
theorem dX3_addFact_19 : decode cX3_addFact 19 = .ok (.getfield 40, 3) := by decide +kernel
theorem dX3_addFact_22 : decode cX3_addFact 22 = .ok (.aload_n 0, 1) := by decide +kernel
theorem dX3_addFact_23 : decode cX3_addFact 23 = .ok (.getfield 77, 3) := by decide +kernel
theorem dX3_addFact_26 : decode cX3_addFact 26 = .ok (.iload_n 1, 1) := by decide +kernel
theorem dX3_addFact_27 : decode cX3_addFact 27 = .ok (.iload_n 2, 1) := by decide +kernel
theorem dX3_addFact_28 : decode cX3_addFact 28 = .ok (.iload_n 3, 1) := by decide +kernel
theorem dX3_addFact_29 : decode cX3_addFact 29 = .ok (.iload 4, 2) := by decide +kernel
theorem dX3_addFact_31 : decode cX3_addFact 31 = .ok (.invokestatic 153, 3) := by decide +kernel
theorem dX3_addFact_34 : decode cX3_addFact 34 = .ok (.iastore, 1) := by decide +kernel
theorem dX3_addFact_35 : decode cX3_addFact 35 = .ok (.aload_n 0, 1) := by decide +kernel
theorem dX3_addFact_36 : decode cX3_addFact 36 = .ok (.dup, 1) := by decide +kernel
theorem dX3_addFact_37 : decode cX3_addFact 37 = .ok (.getfield 77, 3) := by decide +kernel
theorem dX3_addFact_40 : decode cX3_addFact 40 = .ok (.iconst 1, 1) := by decide +kernel
theorem dX3_addFact_41 : decode cX3_addFact 41 = .ok (.iadd, 1) := by decide +kernel
theorem dX3_addFact_42 : decode cX3_addFact 42 = .ok (.putfield 77, 3) := by decide +kernel
theorem dX3_addFact_45 : decode cX3_addFact 45 = .ok (.iconst 1, 1) := by decide +kernel
theorem dX3_addFact_46 : decode cX3_addFact 46 = .ok (.ireturn, 1) := by decide +kernel
noncomputable def g_H_addFact_37 (x1 : Int32) (x2 : Int32) (x3 : Int32) (x4 : Int32) (σ : am_St) : Option (Int32 × am_St) :=
  if (σ.1 37 5) < 0 then
    some ((0, σ))
  else
    if (σ.1 37 5) < 16 then
      (f_H_mark x1 x2 x3 x4 σ).bind (fun p1 =>
        if am_ix (σ.1 37 5) 16 = true then
          let s2 := am_sI p1.2 45 (σ.1 37 5).toNatClampNeg p1.1
          let s3 := am_sI s2 37 5 ((s2.1 37 5) + 1)
          some ((1, s3))
        else none)
    else
      some ((0, σ))
noncomputable def f_H_addFact_37 (x1 : Int32) (x2 : Int32) (x3 : Int32) (x4 : Int32) (σ : am_St) : Option (Int32 × am_St) := am_lk (g_H_addFact_37 x1 x2 x3 x4 σ)
theorem eq_H_addFact_37 (x1 : Int32) (x2 : Int32) (x3 : Int32) (x4 : Int32) (σ : am_St) : f_H_addFact_37 x1 x2 x3 x4 σ = g_H_addFact_37 x1 x2 x3 x4 σ := am_lk_eq _
set_option maxRecDepth 100000 in
set_option maxHeartbeats 4000000 in
theorem s_H_addFact_37 (G : am_G) (x1 : Int32) (x2 : Int32) (x3 : Int32) (x4 : Int32) (σ : am_St) (r : Int32 × am_St) (Q : am_AQ) (e : f_H_addFact_37 x1 x2 x3 x4 σ = some r) (hr : am_Pi r Q) : am_AW G M_H_addFact 0 [(0, .ref 37), (1, .int x1), (2, .int x2), (3, .int x3), (4, .int x4)] [] σ Q :=
  (show am_Snd G M_H_addFact 0 am_Pi _ from (sn_aload_n (pc := 0) (i := 0) dX3_addFact_0 rfl (sn_gI (pc := 1) (h := 37) (f := 5) dX3_addFact_1 am_CL_3 sh_37 rfl (Nat.le_of_ble_eq_true rfl) tw_100 (sn_if_lt (pc := 4) (tgt := 16) dX3_addFact_4 rfl (sn_iconst (pc := 16) (v := 0) dX3_addFact_16 rfl (sn_retz (pc := 17) (R := fun x τ => (some ((x, τ)))) dX3_addFact_17 rfl (fun _ _ _ _ e h => by cases e; exact h))) (sn_aload_n (pc := 7) (i := 0) dX3_addFact_7 rfl (sn_gI (pc := 8) (h := 37) (f := 5) dX3_addFact_8 am_CL_3 sh_37 rfl (Nat.le_of_ble_eq_true rfl) tw_100 (sn_bipush (pc := 11) (v := 16) dX3_addFact_11 rfl (sn_icmp_lt (pc := 13) (tgt := 18) dX3_addFact_13 rfl (sn_aload_n (pc := 18) (i := 0) dX3_addFact_18 rfl (sn_gR (r0 := 45) (pc := 19) (h := 37) (f := 14) dX3_addFact_19 am_CL_3 sh_37 rfl (Nat.le_of_ble_eq_true rfl) tw_114 (sn_aload_n (pc := 22) (i := 0) dX3_addFact_22 rfl (sn_gI (pc := 23) (h := 37) (f := 5) dX3_addFact_23 am_CL_3 sh_37 rfl (Nat.le_of_ble_eq_true rfl) tw_100 (sn_iload_n (pc := 26) (i := 1) dX3_addFact_26 rfl (sn_iload_n (pc := 27) (i := 2) dX3_addFact_27 rfl (sn_iload_n (pc := 28) (i := 3) dX3_addFact_28 rfl (sn_iload (pc := 29) dX3_addFact_29 (sn_callS (pc := 31) (N := M_H_mark) dX3_addFact_31 (cal_H_mark G) tw_418 tw_419 tw_2 tw_420 dsc_X3_mark rfl (sn_sI (pc := 34) (h := 45) dX3_addFact_34 sh_45 (sn_aload_n (pc := 35) (i := 0) dX3_addFact_35 rfl (sn_dup (pc := 36) dX3_addFact_36 (sn_gI (pc := 37) (h := 37) (f := 5) dX3_addFact_37 am_CL_3 sh_37 rfl (Nat.le_of_ble_eq_true rfl) tw_100 (sn_iconst (pc := 40) (v := 1) dX3_addFact_40 rfl (sn_iadd (pc := 41) dX3_addFact_41 (sn_pI (pc := 42) (h := 37) (f := 5) dX3_addFact_42 am_CL_3 sh_37 rfl (Nat.le_of_ble_eq_true rfl) tw_100 rfl rfl (sn_iconst (pc := 45) (v := 1) dX3_addFact_45 rfl (sn_retz (pc := 46) (R := fun x τ => (some ((x, τ)))) dX3_addFact_46 rfl (fun _ _ _ _ e h => by cases e; exact h))))))))))))))))))) (sn_iconst (pc := 16) (v := 0) dX3_addFact_16 rfl (sn_retz (pc := 17) (R := fun x τ => (some ((x, τ)))) dX3_addFact_17 rfl (fun _ _ _ _ e h => by cases e; exact h))))))))))) _ _ _ _ _ ((eq_H_addFact_37 x1 x2 x3 x4 σ).symm.trans e) hr
noncomputable def cF_H_addFact_37 : am_Fn := fun _ args σ K => match args with
  | [.ref q0, .int z1, .int z2, .int z3, .int z4] => match Nat.beq q0 37 with
    | true => (f_H_addFact_37 z1 z2 z3 z4 σ).bind (fun p => K (some (.int p.1)) p.2)
    | _ => none
  | _ => none
theorem cal_H_addFact_37 (G : am_G) : am_Cal G M_H_addFact cF_H_addFact_37 := by
  intro ρ args σ K r e
  unfold cF_H_addFact_37 at e
  split at e
  · split at e
    · rename_i hq0
      obtain ⟨p, h1, h2⟩ := am_bind_some e
      rw [Nat.eq_of_beq_eq_true hq0]
      exact ⟨some (.int p.1), p.2, am_Met.of rfl (Nat.le_of_ble_eq_true rfl) (s_H_addFact_37 G _ _ _ _ σ p _ h1 ⟨rfl, rfl⟩), h2⟩
    · cases e
  · cases e
