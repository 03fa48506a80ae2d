abbrev M_X_deed : am_MD := (yX11_deed, cX11_deed, 4, (some .int), 1, 22)
theorem dX11_deed_0 : decode cX11_deed 0 = .ok (.aload_n 0, 1) := by decide +kernel
theorem dX11_deed_1 : decode cX11_deed 1 = .ok (.getfield 10, 3) := by decide +kernel
theorem dX11_deed_4 : decode cX11_deed 4 = .ok (.iload_n 1, 1) := by decide +kernel
theorem dX11_deed_5 : decode cX11_deed 5 = .ok (.invokevirtual 110, 3) := by decide +kernel
theorem dX11_deed_8 : decode cX11_deed 8 = .ok (.ifCond .eq 14, 3) := by decide +kernel
theorem dX11_deed_11 : decode cX11_deed 11 = .ok (.aload_n 0, 1) := by decide +kernel
theorem dX11_deed_12 : decode cX11_deed 12 = .ok (.getfield 10, 3) := by decide +kernel
theorem dX11_deed_15 : decode cX11_deed 15 = .ok (.iload_n 2, 1) := by decide +kernel
theorem dX11_deed_16 : decode cX11_deed 16 = .ok (.invokevirtual 103, 3) := by decide +kernel
theorem dX11_deed_19 : decode cX11_deed 19 = .ok (.ifCond .ne 9, 3) := by decide +kernel
theorem dX11_deed_22 : decode cX11_deed 22 = .ok (.aload_n 0, 1) := by decide +kernel
theorem dX11_deed_23 : decode cX11_deed 23 = .ok (.iconst (-1), 1) := by decide +kernel
theorem dX11_deed_24 : decode cX11_deed 24 = .ok (.invokevirtual 55, 3) := by decide +kernel
theorem dX11_deed_27 : decode cX11_deed 27 = .ok (.ireturn, 1) := by decide +kernel
theorem dX11_deed_28 : decode cX11_deed 28 = .ok (.aload_n 0, 1) := by decide +kernel
theorem dX11_deed_29 : decode cX11_deed 29 = .ok (.getfield 10, 3) := by decide +kernel
theorem dX11_deed_32 : decode cX11_deed 32 = .ok (.invokevirtual 121, 3) := by decide +kernel
theorem dX11_deed_35 : decode cX11_deed 35 = .ok (.istore_n 3, 1) := by decide +kernel
theorem dX11_deed_36 : decode cX11_deed 36 = .ok (.aload_n 0, 1) := by decide +kernel
theorem dX11_deed_37 : decode cX11_deed 37 = .ok (.getfield 10, 3) := by decide +kernel
theorem dX11_deed_40 : decode cX11_deed 40 = .ok (.iload_n 1, 1) := by decide +kernel
theorem dX11_deed_41 : decode cX11_deed 41 = .ok (.iload_n 2, 1) := by decide +kernel
theorem dX11_deed_42 : decode cX11_deed 42 = .ok (.invokevirtual 125, 3) := by decide +kernel
theorem dX11_deed_45 : decode cX11_deed 45 = .ok (.iload_n 3, 1) := by decide +kernel
theorem dX11_deed_46 : decode cX11_deed 46 = .ok (.ireturn, 1) := by decide +kernel
noncomputable def g_X_deed_22 (σ : am_St) : Option (Int32 × am_St) :=
  (f_X_refuse (-1) σ).bind (fun p1 =>
    some ((p1.1, p1.2)))
noncomputable def f_X_deed_22 (σ : am_St) : Option (Int32 × am_St) := am_lk (g_X_deed_22  σ)
theorem eq_X_deed_22 (σ : am_St) : f_X_deed_22  σ = g_X_deed_22  σ := am_lk_eq _
set_option maxRecDepth 100000 in
set_option maxHeartbeats 4000000 in
theorem s_X_deed_22 (G : am_G) (σ : am_St) (r : Int32 × am_St) (Q : am_AQ) (e : f_X_deed_22  σ = some r) (hr : am_Pi r Q) : am_AW G M_X_deed 22 [(0, .ref 0)] [] σ Q :=
  (show am_Snd G M_X_deed 22 am_Pi _ from (sn_aload_n (pc := 22) (i := 0) dX11_deed_22 rfl (sn_iconst (pc := 23) (v := (-1)) dX11_deed_23 (show Int32.ofInt (-1) = (-1) by decide) (sn_callV (pc := 24) (N := M_X_refuse) dX11_deed_24 (cal_X_refuse G) sh_0 rfl tw_251 tw_253 tp_0 tw_1 tw_254 dsc_X11_refuse rfl (sn_reti (pc := 27) (R := fun x τ => (some ((x, τ)))) dX11_deed_27 rfl (fun _ _ _ _ e h => by cases e; exact h)))))) _ _ _ _ _ ((eq_X_deed_22  σ).symm.trans e) hr
noncomputable def g_X_deed_36 (x1 : Int32) (x2 : Int32) (x3 : Int32) (σ : am_St) : Option (Int32 × am_St) :=
  (f_H_putDeed_1 x1 x2 σ).bind (fun p1 =>
    some ((x3, p1)))
noncomputable def f_X_deed_36 (x1 : Int32) (x2 : Int32) (x3 : Int32) (σ : am_St) : Option (Int32 × am_St) := am_lk (g_X_deed_36 x1 x2 x3 σ)
theorem eq_X_deed_36 (x1 : Int32) (x2 : Int32) (x3 : Int32) (σ : am_St) : f_X_deed_36 x1 x2 x3 σ = g_X_deed_36 x1 x2 x3 σ := am_lk_eq _
set_option maxRecDepth 100000 in
set_option maxHeartbeats 4000000 in
theorem s_X_deed_36 (G : am_G) (x1 : Int32) (x2 : Int32) (x3 : Int32) (σ : am_St) (r : Int32 × am_St) (Q : am_AQ) (e : f_X_deed_36 x1 x2 x3 σ = some r) (hr : am_Pi r Q) : am_AW G M_X_deed 36 [(3, .int x3), (2, .int x2), (1, .int x1), (0, .ref 0)] [] σ Q :=
  (show am_Snd G M_X_deed 36 am_Pi _ from (sn_aload_n (pc := 36) (i := 0) dX11_deed_36 rfl (sn_gR (r0 := 1) (pc := 37) (h := 0) (f := 0) dX11_deed_37 am_CL_10 sh_0 rfl (Nat.le_of_ble_eq_true rfl) tw_219 (sn_iload_n (pc := 40) (i := 1) dX11_deed_40 rfl (sn_iload_n (pc := 41) (i := 2) dX11_deed_41 rfl (sn_callV (pc := 42) (N := M_H_putDeed) dX11_deed_42 (cal_H_putDeed_1 G) sh_1 rfl tw_540 tw_316 tw_317 tw_2 tw_318 dsc_X3_putDeed rfl (sn_iload_n (pc := 45) (i := 3) dX11_deed_45 rfl (sn_reti (pc := 46) (R := fun x τ => (some ((x, τ)))) dX11_deed_46 rfl (fun _ _ _ _ e h => by cases e; exact h))))))))) _ _ _ _ _ ((eq_X_deed_36 x1 x2 x3 σ).symm.trans e) hr
noncomputable def g_X_deed (x1 : Int32) (x2 : Int32) (σ : am_St) : Option (Int32 × am_St) :=
  (f_H_hasRoom_1 x1 σ).bind (fun p1 =>
    if p1.1 = 0 then
      f_X_deed_22 p1.2
    else
      (f_H_hasMinute_1 x2 p1.2).bind (fun p2 =>
        if p2.1 = 0 then
          f_X_deed_22 p2.2
        else
          (f_H_deedInOne_1 p2.2).bind (fun p3 =>
            f_X_deed_36 x1 x2 p3.1 p3.2)))
noncomputable def f_X_deed (x1 : Int32) (x2 : Int32) (σ : am_St) : Option (Int32 × am_St) := am_lk (g_X_deed x1 x2 σ)
theorem eq_X_deed (x1 : Int32) (x2 : Int32) (σ : am_St) : f_X_deed x1 x2 σ = g_X_deed x1 x2 σ := am_lk_eq _
set_option maxRecDepth 100000 in
set_option maxHeartbeats 4000000 in
theorem s_X_deed (G : am_G) (x1 : Int32) (x2 : Int32) (σ : am_St) (r : Int32 × am_St) (Q : am_AQ) (e : f_X_deed x1 x2 σ = some r) (hr : am_Pi r Q) : am_AW G M_X_deed 0 [(0, .ref 0), (1, .int x1), (2, .int x2)] [] σ Q :=
  (show am_Snd G M_X_deed 0 am_Pi _ from (sn_aload_n (pc := 0) (i := 0) dX11_deed_0 rfl (sn_gR (r0 := 1) (pc := 1) (h := 0) (f := 0) dX11_deed_1 am_CL_10 sh_0 rfl (Nat.le_of_ble_eq_true rfl) tw_219 (sn_iload_n (pc := 4) (i := 1) dX11_deed_4 rfl (sn_callV (pc := 5) (N := M_H_hasRoom) dX11_deed_5 (cal_H_hasRoom_1 G) sh_1 rfl tw_529 tw_324 tw_325 tw_2 tw_326 dsc_X3_hasRoom rfl (sn_if_eq (pc := 8) (tgt := 22) dX11_deed_8 rfl (sn_lf (pc := 22) (ln_a (i := 0) (q := 0) (ln_end (o := fun τ => f_X_deed_22 τ) (fun _ _ _ e h => s_X_deed_22 G  _ _ _ e h)))) (sn_aload_n (pc := 11) (i := 0) dX11_deed_11 rfl (sn_gR (r0 := 1) (pc := 12) (h := 0) (f := 0) dX11_deed_12 am_CL_10 sh_0 rfl (Nat.le_of_ble_eq_true rfl) tw_219 (sn_iload_n (pc := 15) (i := 2) dX11_deed_15 rfl (sn_callV (pc := 16) (N := M_H_hasMinute) dX11_deed_16 (cal_H_hasMinute_1 G) sh_1 rfl tw_520 tw_398 tw_399 tw_2 tw_400 dsc_X3_hasMinute rfl (sn_if_ne (pc := 19) (tgt := 28) dX11_deed_19 rfl (sn_aload_n (pc := 28) (i := 0) dX11_deed_28 rfl (sn_gR (r0 := 1) (pc := 29) (h := 0) (f := 0) dX11_deed_29 am_CL_10 sh_0 rfl (Nat.le_of_ble_eq_true rfl) tw_219 (sn_callV (pc := 32) (N := M_H_deedInOne) dX11_deed_32 (cal_H_deedInOne_1 G) sh_1 rfl tw_536 tw_537 tw_538 tw_2 tw_539 dsc_X3_deedInOne rfl (sn_istore_n (pc := 35) (i := 3) dX11_deed_35 rfl (Nat.le_of_ble_eq_true rfl) (sn_lf (pc := 36) (ln_a (i := 0) (q := 0) (ln_i (i := 1) (fun z0 => (ln_i (i := 2) (fun z1 => (ln_i (i := 3) (fun z2 => (ln_end (o := fun τ => f_X_deed_36 z0 z1 z2 τ) (fun _ _ _ e h => s_X_deed_36 G z0 z1 z2 _ _ _ e h)))))))))))))) (sn_lf (pc := 22) (ln_a (i := 0) (q := 0) (ln_end (o := fun τ => f_X_deed_22 τ) (fun _ _ _ e h => s_X_deed_22 G  _ _ _ e h))))))))))))))) _ _ _ _ _ ((eq_X_deed x1 x2 σ).symm.trans e) hr
noncomputable def cF_X_deed : am_Fn := fun _ args σ K => match args with
  | [.ref q0, .int z1, .int z2] => match Nat.beq q0 0 with
    | true => (f_X_deed z1 z2 σ).bind (fun p => K (some (.int p.1)) p.2)
    | _ => none
  | _ => none
theorem cal_X_deed (G : am_G) : am_Cal G M_X_deed cF_X_deed := by
  intro ρ args σ K r e
  unfold cF_X_deed at e
  split at e
  · split at e
    · rename_i hq0
      obtain ⟨p, h1, h2⟩ := am_bind_some e
      rw [Nat.eq_of_beq_eq_true hq0]
      exact ⟨some (.int p.1), p.2, am_Met.of rfl (Nat.le_of_ble_eq_true rfl) (s_X_deed G _ _ σ p _ h1 ⟨rfl, rfl⟩), h2⟩
    · cases e
  · cases e
abbrev M_X_isPoint : am_MD := (yX11_isPoint, cX11_isPoint, 3, (some .boolean), 1, 21)
theorem dX11_isPoint_0 : decode cX11_isPoint 0 = .ok (.aload_n 0, 1) := by decide +kernel
theorem dX11_isPoint_1 : decode cX11_isPoint 1 = .ok (.getfield 10, 3) := by decide +kernel
theorem dX11_isPoint_4 : decode cX11_isPoint 4 = .ok (.iload_n 1, 1) := by decide +kernel
theorem dX11_isPoint_5 : decode cX11_isPoint 5 = .ok (.invokevirtual 81, 3) := by decide +kernel
theorem dX11_isPoint_8 : decode cX11_isPoint 8 = .ok (.ifCond .eq 18, 3) := by decide +kernel
theorem dX11_isPoint_11 : decode cX11_isPoint 11 = .ok (.aload_n 0, 1) := by decide +kernel
theorem dX11_isPoint_12 : decode cX11_isPoint 12 = .ok (.getfield 10, 3) := by decide +kernel
theorem dX11_isPoint_15 : decode cX11_isPoint 15 = .ok (.iload_n 2, 1) := by decide +kernel
theorem dX11_isPoint_16 : decode cX11_isPoint 16 = .ok (.invokevirtual 103, 3) := by decide +kernel
theorem dX11_isPoint_19 : decode cX11_isPoint 19 = .ok (.ifCond .eq 7, 3) := by decide +kernel
theorem dX11_isPoint_22 : decode cX11_isPoint 22 = .ok (.iconst 1, 1) := by decide +kernel
theorem dX11_isPoint_23 : decode cX11_isPoint 23 = .ok (.goto 4, 3) := by decide +kernel
theorem dX11_isPoint_26 : decode cX11_isPoint 26 = .ok (.iconst 0, 1) := by decide +kernel
theorem dX11_isPoint_27 : decode cX11_isPoint 27 = .ok (.ireturn, 1) := by decide +kernel
noncomputable def g_X_isPoint (x1 : Int32) (x2 : Int32) (σ : am_St) : Option (Int32 × am_St) :=
  (f_H_hasChild_1 x1 σ).bind (fun p1 =>
    if p1.1 = 0 then
      some ((0, p1.2))
    else
      (f_H_hasMinute_1 x2 p1.2).bind (fun p2 =>
        if p2.1 = 0 then
          some ((0, p2.2))
        else
          some ((1, p2.2))))
noncomputable def f_X_isPoint (x1 : Int32) (x2 : Int32) (σ : am_St) : Option (Int32 × am_St) := am_lk (g_X_isPoint x1 x2 σ)
theorem eq_X_isPoint (x1 : Int32) (x2 : Int32) (σ : am_St) : f_X_isPoint x1 x2 σ = g_X_isPoint x1 x2 σ := am_lk_eq _
set_option maxRecDepth 100000 in
set_option maxHeartbeats 4000000 in
theorem s_X_isPoint (G : am_G) (x1 : Int32) (x2 : Int32) (σ : am_St) (r : Int32 × am_St) (Q : am_AQ) (e : f_X_isPoint x1 x2 σ = some r) (hr : am_Pi r Q) : am_AW G M_X_isPoint 0 [(0, .ref 0), (1, .int x1), (2, .int x2)] [] σ Q :=
  (show am_Snd G M_X_isPoint 0 am_Pi _ from (sn_aload_n (pc := 0) (i := 0) dX11_isPoint_0 rfl (sn_gR (r0 := 1) (pc := 1) (h := 0) (f := 0) dX11_isPoint_1 am_CL_10 sh_0 rfl (Nat.le_of_ble_eq_true rfl) tw_219 (sn_iload_n (pc := 4) (i := 1) dX11_isPoint_4 rfl (sn_callV (pc := 5) (N := M_H_hasChild) dX11_isPoint_5 (cal_H_hasChild_1 G) sh_1 rfl tw_434 tw_385 tw_386 tw_2 tw_387 dsc_X3_hasChild rfl (sn_if_eq (pc := 8) (tgt := 26) dX11_isPoint_8 rfl (sn_iconst (pc := 26) (v := 0) dX11_isPoint_26 rfl (sn_retz (pc := 27) (R := fun x τ => (some ((x, τ)))) dX11_isPoint_27 rfl (fun _ _ _ _ e h => by cases e; exact h))) (sn_aload_n (pc := 11) (i := 0) dX11_isPoint_11 rfl (sn_gR (r0 := 1) (pc := 12) (h := 0) (f := 0) dX11_isPoint_12 am_CL_10 sh_0 rfl (Nat.le_of_ble_eq_true rfl) tw_219 (sn_iload_n (pc := 15) (i := 2) dX11_isPoint_15 rfl (sn_callV (pc := 16) (N := M_H_hasMinute) dX11_isPoint_16 (cal_H_hasMinute_1 G) sh_1 rfl tw_520 tw_398 tw_399 tw_2 tw_400 dsc_X3_hasMinute rfl (sn_if_eq (pc := 19) (tgt := 26) dX11_isPoint_19 rfl (sn_iconst (pc := 26) (v := 0) dX11_isPoint_26 rfl (sn_retz (pc := 27) (R := fun x τ => (some ((x, τ)))) dX11_isPoint_27 rfl (fun _ _ _ _ e h => by cases e; exact h))) (sn_iconst (pc := 22) (v := 1) dX11_isPoint_22 rfl (sn_goto (pc := 23) (tgt := 27) dX11_isPoint_23 rfl (sn_retz (pc := 27) (R := fun x τ => (some ((x, τ)))) dX11_isPoint_27 rfl (fun _ _ _ _ e h => by cases e; exact h))))))))))))))) _ _ _ _ _ ((eq_X_isPoint x1 x2 σ).symm.trans e) hr
noncomputable def cF_X_isPoint : am_Fn := fun _ args σ K => match args with
  | [.ref q0, .int z1, .int z2] => match Nat.beq q0 0 with
    | true => (f_X_isPoint z1 z2 σ).bind (fun p => K (some (.int p.1)) p.2)
    | _ => none
  | _ => none
theorem cal_X_isPoint (G : am_G) : am_Cal G M_X_isPoint cF_X_isPoint := by
  intro ρ args σ K r e
  unfold cF_X_isPoint at e
  split at e
  · split at e
    · rename_i hq0
      obtain ⟨p, h1, h2⟩ := am_bind_some e
      rw [Nat.eq_of_beq_eq_true hq0]
      exact ⟨some (.int p.1), p.2, am_Met.of rfl (Nat.le_of_ble_eq_true rfl) (s_X_isPoint G _ _ σ p _ h1 ⟨rfl, rfl⟩), h2⟩
    · cases e
  · cases e
abbrev M_X_isZeroOrOne : am_MD := (yX11_isZeroOrOne, cX11_isZeroOrOne, 1, (some .boolean), 0, 0)
theorem dX11_isZeroOrOne_0 : decode cX11_isZeroOrOne 0 = .ok (.iload_n 0, 1) := by decide +kernel
theorem dX11_isZeroOrOne_1 : decode cX11_isZeroOrOne 1 = .ok (.ifCond .eq 8, 3) := by decide +kernel
theorem dX11_isZeroOrOne_4 : decode cX11_isZeroOrOne 4 = .ok (.iload_n 0, 1) := by decide +kernel
theorem dX11_isZeroOrOne_5 : decode cX11_isZeroOrOne 5 = .ok (.iconst 1, 1) := by decide +kernel
theorem dX11_isZeroOrOne_6 : decode cX11_isZeroOrOne 6 = .ok (.if_icmp .ne 7, 3) := by decide +kernel
theorem dX11_isZeroOrOne_9 : decode cX11_isZeroOrOne 9 = .ok (.iconst 1, 1) := by decide +kernel
theorem dX11_isZeroOrOne_10 : decode cX11_isZeroOrOne 10 = .ok (.goto 4, 3) := by decide +kernel
theorem dX11_isZeroOrOne_13 : decode cX11_isZeroOrOne 13 = .ok (.iconst 0, 1) := by decide +kernel
theorem dX11_isZeroOrOne_14 : decode cX11_isZeroOrOne 14 = .ok (.ireturn, 1) := by decide +kernel
noncomputable def g_X_isZeroOrOne (x0 : Int32) (σ : am_St) : Option (Int32 × am_St) :=
  if x0 = 0 then
    some ((1, σ))
  else
    if x0 = 1 then
      some ((1, σ))
    else
      some ((0, σ))
noncomputable def f_X_isZeroOrOne (x0 : Int32) (σ : am_St) : Option (Int32 × am_St) := am_lk (g_X_isZeroOrOne x0 σ)
theorem eq_X_isZeroOrOne (x0 : Int32) (σ : am_St) : f_X_isZeroOrOne x0 σ = g_X_isZeroOrOne x0 σ := am_lk_eq _
set_option maxRecDepth 100000 in
set_option maxHeartbeats 4000000 in
theorem s_X_isZeroOrOne (G : am_G) (x0 : Int32) (σ : am_St) (r : Int32 × am_St) (Q : am_AQ) (e : f_X_isZeroOrOne x0 σ = some r) (hr : am_Pi r Q) : am_AW G M_X_isZeroOrOne 0 [(0, .int x0)] [] σ Q :=
  (show am_Snd G M_X_isZeroOrOne 0 am_Pi _ from (sn_iload_n (pc := 0) (i := 0) dX11_isZeroOrOne_0 rfl (sn_if_eq (pc := 1) (tgt := 9) dX11_isZeroOrOne_1 rfl (sn_iconst (pc := 9) (v := 1) dX11_isZeroOrOne_9 rfl (sn_goto (pc := 10) (tgt := 14) dX11_isZeroOrOne_10 rfl (sn_retz (pc := 14) (R := fun x τ => (some ((x, τ)))) dX11_isZeroOrOne_14 rfl (fun _ _ _ _ e h => by cases e; exact h)))) (sn_iload_n (pc := 4) (i := 0) dX11_isZeroOrOne_4 rfl (sn_iconst (pc := 5) (v := 1) dX11_isZeroOrOne_5 rfl (sn_icmp_ne (pc := 6) (tgt := 13) dX11_isZeroOrOne_6 rfl (sn_iconst (pc := 13) (v := 0) dX11_isZeroOrOne_13 rfl (sn_retz (pc := 14) (R := fun x τ => (some ((x, τ)))) dX11_isZeroOrOne_14 rfl (fun _ _ _ _ e h => by cases e; exact h))) (sn_iconst (pc := 9) (v := 1) dX11_isZeroOrOne_9 rfl (sn_goto (pc := 10) (tgt := 14) dX11_isZeroOrOne_10 rfl (sn_retz (pc := 14) (R := fun x τ => (some ((x, τ)))) dX11_isZeroOrOne_14 rfl (fun _ _ _ _ e h => by cases e; exact h)))))))))) _ _ _ _ _ ((eq_X_isZeroOrOne x0 σ).symm.trans e) hr
noncomputable def cF_X_isZeroOrOne : am_Fn := fun _ args σ K => match args with
  | [.int z0] => (f_X_isZeroOrOne z0 σ).bind (fun p => K (some (.int p.1)) p.2)
  | _ => none
theorem cal_X_isZeroOrOne (G : am_G) : am_Cal G M_X_isZeroOrOne cF_X_isZeroOrOne := by
  intro ρ args σ K r e
  unfold cF_X_isZeroOrOne at e
  split at e
  · obtain ⟨p, h1, h2⟩ := am_bind_some e
    exact ⟨some (.int p.1), p.2, am_Met.of rfl (Nat.le_of_ble_eq_true rfl) (s_X_isZeroOrOne G _ σ p _ h1 ⟨rfl, rfl⟩), h2⟩
  · cases e
noncomputable def g_H_addFact_1 (x1 : Int32) (x2 : Int32) (x3 : Int32) (x4 : Int32) (σ : am_St) : Option (Int32 × am_St) :=
  if (σ.1 1 5) < 0 then
    some ((0, σ))
  else
    if (σ.1 1 5) < 16 then
      (f_H_mark x1 x2 x3 x4 σ).bind (fun p1 =>
        if am_ix (σ.1 1 5) 16 = true then
          let s2 := am_sI p1.2 9 (σ.1 1 5).toNatClampNeg p1.1
          let s3 := am_sI s2 1 5 ((s2.1 1 5) + 1)
          some ((1, s3))
        else none)
    else
      some ((0, σ))
noncomputable def f_H_addFact_1 (x1 : Int32) (x2 : Int32) (x3 : Int32) (x4 : Int32) (σ : am_St) : Option (Int32 × am_St) := am_lk (g_H_addFact_1 x1 x2 x3 x4 σ)
theorem eq_H_addFact_1 (x1 : Int32) (x2 : Int32) (x3 : Int32) (x4 : Int32) (σ : am_St) : f_H_addFact_1 x1 x2 x3 x4 σ = g_H_addFact_1 x1 x2 x3 x4 σ := am_lk_eq _
set_option maxRecDepth 100000 in
set_option maxHeartbeats 4000000 in
theorem s_H_addFact_1 (G : am_G) (x1 : Int32) (x2 : Int32) (x3 : Int32) (x4 : Int32) (σ : am_St) (r : Int32 × am_St) (Q : am_AQ) (e : f_H_addFact_1 x1 x2 x3 x4 σ = some r) (hr : am_Pi r Q) : am_AW G M_H_addFact 0 [(0, .ref 1), (1, .int x1), (2, .int x2), (3, .int x3), (4, .int x4)] [] σ Q :=
  (show am_Snd G M_H_addFact 0 am_Pi _ from (sn_aload_n (pc := 0) (i := 0) dX3_addFact_0 rfl (sn_gI (pc := 1) (h := 1) (f := 5) dX3_addFact_1 am_CL_3 sh_1 rfl (Nat.le_of_ble_eq_true rfl) tw_100 (sn_if_lt (pc := 4) (tgt := 16) dX3_addFact_4 rfl (sn_iconst (pc := 16) (v := 0) dX3_addFact_16 rfl (sn_retz (pc := 17) (R := fun x τ => (some ((x, τ)))) dX3_addFact_17 rfl (fun _ _ _ _ e h => by cases e; exact h))) (sn_aload_n (pc := 7) (i := 0) dX3_addFact_7 rfl (sn_gI (pc := 8) (h := 1) (f := 5) dX3_addFact_8 am_CL_3 sh_1 rfl (Nat.le_of_ble_eq_true rfl) tw_100 (sn_bipush (pc := 11) (v := 16) dX3_addFact_11 rfl (sn_icmp_lt (pc := 13) (tgt := 18) dX3_addFact_13 rfl (sn_aload_n (pc := 18) (i := 0) dX3_addFact_18 rfl (sn_gR (r0 := 9) (pc := 19) (h := 1) (f := 14) dX3_addFact_19 am_CL_3 sh_1 rfl (Nat.le_of_ble_eq_true rfl) tw_114 (sn_aload_n (pc := 22) (i := 0) dX3_addFact_22 rfl (sn_gI (pc := 23) (h := 1) (f := 5) dX3_addFact_23 am_CL_3 sh_1 rfl (Nat.le_of_ble_eq_true rfl) tw_100 (sn_iload_n (pc := 26) (i := 1) dX3_addFact_26 rfl (sn_iload_n (pc := 27) (i := 2) dX3_addFact_27 rfl (sn_iload_n (pc := 28) (i := 3) dX3_addFact_28 rfl (sn_iload (pc := 29) dX3_addFact_29 (sn_callS (pc := 31) (N := M_H_mark) dX3_addFact_31 (cal_H_mark G) tw_418 tw_419 tw_2 tw_420 dsc_X3_mark rfl (sn_sI (pc := 34) (h := 9) dX3_addFact_34 sh_9 (sn_aload_n (pc := 35) (i := 0) dX3_addFact_35 rfl (sn_dup (pc := 36) dX3_addFact_36 (sn_gI (pc := 37) (h := 1) (f := 5) dX3_addFact_37 am_CL_3 sh_1 rfl (Nat.le_of_ble_eq_true rfl) tw_100 (sn_iconst (pc := 40) (v := 1) dX3_addFact_40 rfl (sn_iadd (pc := 41) dX3_addFact_41 (sn_pI (pc := 42) (h := 1) (f := 5) dX3_addFact_42 am_CL_3 sh_1 rfl (Nat.le_of_ble_eq_true rfl) tw_100 rfl rfl (sn_iconst (pc := 45) (v := 1) dX3_addFact_45 rfl (sn_retz (pc := 46) (R := fun x τ => (some ((x, τ)))) dX3_addFact_46 rfl (fun _ _ _ _ e h => by cases e; exact h))))))))))))))))))) (sn_iconst (pc := 16) (v := 0) dX3_addFact_16 rfl (sn_retz (pc := 17) (R := fun x τ => (some ((x, τ)))) dX3_addFact_17 rfl (fun _ _ _ _ e h => by cases e; exact h))))))))))) _ _ _ _ _ ((eq_H_addFact_1 x1 x2 x3 x4 σ).symm.trans e) hr
noncomputable def cF_H_addFact_1 : am_Fn := fun _ args σ K => match args with
  | [.ref q0, .int z1, .int z2, .int z3, .int z4] => match Nat.beq q0 1 with
    | true => (f_H_addFact_1 z1 z2 z3 z4 σ).bind (fun p => K (some (.int p.1)) p.2)
    | _ => none
  | _ => none
theorem cal_H_addFact_1 (G : am_G) : am_Cal G M_H_addFact cF_H_addFact_1 := by
  intro ρ args σ K r e
  unfold cF_H_addFact_1 at e
  split at e
  · split at e
    · rename_i hq0
      obtain ⟨p, h1, h2⟩ := am_bind_some e
      rw [Nat.eq_of_beq_eq_true hq0]
      exact ⟨some (.int p.1), p.2, am_Met.of rfl (Nat.le_of_ble_eq_true rfl) (s_H_addFact_1 G _ _ _ _ σ p _ h1 ⟨rfl, rfl⟩), h2⟩
    · cases e
  · cases e
noncomputable def g_H_stepsOf_1 (x1 : Int32) (σ : am_St) : Option (Int32 × am_St) :=
  if x1 < 0 then
    some ((0, σ))
  else
    if 4 ≤ x1 then
      some ((0, σ))
    else
      if am_ix x1 4 = true then
        some (((σ.1 2 x1.toNatClampNeg) ||| (1 <<< (x1 &&& 31)), σ))
      else none
noncomputable def f_H_stepsOf_1 (x1 : Int32) (σ : am_St) : Option (Int32 × am_St) := am_lk (g_H_stepsOf_1 x1 σ)
theorem eq_H_stepsOf_1 (x1 : Int32) (σ : am_St) : f_H_stepsOf_1 x1 σ = g_H_stepsOf_1 x1 σ := am_lk_eq _
set_option maxRecDepth 100000 in
set_option maxHeartbeats 4000000 in
theorem s_H_stepsOf_1 (G : am_G) (x1 : Int32) (σ : am_St) (r : Int32 × am_St) (Q : am_AQ) (e : f_H_stepsOf_1 x1 σ = some r) (hr : am_Pi r Q) : am_AW G M_H_stepsOf 0 [(0, .ref 1), (1, .int x1)] [] σ Q :=
  (show am_Snd G M_H_stepsOf 0 am_Pi _ from (sn_iload_n (pc := 0) (i := 1) dX3_stepsOf_0 rfl (sn_if_lt (pc := 1) (tgt := 26) dX3_stepsOf_1 rfl (sn_iconst (pc := 26) (v := 0) dX3_stepsOf_26 rfl (sn_reti (pc := 27) (R := fun x τ => (some ((x, τ)))) dX3_stepsOf_27 rfl (fun _ _ _ _ e h => by cases e; exact h))) (sn_iload_n (pc := 4) (i := 1) dX3_stepsOf_4 rfl (sn_aload_n (pc := 5) (i := 0) dX3_stepsOf_5 rfl (sn_gR (r0 := 2) (pc := 6) (h := 1) (f := 7) dX3_stepsOf_6 am_CL_3 sh_1 rfl (Nat.le_of_ble_eq_true rfl) tw_107 (sn_len (pc := 9) (h := 2) (v := 4) dX3_stepsOf_9 sh_2 rfl (sn_icmp_ge (pc := 10) (tgt := 26) dX3_stepsOf_10 rfl (sn_iconst (pc := 26) (v := 0) dX3_stepsOf_26 rfl (sn_reti (pc := 27) (R := fun x τ => (some ((x, τ)))) dX3_stepsOf_27 rfl (fun _ _ _ _ e h => by cases e; exact h))) (sn_aload_n (pc := 13) (i := 0) dX3_stepsOf_13 rfl (sn_gR (r0 := 2) (pc := 14) (h := 1) (f := 7) dX3_stepsOf_14 am_CL_3 sh_1 rfl (Nat.le_of_ble_eq_true rfl) tw_107 (sn_iload_n (pc := 17) (i := 1) dX3_stepsOf_17 rfl (sn_aI (pc := 18) (h := 2) dX3_stepsOf_18 sh_2 (sn_iconst (pc := 19) (v := 1) dX3_stepsOf_19 rfl (sn_iload_n (pc := 20) (i := 1) dX3_stepsOf_20 rfl (sn_ishl (pc := 21) dX3_stepsOf_21 (sn_ior (pc := 22) dX3_stepsOf_22 (sn_goto (pc := 23) (tgt := 27) dX3_stepsOf_23 rfl (sn_reti (pc := 27) (R := fun x τ => (some ((x, τ)))) dX3_stepsOf_27 rfl (fun _ _ _ _ e h => by cases e; exact h))))))))))))))))))) _ _ _ _ _ ((eq_H_stepsOf_1 x1 σ).symm.trans e) hr
noncomputable def cF_H_stepsOf_1 : am_Fn := fun _ args σ K => match args with
  | [.ref q0, .int z1] => match Nat.beq q0 1 with
    | true => (f_H_stepsOf_1 z1 σ).bind (fun p => K (some (.int p.1)) p.2)
    | _ => none
  | _ => none
theorem cal_H_stepsOf_1 (G : am_G) : am_Cal G M_H_stepsOf cF_H_stepsOf_1 := by
  intro ρ args σ K r e
  unfold cF_H_stepsOf_1 at e
  split at e
  · split at e
    · rename_i hq0
      obtain ⟨p, h1, h2⟩ := am_bind_some e
      rw [Nat.eq_of_beq_eq_true hq0]
      exact ⟨some (.int p.1), p.2, am_Met.of rfl (Nat.le_of_ble_eq_true rfl) (s_H_stepsOf_1 G _ σ p _ h1 ⟨rfl, rfl⟩), h2⟩
    · cases e
  · cases e
noncomputable def g_H_factAt_1 (x1 : Int32) (σ : am_St) : Option (Int32 × am_St) :=
  if x1 < 0 then
    some ((0, σ))
  else
    if (σ.1 1 5) ≤ x1 then
      some ((0, σ))
    else
      if am_ix x1 16 = true then
        some ((σ.1 9 x1.toNatClampNeg, σ))
      else none
noncomputable def f_H_factAt_1 (x1 : Int32) (σ : am_St) : Option (Int32 × am_St) := am_lk (g_H_factAt_1 x1 σ)
theorem eq_H_factAt_1 (x1 : Int32) (σ : am_St) : f_H_factAt_1 x1 σ = g_H_factAt_1 x1 σ := am_lk_eq _
set_option maxRecDepth 100000 in
set_option maxHeartbeats 4000000 in
theorem s_H_factAt_1 (G : am_G) (x1 : Int32) (σ : am_St) (r : Int32 × am_St) (Q : am_AQ) (e : f_H_factAt_1 x1 σ = some r) (hr : am_Pi r Q) : am_AW G M_H_factAt 0 [(0, .ref 1), (1, .int x1)] [] σ Q :=
  (show am_Snd G M_H_factAt 0 am_Pi _ from (sn_iload_n (pc := 0) (i := 1) dX3_factAt_0 rfl (sn_if_lt (pc := 1) (tgt := 21) dX3_factAt_1 rfl (sn_iconst (pc := 21) (v := 0) dX3_factAt_21 rfl (sn_reti (pc := 22) (R := fun x τ => (some ((x, τ)))) dX3_factAt_22 rfl (fun _ _ _ _ e h => by cases e; exact h))) (sn_iload_n (pc := 4) (i := 1) dX3_factAt_4 rfl (sn_aload_n (pc := 5) (i := 0) dX3_factAt_5 rfl (sn_gI (pc := 6) (h := 1) (f := 5) dX3_factAt_6 am_CL_3 sh_1 rfl (Nat.le_of_ble_eq_true rfl) tw_100 (sn_icmp_ge (pc := 9) (tgt := 21) dX3_factAt_9 rfl (sn_iconst (pc := 21) (v := 0) dX3_factAt_21 rfl (sn_reti (pc := 22) (R := fun x τ => (some ((x, τ)))) dX3_factAt_22 rfl (fun _ _ _ _ e h => by cases e; exact h))) (sn_aload_n (pc := 12) (i := 0) dX3_factAt_12 rfl (sn_gR (r0 := 9) (pc := 13) (h := 1) (f := 14) dX3_factAt_13 am_CL_3 sh_1 rfl (Nat.le_of_ble_eq_true rfl) tw_114 (sn_iload_n (pc := 16) (i := 1) dX3_factAt_16 rfl (sn_aI (pc := 17) (h := 9) dX3_factAt_17 sh_9 (sn_goto (pc := 18) (tgt := 22) dX3_factAt_18 rfl (sn_reti (pc := 22) (R := fun x τ => (some ((x, τ)))) dX3_factAt_22 rfl (fun _ _ _ _ e h => by cases e; exact h)))))))))))))) _ _ _ _ _ ((eq_H_factAt_1 x1 σ).symm.trans e) hr
noncomputable def cF_H_factAt_1 : am_Fn := fun _ args σ K => match args with
  | [.ref q0, .int z1] => match Nat.beq q0 1 with
    | true => (f_H_factAt_1 z1 σ).bind (fun p => K (some (.int p.1)) p.2)
    | _ => none
  | _ => none
theorem cal_H_factAt_1 (G : am_G) : am_Cal G M_H_factAt cF_H_factAt_1 := by
  intro ρ args σ K r e
  unfold cF_H_factAt_1 at e
  split at e
  · split at e
    · rename_i hq0
      obtain ⟨p, h1, h2⟩ := am_bind_some e
      rw [Nat.eq_of_beq_eq_true hq0]
      exact ⟨some (.int p.1), p.2, am_Met.of rfl (Nat.le_of_ble_eq_true rfl) (s_H_factAt_1 G _ σ p _ h1 ⟨rfl, rfl⟩), h2⟩
    · cases e
  · cases e
abbrev Pl_W_openByFacts_1_42 (G : am_G) : ((Int32 × Int32 × am_St) ⊕ (am_St)) → am_AQ → Prop := am_PL G M_W_openByFacts 42 (fun s : Int32 × Int32 × am_St => [(3, .int s.2.1), (2, .int s.1), (1, .ref 1), (0, .ref 54)]) (fun s => s.2.2) am_Pv
abbrev Pl_W_openByFacts_1_18 (G : am_G) : ((Int32 × Int32 × am_St) ⊕ (am_St)) → am_AQ → Prop := am_PL G M_W_openByFacts 18 (fun s : Int32 × Int32 × am_St => [(3, .int s.2.1), (2, .int s.1), (1, .ref 1), (0, .ref 54)]) (fun s => s.2.2) am_Pv
abbrev Pl_W_openByFacts_1_70 (G : am_G) : ((Int32 × Int32 × am_St) ⊕ (am_St)) → am_AQ → Prop := am_PL G M_W_openByFacts 70 (fun s : Int32 × Int32 × am_St => [(3, .int s.2.1), (2, .int s.1), (1, .ref 1), (0, .ref 54)]) (fun s => s.2.2) am_Pv
noncomputable def g_W_openByFacts_1_130 (x2 : Int32) (x3 : Int32) (σ : am_St) : Option ((Int32 × Int32 × am_St) ⊕ (am_St)) :=
  let v1 := x3 + 1
  some (.inl (x2, v1, σ))
noncomputable def f_W_openByFacts_1_130 (x2 : Int32) (x3 : Int32) (σ : am_St) : Option ((Int32 × Int32 × am_St) ⊕ (am_St)) := am_lk (g_W_openByFacts_1_130 x2 x3 σ)
theorem eq_W_openByFacts_1_130 (x2 : Int32) (x3 : Int32) (σ : am_St) : f_W_openByFacts_1_130 x2 x3 σ = g_W_openByFacts_1_130 x2 x3 σ := am_lk_eq _
set_option maxRecDepth 100000 in
set_option maxHeartbeats 4000000 in
theorem s_W_openByFacts_1_130 (G : am_G) (x2 : Int32) (x3 : Int32) (σ : am_St) (r : (Int32 × Int32 × am_St) ⊕ (am_St)) (Q : am_AQ) (e : f_W_openByFacts_1_130 x2 x3 σ = some r) (hr : (Pl_W_openByFacts_1_70 G) r Q) : am_AW G M_W_openByFacts 130 [(3, .int x3), (2, .int x2), (1, .ref 1), (0, .ref 54)] [] σ Q :=
  (show am_Snd G M_W_openByFacts 130 (Pl_W_openByFacts_1_70 G) _ from (sn_iinc (pc := 130) (v := 1) dX10_openByFacts_130 rfl (Nat.le_of_ble_eq_true rfl) (sn_goto (pc := 133) (tgt := 70) dX10_openByFacts_133 rfl (sn_lf (pc := 70) (ln_a (i := 0) (q := 54) (ln_a (i := 1) (q := 1) (ln_i (i := 2) (fun z0 => (ln_i (i := 3) (fun z1 => (ln_end (o := fun τ => (some (.inl (z0, z1, τ)) : Option ((Int32 × Int32 × am_St) ⊕ (am_St)))) (fun _ _ _ e h => by cases e; exact h)))))))))))) _ _ _ _ _ ((eq_W_openByFacts_1_130 x2 x3 σ).symm.trans e) hr
noncomputable def g_W_openByFacts_1_127 (x2 : Int32) (x3 : Int32) (y1 : Int32) (y2 : Int32) (σ : am_St) : Option ((Int32 × Int32 × am_St) ⊕ (am_St)) :=
  (f_W_narrow y1 y2 σ).bind (fun p1 =>
    f_W_openByFacts_1_130 x2 x3 p1)
noncomputable def f_W_openByFacts_1_127 (x2 : Int32) (x3 : Int32) (y1 : Int32) (y2 : Int32) (σ : am_St) : Option ((Int32 × Int32 × am_St) ⊕ (am_St)) := am_lk (g_W_openByFacts_1_127 x2 x3 y1 y2 σ)
theorem eq_W_openByFacts_1_127 (x2 : Int32) (x3 : Int32) (y1 : Int32) (y2 : Int32) (σ : am_St) : f_W_openByFacts_1_127 x2 x3 y1 y2 σ = g_W_openByFacts_1_127 x2 x3 y1 y2 σ := am_lk_eq _
set_option maxRecDepth 100000 in
set_option maxHeartbeats 4000000 in
theorem s_W_openByFacts_1_127 (G : am_G) (x2 : Int32) (x3 : Int32) (y1 : Int32) (y2 : Int32) (σ : am_St) (r : (Int32 × Int32 × am_St) ⊕ (am_St)) (Q : am_AQ) (e : f_W_openByFacts_1_127 x2 x3 y1 y2 σ = some r) (hr : (Pl_W_openByFacts_1_70 G) r Q) : am_AW G M_W_openByFacts 127 [(3, .int x3), (2, .int x2), (1, .ref 1), (0, .ref 54)] [.int y2, .int y1, .ref 54] σ Q :=
  (show am_Snd G M_W_openByFacts 127 (Pl_W_openByFacts_1_70 G) _ from (sn_callV (pc := 127) (N := M_W_narrow) dX10_openByFacts_127 (cal_W_narrow G) sh_54 rfl tw_360 tw_362 tp_9 tw_10 tw_363 dsc_X10_narrow rfl (sn_lf (pc := 130) (ln_a (i := 0) (q := 54) (ln_a (i := 1) (q := 1) (ln_i (i := 2) (fun z0 => (ln_i (i := 3) (fun z1 => (ln_end (o := fun τ => f_W_openByFacts_1_130 z0 z1 τ) (fun _ _ _ e h => s_W_openByFacts_1_130 G z0 z1 _ _ _ e h))))))))))) _ _ _ _ _ ((eq_W_openByFacts_1_127 x2 x3 y1 y2 σ).symm.trans e) hr
noncomputable def g_W_openByFacts_1_94 (x2 : Int32) (x3 : Int32) (x4 : Int32) (σ : am_St) : Option ((Int32 × Int32 × am_St) ⊕ (am_St)) :=
  (f_H_roomIn x4 σ).bind (fun p1 =>
    let v2 := 1 <<< (p1.1 &&& 31)
    (f_H_minuteIn x4 p1.2).bind (fun p3 =>
      (f_H_moreIn x4 p3.2).bind (fun p4 =>
        if p4.1 = 1 then
          f_W_openByFacts_1_127 x2 x3 p3.1 v2 p4.2
        else
          f_W_openByFacts_1_127 x2 x3 p3.1 (v2 ^^^ (-1)) p4.2)))
noncomputable def f_W_openByFacts_1_94 (x2 : Int32) (x3 : Int32) (x4 : Int32) (σ : am_St) : Option ((Int32 × Int32 × am_St) ⊕ (am_St)) := am_lk (g_W_openByFacts_1_94 x2 x3 x4 σ)
theorem eq_W_openByFacts_1_94 (x2 : Int32) (x3 : Int32) (x4 : Int32) (σ : am_St) : f_W_openByFacts_1_94 x2 x3 x4 σ = g_W_openByFacts_1_94 x2 x3 x4 σ := am_lk_eq _
set_option maxRecDepth 100000 in
set_option maxHeartbeats 4000000 in
theorem s_W_openByFacts_1_94 (G : am_G) (x2 : Int32) (x3 : Int32) (x4 : Int32) (σ : am_St) (r : (Int32 × Int32 × am_St) ⊕ (am_St)) (Q : am_AQ) (e : f_W_openByFacts_1_94 x2 x3 x4 σ = some r) (hr : (Pl_W_openByFacts_1_70 G) r Q) : am_AW G M_W_openByFacts 94 [(4, .int x4), (3, .int x3), (2, .int x2), (1, .ref 1), (0, .ref 54)] [] σ Q :=
  (show am_Snd G M_W_openByFacts 94 (Pl_W_openByFacts_1_70 G) _ from (sn_iconst (pc := 94) (v := 1) dX10_openByFacts_94 rfl (sn_iload (pc := 95) dX10_openByFacts_95 (sn_callS (pc := 97) (N := M_H_roomIn) dX10_openByFacts_97 (cal_H_roomIn G) tw_351 tw_352 tw_2 tw_353 dsc_X3_roomIn rfl (sn_ishl (pc := 100) dX10_openByFacts_100 (sn_istore (pc := 101) dX10_openByFacts_101 (Nat.le_of_ble_eq_true rfl) (sn_aload_n (pc := 103) (i := 0) dX10_openByFacts_103 rfl (sn_iload (pc := 104) dX10_openByFacts_104 (sn_callS (pc := 106) (N := M_H_minuteIn) dX10_openByFacts_106 (cal_H_minuteIn G) tw_354 tw_355 tw_2 tw_356 dsc_X3_minuteIn rfl (sn_iload (pc := 109) dX10_openByFacts_109 (sn_callS (pc := 111) (N := M_H_moreIn) dX10_openByFacts_111 (cal_H_moreIn G) tw_357 tw_358 tw_2 tw_359 dsc_X3_moreIn rfl (sn_iconst (pc := 114) (v := 1) dX10_openByFacts_114 rfl (sn_icmp_ne (pc := 115) (tgt := 123) dX10_openByFacts_115 rfl (sn_iload (pc := 123) dX10_openByFacts_123 (sn_iconst (pc := 125) (v := (-1)) dX10_openByFacts_125 (show Int32.ofInt (-1) = (-1) by decide) (sn_ixor (pc := 126) dX10_openByFacts_126 (sn_lf (pc := 127) (ln_a (i := 0) (q := 54) (ln_a (i := 1) (q := 1) (ln_i (i := 2) (fun z0 => (ln_i (i := 3) (fun z1 => (ln_si (fun w2 => (ln_si (fun w1 => (ln_sa (q := 54) (ln_end (o := fun τ => f_W_openByFacts_1_127 z0 z1 w1 w2 τ) (fun _ _ _ e h => s_W_openByFacts_1_127 G z0 z1 w1 w2 _ _ _ e h))))))))))))))))) (sn_iload (pc := 118) dX10_openByFacts_118 (sn_goto (pc := 120) (tgt := 127) dX10_openByFacts_120 rfl (sn_lf (pc := 127) (ln_a (i := 0) (q := 54) (ln_a (i := 1) (q := 1) (ln_i (i := 2) (fun z0 => (ln_i (i := 3) (fun z1 => (ln_si (fun w2 => (ln_si (fun w1 => (ln_sa (q := 54) (ln_end (o := fun τ => f_W_openByFacts_1_127 z0 z1 w1 w2 τ) (fun _ _ _ e h => s_W_openByFacts_1_127 G z0 z1 w1 w2 _ _ _ e h))))))))))))))))))))))))))))) _ _ _ _ _ ((eq_W_openByFacts_1_94 x2 x3 x4 σ).symm.trans e) hr
noncomputable def b_W_openByFacts_1_70 (x2 : Int32) (x3 : Int32) (σ : am_St) : Option ((Int32 × Int32 × am_St) ⊕ (am_St)) :=
  if (σ.1 1 5) ≤ x3 then
    some (.inr (σ))
  else
    (f_H_factAt_1 x3 σ).bind (fun p1 =>
      (f_H_childIn p1.1 p1.2).bind (fun p2 =>
        if p2.1 = x2 then
          f_W_openByFacts_1_94 x2 x3 p1.1 p2.2
        else
          f_W_openByFacts_1_130 x2 x3 p2.2))
noncomputable def f_W_openByFacts_1_70 (x2 : Int32) (x3 : Int32) (σ : am_St) : Option (am_St) := am_lp (fun s : Int32 × Int32 × am_St => b_W_openByFacts_1_70 s.1 s.2.1 s.2.2) (x2, x3, σ)
set_option maxRecDepth 100000 in
set_option maxHeartbeats 4000000 in
theorem sb_W_openByFacts_1_70 (G : am_G) (x2 : Int32) (x3 : Int32) (σ : am_St) (r : (Int32 × Int32 × am_St) ⊕ (am_St)) (Q : am_AQ) (e : b_W_openByFacts_1_70 x2 x3 σ = some r) (hr : Pl_W_openByFacts_1_70 G r Q) : am_AW G M_W_openByFacts 70 [(3, .int x3), (2, .int x2), (1, .ref 1), (0, .ref 54)] [] σ Q :=
  (show am_Snd G M_W_openByFacts 70 (Pl_W_openByFacts_1_70 G) _ from (sn_iload_n (pc := 70) (i := 3) dX10_openByFacts_70 rfl (sn_aload_n (pc := 71) (i := 1) dX10_openByFacts_71 rfl (sn_gI (pc := 72) (h := 1) (f := 5) dX10_openByFacts_72 am_CL_3 sh_1 rfl (Nat.le_of_ble_eq_true rfl) tw_101 (sn_icmp_ge (pc := 75) (tgt := 136) dX10_openByFacts_75 rfl (sn_retv (pc := 136) (R := fun τ => (some (.inr (τ)) : Option ((Int32 × Int32 × am_St) ⊕ (am_St)))) dX10_openByFacts_136 rfl (fun _ _ _ e h => by cases e; exact h)) (sn_aload_n (pc := 78) (i := 1) dX10_openByFacts_78 rfl (sn_iload_n (pc := 79) (i := 3) dX10_openByFacts_79 rfl (sn_callV (pc := 80) (N := M_H_factAt) dX10_openByFacts_80 (cal_H_factAt_1 G) sh_1 rfl tw_344 tw_345 tw_346 tw_2 tw_347 dsc_X3_factAt rfl (sn_istore (pc := 83) dX10_openByFacts_83 (Nat.le_of_ble_eq_true rfl) (sn_iload (pc := 85) dX10_openByFacts_85 (sn_callS (pc := 87) (N := M_H_childIn) dX10_openByFacts_87 (cal_H_childIn G) tw_348 tw_349 tw_2 tw_350 dsc_X3_childIn rfl (sn_iload_n (pc := 90) (i := 2) dX10_openByFacts_90 rfl (sn_icmp_ne (pc := 91) (tgt := 130) dX10_openByFacts_91 rfl (sn_lf (pc := 130) (ln_a (i := 0) (q := 54) (ln_a (i := 1) (q := 1) (ln_i (i := 2) (fun z0 => (ln_i (i := 3) (fun z1 => (ln_end (o := fun τ => f_W_openByFacts_1_130 z0 z1 τ) (fun _ _ _ e h => s_W_openByFacts_1_130 G z0 z1 _ _ _ e h))))))))) (sn_lf (pc := 94) (ln_a (i := 0) (q := 54) (ln_a (i := 1) (q := 1) (ln_i (i := 2) (fun z0 => (ln_i (i := 3) (fun z1 => (ln_i (i := 4) (fun z2 => (ln_end (o := fun τ => f_W_openByFacts_1_94 z0 z1 z2 τ) (fun _ _ _ e h => s_W_openByFacts_1_94 G z0 z1 z2 _ _ _ e h)))))))))))))))))))))))) _ _ _ _ _ e hr
theorem s_W_openByFacts_1_70 (G : am_G) (x2 : Int32) (x3 : Int32) (σ : am_St) (r : am_St) (Q : am_AQ) (e : f_W_openByFacts_1_70 x2 x3 σ = some r) (hr : am_Pv r Q) : am_AW G M_W_openByFacts 70 [(3, .int x3), (2, .int x2), (1, .ref 1), (0, .ref 54)] [] σ Q :=
  am_loop (P := am_Pv) (L := fun s : Int32 × Int32 × am_St => [(3, .int s.2.1), (2, .int s.1), (1, .ref 1), (0, .ref 54)]) (g := fun s => s.2.2) (fun s o Q e hr => sb_W_openByFacts_1_70 G s.1 s.2.1 s.2.2 o Q e hr) (x2, x3, σ) r Q e hr
noncomputable def b_W_openByFacts_1_42 (x2 : Int32) (x3 : Int32) (σ : am_St) : Option ((Int32 × Int32 × am_St) ⊕ (am_St)) :=
  if 6 ≤ x3 then
    (f_W_openByFacts_1_70 x2 0 σ).map (fun r => .inr r)
  else
    if am_ix x3 6 = true then
      let s1 := am_sI σ 55 x3.toNatClampNeg ((1 <<< ((σ.1 54 5) &&& 31)) - 1)
      let v2 := x3 + 1
      some (.inl (x2, v2, s1))
    else none
noncomputable def f_W_openByFacts_1_42 (x2 : Int32) (x3 : Int32) (σ : am_St) : Option (am_St) := am_lp (fun s : Int32 × Int32 × am_St => b_W_openByFacts_1_42 s.1 s.2.1 s.2.2) (x2, x3, σ)
set_option maxRecDepth 100000 in
set_option maxHeartbeats 4000000 in
theorem sb_W_openByFacts_1_42 (G : am_G) (x2 : Int32) (x3 : Int32) (σ : am_St) (r : (Int32 × Int32 × am_St) ⊕ (am_St)) (Q : am_AQ) (e : b_W_openByFacts_1_42 x2 x3 σ = some r) (hr : Pl_W_openByFacts_1_42 G r Q) : am_AW G M_W_openByFacts 42 [(3, .int x3), (2, .int x2), (1, .ref 1), (0, .ref 54)] [] σ Q :=
  (show am_Snd G M_W_openByFacts 42 (Pl_W_openByFacts_1_42 G) _ from (sn_iload_n (pc := 42) (i := 3) dX10_openByFacts_42 rfl (sn_bipush (pc := 43) (v := 6) dX10_openByFacts_43 rfl (sn_icmp_ge (pc := 45) (tgt := 68) dX10_openByFacts_45 rfl (sn_iconst (pc := 68) (v := 0) dX10_openByFacts_68 rfl (sn_istore_n (pc := 69) (i := 3) dX10_openByFacts_69 rfl (Nat.le_of_ble_eq_true rfl) (sn_lf (pc := 70) (ln_a (i := 0) (q := 54) (ln_a (i := 1) (q := 1) (ln_i (i := 2) (fun z0 => (ln_i (i := 3) (fun z1 => (ln_end (o := fun τ => ((f_W_openByFacts_1_70 z0 z1 τ).map (fun r => .inr r) : Option ((Int32 × Int32 × am_St) ⊕ (am_St)))) (fun _ _ _ e h => by obtain ⟨r9, e9, rfl⟩ := am_map_some e; exact s_W_openByFacts_1_70 G z0 z1 _ _ _ e9 h))))))))))) (sn_aload_n (pc := 48) (i := 0) dX10_openByFacts_48 rfl (sn_gR (r0 := 55) (pc := 49) (h := 54) (f := 0) dX10_openByFacts_49 am_CL_9 sh_54 rfl (Nat.le_of_ble_eq_true rfl) tw_176 (sn_iload_n (pc := 52) (i := 3) dX10_openByFacts_52 rfl (sn_iconst (pc := 53) (v := 1) dX10_openByFacts_53 rfl (sn_aload_n (pc := 54) (i := 0) dX10_openByFacts_54 rfl (sn_gI (pc := 55) (h := 54) (f := 5) dX10_openByFacts_55 am_CL_9 sh_54 rfl (Nat.le_of_ble_eq_true rfl) tw_181 (sn_ishl (pc := 58) dX10_openByFacts_58 (sn_iconst (pc := 59) (v := 1) dX10_openByFacts_59 rfl (sn_isub (pc := 60) dX10_openByFacts_60 (sn_sI (pc := 61) (h := 55) dX10_openByFacts_61 sh_55 (sn_iinc (pc := 62) (v := 1) dX10_openByFacts_62 rfl (Nat.le_of_ble_eq_true rfl) (sn_goto (pc := 65) (tgt := 42) dX10_openByFacts_65 rfl (sn_lf (pc := 42) (ln_a (i := 0) (q := 54) (ln_a (i := 1) (q := 1) (ln_i (i := 2) (fun z0 => (ln_i (i := 3) (fun z1 => (ln_end (o := fun τ => (some (.inl (z0, z1, τ)) : Option ((Int32 × Int32 × am_St) ⊕ (am_St)))) (fun _ _ _ e h => by cases e; exact h))))))))))))))))))))))))) _ _ _ _ _ e hr
theorem s_W_openByFacts_1_42 (G : am_G) (x2 : Int32) (x3 : Int32) (σ : am_St) (r : am_St) (Q : am_AQ) (e : f_W_openByFacts_1_42 x2 x3 σ = some r) (hr : am_Pv r Q) : am_AW G M_W_openByFacts 42 [(3, .int x3), (2, .int x2), (1, .ref 1), (0, .ref 54)] [] σ Q :=
  am_loop (P := am_Pv) (L := fun s : Int32 × Int32 × am_St => [(3, .int s.2.1), (2, .int s.1), (1, .ref 1), (0, .ref 54)]) (g := fun s => s.2.2) (fun s o Q e hr => sb_W_openByFacts_1_42 G s.1 s.2.1 s.2.2 o Q e hr) (x2, x3, σ) r Q e hr
noncomputable def b_W_openByFacts_1_18 (x2 : Int32) (x3 : Int32) (σ : am_St) : Option ((Int32 × Int32 × am_St) ⊕ (am_St)) :=
  if 4 ≤ x3 then
    (f_W_openByFacts_1_42 x2 0 σ).map (fun r => .inr r)
  else
    (f_H_stepsOf_1 x3 σ).bind (fun p1 =>
      if am_ix x3 4 = true then
        let s2 := am_sI p1.2 56 x3.toNatClampNeg p1.1
        let v3 := x3 + 1
        some (.inl (x2, v3, s2))
      else none)
noncomputable def f_W_openByFacts_1_18 (x2 : Int32) (x3 : Int32) (σ : am_St) : Option (am_St) := am_lp (fun s : Int32 × Int32 × am_St => b_W_openByFacts_1_18 s.1 s.2.1 s.2.2) (x2, x3, σ)
set_option maxRecDepth 100000 in
set_option maxHeartbeats 4000000 in
theorem sb_W_openByFacts_1_18 (G : am_G) (x2 : Int32) (x3 : Int32) (σ : am_St) (r : (Int32 × Int32 × am_St) ⊕ (am_St)) (Q : am_AQ) (e : b_W_openByFacts_1_18 x2 x3 σ = some r) (hr : Pl_W_openByFacts_1_18 G r Q) : am_AW G M_W_openByFacts 18 [(3, .int x3), (2, .int x2), (1, .ref 1), (0, .ref 54)] [] σ Q :=
  (show am_Snd G M_W_openByFacts 18 (Pl_W_openByFacts_1_18 G) _ from (sn_iload_n (pc := 18) (i := 3) dX10_openByFacts_18 rfl (sn_iconst (pc := 19) (v := 4) dX10_openByFacts_19 rfl (sn_icmp_ge (pc := 20) (tgt := 40) dX10_openByFacts_20 rfl (sn_iconst (pc := 40) (v := 0) dX10_openByFacts_40 rfl (sn_istore_n (pc := 41) (i := 3) dX10_openByFacts_41 rfl (Nat.le_of_ble_eq_true rfl) (sn_lf (pc := 42) (ln_a (i := 0) (q := 54) (ln_a (i := 1) (q := 1) (ln_i (i := 2) (fun z0 => (ln_i (i := 3) (fun z1 => (ln_end (o := fun τ => ((f_W_openByFacts_1_42 z0 z1 τ).map (fun r => .inr r) : Option ((Int32 × Int32 × am_St) ⊕ (am_St)))) (fun _ _ _ e h => by obtain ⟨r9, e9, rfl⟩ := am_map_some e; exact s_W_openByFacts_1_42 G z0 z1 _ _ _ e9 h))))))))))) (sn_aload_n (pc := 23) (i := 0) dX10_openByFacts_23 rfl (sn_gR (r0 := 56) (pc := 24) (h := 54) (f := 1) dX10_openByFacts_24 am_CL_9 sh_54 rfl (Nat.le_of_ble_eq_true rfl) tw_177 (sn_iload_n (pc := 27) (i := 3) dX10_openByFacts_27 rfl (sn_aload_n (pc := 28) (i := 1) dX10_openByFacts_28 rfl (sn_iload_n (pc := 29) (i := 3) dX10_openByFacts_29 rfl (sn_callV (pc := 30) (N := M_H_stepsOf) dX10_openByFacts_30 (cal_H_stepsOf_1 G) sh_1 rfl tw_340 tw_341 tw_342 tw_2 tw_343 dsc_X3_stepsOf rfl (sn_sI (pc := 33) (h := 56) dX10_openByFacts_33 sh_56 (sn_iinc (pc := 34) (v := 1) dX10_openByFacts_34 rfl (Nat.le_of_ble_eq_true rfl) (sn_goto (pc := 37) (tgt := 18) dX10_openByFacts_37 rfl (sn_lf (pc := 18) (ln_a (i := 0) (q := 54) (ln_a (i := 1) (q := 1) (ln_i (i := 2) (fun z0 => (ln_i (i := 3) (fun z1 => (ln_end (o := fun τ => (some (.inl (z0, z1, τ)) : Option ((Int32 × Int32 × am_St) ⊕ (am_St)))) (fun _ _ _ e h => by cases e; exact h)))))))))))))))))))))) _ _ _ _ _ e hr
theorem s_W_openByFacts_1_18 (G : am_G) (x2 : Int32) (x3 : Int32) (σ : am_St) (r : am_St) (Q : am_AQ) (e : f_W_openByFacts_1_18 x2 x3 σ = some r) (hr : am_Pv r Q) : am_AW G M_W_openByFacts 18 [(3, .int x3), (2, .int x2), (1, .ref 1), (0, .ref 54)] [] σ Q :=
  am_loop (P := am_Pv) (L := fun s : Int32 × Int32 × am_St => [(3, .int s.2.1), (2, .int s.1), (1, .ref 1), (0, .ref 54)]) (g := fun s => s.2.2) (fun s o Q e hr => sb_W_openByFacts_1_18 G s.1 s.2.1 s.2.2 o Q e hr) (x2, x3, σ) r Q e hr
noncomputable def g_W_openByFacts_1 (x2 : Int32) (σ : am_St) : Option (am_St) :=
  let s1 := am_sI σ 54 5 (σ.1 1 0)
  let s2 := am_sI s1 54 6 (s1.1 1 1)
  f_W_openByFacts_1_18 x2 0 s2
noncomputable def f_W_openByFacts_1 (x2 : Int32) (σ : am_St) : Option (am_St) := am_lk (g_W_openByFacts_1 x2 σ)
theorem eq_W_openByFacts_1 (x2 : Int32) (σ : am_St) : f_W_openByFacts_1 x2 σ = g_W_openByFacts_1 x2 σ := am_lk_eq _
set_option maxRecDepth 100000 in
set_option maxHeartbeats 4000000 in
theorem s_W_openByFacts_1 (G : am_G) (x2 : Int32) (σ : am_St) (r : am_St) (Q : am_AQ) (e : f_W_openByFacts_1 x2 σ = some r) (hr : am_Pv r Q) : am_AW G M_W_openByFacts 0 [(0, .ref 54), (1, .ref 1), (2, .int x2)] [] σ Q :=
  (show am_Snd G M_W_openByFacts 0 am_Pv _ from (sn_aload_n (pc := 0) (i := 0) dX10_openByFacts_0 rfl (sn_aload_n (pc := 1) (i := 1) dX10_openByFacts_1 rfl (sn_gI (pc := 2) (h := 1) (f := 0) dX10_openByFacts_2 am_CL_3 sh_1 rfl (Nat.le_of_ble_eq_true rfl) tw_76 (sn_pI (pc := 5) (h := 54) (f := 5) dX10_openByFacts_5 am_CL_9 sh_54 rfl (Nat.le_of_ble_eq_true rfl) tw_181 rfl rfl (sn_aload_n (pc := 8) (i := 0) dX10_openByFacts_8 rfl (sn_aload_n (pc := 9) (i := 1) dX10_openByFacts_9 rfl (sn_gI (pc := 10) (h := 1) (f := 1) dX10_openByFacts_10 am_CL_3 sh_1 rfl (Nat.le_of_ble_eq_true rfl) tw_80 (sn_pI (pc := 13) (h := 54) (f := 6) dX10_openByFacts_13 am_CL_9 sh_54 rfl (Nat.le_of_ble_eq_true rfl) tw_182 rfl rfl (sn_iconst (pc := 16) (v := 0) dX10_openByFacts_16 rfl (sn_istore_n (pc := 17) (i := 3) dX10_openByFacts_17 rfl (Nat.le_of_ble_eq_true rfl) (sn_lf (pc := 18) (ln_a (i := 0) (q := 54) (ln_a (i := 1) (q := 1) (ln_i (i := 2) (fun z0 => (ln_i (i := 3) (fun z1 => (ln_end (o := fun τ => f_W_openByFacts_1_18 z0 z1 τ) (fun _ _ _ e h => s_W_openByFacts_1_18 G z0 z1 _ _ _ e h)))))))))))))))))))) _ _ _ _ _ ((eq_W_openByFacts_1 x2 σ).symm.trans e) hr
noncomputable def cF_W_openByFacts_1 : am_Fn := fun _ args σ K => match args with
  | [.ref q0, .ref q1, .int z2] => match Nat.beq q0 54, Nat.beq q1 1 with
    | true, true => (f_W_openByFacts_1 z2 σ).bind (fun p => K none p)
    | _, _ => none
  | _ => none
theorem cal_W_openByFacts_1 (G : am_G) : am_Cal G M_W_openByFacts cF_W_openByFacts_1 := by
  intro ρ args σ K r e
  unfold cF_W_openByFacts_1 at e
  split at e
  · split at e
    · rename_i hq0 hq1
      obtain ⟨p, h1, h2⟩ := am_bind_some e
      rw [Nat.eq_of_beq_eq_true hq0]
      rw [Nat.eq_of_beq_eq_true hq1]
      exact ⟨none, p, am_Met.of rfl (Nat.le_of_ble_eq_true rfl) (s_W_openByFacts_1 G _ σ p _ h1 ⟨rfl, rfl⟩), h2⟩
    · cases e
  · cases e
noncomputable def g_W_someFor_1 (x2 : Int32) (σ : am_St) : Option (Int32 × am_St) :=
  (f_W_openByFacts_1 x2 σ).bind (fun p1 =>
    (f_W_sum_57 0 1 p1).bind (fun p2 =>
      (f_W_all p2).bind (fun p3 =>
        if p3.1 ≤ 0 then
          some ((0, p3.2))
        else
          some ((1, p3.2)))))
noncomputable def f_W_someFor_1 (x2 : Int32) (σ : am_St) : Option (Int32 × am_St) := am_lk (g_W_someFor_1 x2 σ)
theorem eq_W_someFor_1 (x2 : Int32) (σ : am_St) : f_W_someFor_1 x2 σ = g_W_someFor_1 x2 σ := am_lk_eq _
set_option maxRecDepth 100000 in
set_option maxHeartbeats 4000000 in
theorem s_W_someFor_1 (G : am_G) (x2 : Int32) (σ : am_St) (r : Int32 × am_St) (Q : am_AQ) (e : f_W_someFor_1 x2 σ = some r) (hr : am_Pi r Q) : am_AW G M_W_someFor 0 [(0, .ref 54), (1, .ref 1), (2, .int x2)] [] σ Q :=
  (show am_Snd G M_W_someFor 0 am_Pi _ from (sn_aload_n (pc := 0) (i := 0) dX10_someFor_0 rfl (sn_aload_n (pc := 1) (i := 1) dX10_someFor_1 rfl (sn_iload_n (pc := 2) (i := 2) dX10_someFor_2 rfl (sn_callV (pc := 3) (N := M_W_openByFacts) dX10_someFor_3 (cal_W_openByFacts_1 G) sh_54 rfl tw_336 tw_338 tp_8 tw_10 tw_339 dsc_X10_openByFacts rfl (sn_aload_n (pc := 6) (i := 0) dX10_someFor_6 rfl (sn_aload_n (pc := 7) (i := 0) dX10_someFor_7 rfl (sn_gR (r0 := 57) (pc := 8) (h := 54) (f := 2) dX10_someFor_8 am_CL_9 sh_54 rfl (Nat.le_of_ble_eq_true rfl) tw_178 (sn_iconst (pc := 11) (v := 0) dX10_someFor_11 rfl (sn_iconst (pc := 12) (v := 1) dX10_someFor_12 rfl (sn_callV (pc := 13) (N := M_W_sum) dX10_someFor_13 (cal_W_sum_57 G) sh_54 rfl tw_364 tw_366 tp_10 tw_10 tw_367 dsc_X10_sum rfl (sn_aload_n (pc := 16) (i := 0) dX10_someFor_16 rfl (sn_callV (pc := 17) (N := M_W_all) dX10_someFor_17 (cal_W_all G) sh_54 rfl tw_372 tw_373 tw_374 tw_10 tw_375 dsc_X10_all rfl (sn_if_le (pc := 20) (tgt := 27) dX10_someFor_20 rfl (sn_iconst (pc := 27) (v := 0) dX10_someFor_27 rfl (sn_retz (pc := 28) (R := fun x τ => (some ((x, τ)))) dX10_someFor_28 rfl (fun _ _ _ _ e h => by cases e; exact h))) (sn_iconst (pc := 23) (v := 1) dX10_someFor_23 rfl (sn_goto (pc := 24) (tgt := 28) dX10_someFor_24 rfl (sn_retz (pc := 28) (R := fun x τ => (some ((x, τ)))) dX10_someFor_28 rfl (fun _ _ _ _ e h => by cases e; exact h)))))))))))))))))) _ _ _ _ _ ((eq_W_someFor_1 x2 σ).symm.trans e) hr
noncomputable def cF_W_someFor_1 : am_Fn := fun _ args σ K => match args with
  | [.ref q0, .ref q1, .int z2] => match Nat.beq q0 54, Nat.beq q1 1 with
    | true, true => (f_W_someFor_1 z2 σ).bind (fun p => K (some (.int p.1)) p.2)
    | _, _ => none
  | _ => none
theorem cal_W_someFor_1 (G : am_G) : am_Cal G M_W_someFor cF_W_someFor_1 := by
  intro ρ args σ K r e
  unfold cF_W_someFor_1 at e
  split at e
  · split at e
    · rename_i hq0 hq1
      obtain ⟨p, h1, h2⟩ := am_bind_some e
      rw [Nat.eq_of_beq_eq_true hq0]
      rw [Nat.eq_of_beq_eq_true hq1]
      exact ⟨some (.int p.1), p.2, am_Met.of rfl (Nat.le_of_ble_eq_true rfl) (s_W_someFor_1 G _ σ p _ h1 ⟨rfl, rfl⟩), h2⟩
    · cases e
  · cases e
abbrev M_H_dropFact : am_MD := (yX3_dropFact, cX3_dropFact, 1, none, 1, 21)
theorem dX3_dropFact_0 : decode cX3_dropFact 0 = .ok (.aload_n 0, 1) := by decide +kernel
theorem dX3_dropFact_1 : decode cX3_dropFact 1 = .ok (.iconst 0, 1) := by decide +kernel
theorem dX3_dropFact_2 : decode cX3_dropFact 2 = .ok (.aload_n 0, 1) := by decide +kernel
theorem dX3_dropFact_3 : decode cX3_dropFact 3 = .ok (.getfield 77, 3) := by decide +kernel
theorem dX3_dropFact_6 : decode cX3_dropFact 6 = .ok (.iconst 1, 1) := by decide +kernel
theorem dX3_dropFact_7 : decode cX3_dropFact 7 = .ok (.isub, 1) := by decide +kernel
theorem dX3_dropFact_8 : decode cX3_dropFact 8 = .ok (.invokestatic 136, 3) := by decide +kernel
theorem dX3_dropFact_11 : decode cX3_dropFact 11 = .ok (.putfield 77, 3) := by decide +kernel
theorem dX3_dropFact_14 : decode cX3_dropFact 14 = .ok (.return_, 1) := by decide +kernel
noncomputable def g_H_dropFact_1 (σ : am_St) : Option (am_St) :=
  let s1 := am_sI σ 1 5 (am_mmax 0 ((σ.1 1 5) - 1))
  some (s1)
noncomputable def f_H_dropFact_1 (σ : am_St) : Option (am_St) := am_lk (g_H_dropFact_1  σ)
theorem eq_H_dropFact_1 (σ : am_St) : f_H_dropFact_1  σ = g_H_dropFact_1  σ := am_lk_eq _
set_option maxRecDepth 100000 in
set_option maxHeartbeats 4000000 in
theorem s_H_dropFact_1 (G : am_G) (σ : am_St) (r : am_St) (Q : am_AQ) (e : f_H_dropFact_1  σ = some r) (hr : am_Pv r Q) : am_AW G M_H_dropFact 0 [(0, .ref 1)] [] σ Q :=
  (show am_Snd G M_H_dropFact 0 am_Pv _ from (sn_aload_n (pc := 0) (i := 0) dX3_dropFact_0 rfl (sn_iconst (pc := 1) (v := 0) dX3_dropFact_1 rfl (sn_aload_n (pc := 2) (i := 0) dX3_dropFact_2 rfl (sn_gI (pc := 3) (h := 1) (f := 5) dX3_dropFact_3 am_CL_3 sh_1 rfl (Nat.le_of_ble_eq_true rfl) tw_100 (sn_iconst (pc := 6) (v := 1) dX3_dropFact_6 rfl (sn_isub (pc := 7) dX3_dropFact_7 (sn_mmax (pc := 8) dX3_dropFact_8 tw_513 tw_514 tw_14 tw_515 rfl (sn_pI (pc := 11) (h := 1) (f := 5) dX3_dropFact_11 am_CL_3 sh_1 rfl (Nat.le_of_ble_eq_true rfl) tw_100 rfl rfl (sn_retv (pc := 14) (R := fun τ => (some (τ))) dX3_dropFact_14 rfl (fun _ _ _ e h => by cases e; exact h))))))))))) _ _ _ _ _ ((eq_H_dropFact_1  σ).symm.trans e) hr
noncomputable def cF_H_dropFact_1 : am_Fn := fun _ args σ K => match args with
  | [.ref q0] => match Nat.beq q0 1 with
    | true => (f_H_dropFact_1 σ).bind (fun p => K none p)
    | _ => none
  | _ => none
theorem cal_H_dropFact_1 (G : am_G) : am_Cal G M_H_dropFact cF_H_dropFact_1 := by
  intro ρ args σ K r e
  unfold cF_H_dropFact_1 at e
  split at e
  · split at e
    · rename_i hq0
      obtain ⟨p, h1, h2⟩ := am_bind_some e
      rw [Nat.eq_of_beq_eq_true hq0]
      exact ⟨none, p, am_Met.of rfl (Nat.le_of_ble_eq_true rfl) (s_H_dropFact_1 G  σ p _ h1 ⟨rfl, rfl⟩), h2⟩
    · cases e
  · cases e
abbrev M_X_fact : am_MD := (yX11_fact, cX11_fact, 5, (some .int), 3, 76)
theorem dX11_fact_0 : decode cX11_fact 0 = .ok (.aload_n 0, 1) := by decide +kernel
theorem dX11_fact_1 : decode cX11_fact 1 = .ok (.iload_n 1, 1) := by decide +kernel
theorem dX11_fact_2 : decode cX11_fact 2 = .ok (.iload_n 2, 1) := by decide +kernel
theorem dX11_fact_3 : decode cX11_fact 3 = .ok (.invokevirtual 129, 3) := by decide +kernel
theorem dX11_fact_6 : decode cX11_fact 6 = .ok (.ifCond .eq 14, 3) := by decide +kernel
theorem dX11_fact_9 : decode cX11_fact 9 = .ok (.aload_n 0, 1) := by decide +kernel
theorem dX11_fact_10 : decode cX11_fact 10 = .ok (.getfield 10, 3) := by decide +kernel
theorem dX11_fact_13 : decode cX11_fact 13 = .ok (.iload_n 3, 1) := by decide +kernel
theorem dX11_fact_14 : decode cX11_fact 14 = .ok (.invokevirtual 110, 3) := by decide +kernel
theorem dX11_fact_17 : decode cX11_fact 17 = .ok (.ifCond .ne 9, 3) := by decide +kernel
theorem dX11_fact_20 : decode cX11_fact 20 = .ok (.aload_n 0, 1) := by decide +kernel
theorem dX11_fact_21 : decode cX11_fact 21 = .ok (.iconst (-1), 1) := by decide +kernel
theorem dX11_fact_22 : decode cX11_fact 22 = .ok (.invokevirtual 55, 3) := by decide +kernel
theorem dX11_fact_25 : decode cX11_fact 25 = .ok (.ireturn, 1) := by decide +kernel
theorem dX11_fact_26 : decode cX11_fact 26 = .ok (.iload 4, 2) := by decide +kernel
theorem dX11_fact_28 : decode cX11_fact 28 = .ok (.invokestatic 132, 3) := by decide +kernel
theorem dX11_fact_31 : decode cX11_fact 31 = .ok (.ifCond .ne 10, 3) := by decide +kernel
theorem dX11_fact_34 : decode cX11_fact 34 = .ok (.aload_n 0, 1) := by decide +kernel
theorem dX11_fact_35 : decode cX11_fact 35 = .ok (.bipush (-2), 2) := by decide +kernel
theorem dX11_fact_37 : decode cX11_fact 37 = .ok (.invokevirtual 55, 3) := by decide +kernel
theorem dX11_fact_40 : decode cX11_fact 40 = .ok (.ireturn, 1) := by decide +kernel
theorem dX11_fact_41 : decode cX11_fact 41 = .ok (.aload_n 0, 1) := by decide +kernel
theorem dX11_fact_42 : decode cX11_fact 42 = .ok (.getfield 10, 3) := by decide +kernel
theorem dX11_fact_45 : decode cX11_fact 45 = .ok (.getfield 135, 3) := by decide +kernel
theorem dX11_fact_48 : decode cX11_fact 48 = .ok (.bipush 16, 2) := by decide +kernel
theorem dX11_fact_50 : decode cX11_fact 50 = .ok (.if_icmp .lt 10, 3) := by decide +kernel
theorem dX11_fact_53 : decode cX11_fact 53 = .ok (.aload_n 0, 1) := by decide +kernel
theorem dX11_fact_54 : decode cX11_fact 54 = .ok (.bipush (-6), 2) := by decide +kernel
theorem dX11_fact_56 : decode cX11_fact 56 = .ok (.invokevirtual 55, 3) := by decide +kernel
theorem dX11_fact_59 : decode cX11_fact 59 = .ok (.ireturn, 1) := by decide +kernel
theorem dX11_fact_60 : decode cX11_fact 60 = .ok (.aload_n 0, 1) := by decide +kernel
theorem dX11_fact_61 : decode cX11_fact 61 = .ok (.getfield 10, 3) := by decide +kernel
theorem dX11_fact_64 : decode cX11_fact 64 = .ok (.iload_n 1, 1) := by decide +kernel
theorem dX11_fact_65 : decode cX11_fact 65 = .ok (.iload_n 2, 1) := by decide +kernel
theorem dX11_fact_66 : decode cX11_fact 66 = .ok (.iload_n 3, 1) := by decide +kernel
theorem dX11_fact_67 : decode cX11_fact 67 = .ok (.iload 4, 2) := by decide +kernel
theorem dX11_fact_69 : decode cX11_fact 69 = .ok (.invokevirtual 138, 3) := by decide +kernel
theorem dX11_fact_72 : decode cX11_fact 72 = .ok (.pop, 1) := by decide +kernel
theorem dX11_fact_73 : decode cX11_fact 73 = .ok (.aload_n 0, 1) := by decide +kernel
theorem dX11_fact_74 : decode cX11_fact 74 = .ok (.getfield 33, 3) := by decide +kernel
theorem dX11_fact_77 : decode cX11_fact 77 = .ok (.aload_n 0, 1) := by decide +kernel
theorem dX11_fact_78 : decode cX11_fact 78 = .ok (.getfield 10, 3) := by decide +kernel
theorem dX11_fact_81 : decode cX11_fact 81 = .ok (.iload_n 1, 1) := by decide +kernel
theorem dX11_fact_82 : decode cX11_fact 82 = .ok (.invokevirtual 142, 3) := by decide +kernel
theorem dX11_fact_85 : decode cX11_fact 85 = .ok (.ifCond .ne 17, 3) := by decide +kernel
theorem dX11_fact_88 : decode cX11_fact 88 = .ok (.aload_n 0, 1) := by decide +kernel
theorem dX11_fact_89 : decode cX11_fact 89 = .ok (.getfield 10, 3) := by decide +kernel
theorem dX11_fact_92 : decode cX11_fact 92 = .ok (.invokevirtual 146, 3) := by decide +kernel
theorem dX11_fact_95 : decode cX11_fact 95 = .ok (.aload_n 0, 1) := by decide +kernel
theorem dX11_fact_96 : decode cX11_fact 96 = .ok (.bipush (-3), 2) := by decide +kernel
theorem dX11_fact_98 : decode cX11_fact 98 = .ok (.invokevirtual 55, 3) := by decide +kernel
theorem dX11_fact_101 : decode cX11_fact 101 = .ok (.ireturn, 1) := by decide +kernel
theorem dX11_fact_102 : decode cX11_fact 102 = .ok (.aload_n 0, 1) := by decide +kernel
theorem dX11_fact_103 : decode cX11_fact 103 = .ok (.getfield 10, 3) := by decide +kernel
theorem dX11_fact_106 : decode cX11_fact 106 = .ok (.getfield 135, 3) := by decide +kernel
theorem dX11_fact_109 : decode cX11_fact 109 = .ok (.ireturn, 1) := by decide +kernel
noncomputable def g_X_fact_20 (σ : am_St) : Option (Int32 × am_St) :=
  (f_X_refuse (-1) σ).bind (fun p1 =>
    some ((p1.1, p1.2)))
noncomputable def f_X_fact_20 (σ : am_St) : Option (Int32 × am_St) := am_lk (g_X_fact_20  σ)
theorem eq_X_fact_20 (σ : am_St) : f_X_fact_20  σ = g_X_fact_20  σ := am_lk_eq _
set_option maxRecDepth 100000 in
set_option maxHeartbeats 4000000 in
theorem s_X_fact_20 (G : am_G) (σ : am_St) (r : Int32 × am_St) (Q : am_AQ) (e : f_X_fact_20  σ = some r) (hr : am_Pi r Q) : am_AW G M_X_fact 20 [(0, .ref 0)] [] σ Q :=
  (show am_Snd G M_X_fact 20 am_Pi _ from (sn_aload_n (pc := 20) (i := 0) dX11_fact_20 rfl (sn_iconst (pc := 21) (v := (-1)) dX11_fact_21 (show Int32.ofInt (-1) = (-1) by decide) (sn_callV (pc := 22) (N := M_X_refuse) dX11_fact_22 (cal_X_refuse G) sh_0 rfl tw_251 tw_253 tp_0 tw_1 tw_254 dsc_X11_refuse rfl (sn_reti (pc := 25) (R := fun x τ => (some ((x, τ)))) dX11_fact_25 rfl (fun _ _ _ _ e h => by cases e; exact h)))))) _ _ _ _ _ ((eq_X_fact_20  σ).symm.trans e) hr
noncomputable def g_X_fact_34 (σ : am_St) : Option (Int32 × am_St) :=
  (f_X_refuse (-2) σ).bind (fun p1 =>
    some ((p1.1, p1.2)))
noncomputable def f_X_fact_34 (σ : am_St) : Option (Int32 × am_St) := am_lk (g_X_fact_34  σ)
theorem eq_X_fact_34 (σ : am_St) : f_X_fact_34  σ = g_X_fact_34  σ := am_lk_eq _
set_option maxRecDepth 100000 in
set_option maxHeartbeats 4000000 in
theorem s_X_fact_34 (G : am_G) (σ : am_St) (r : Int32 × am_St) (Q : am_AQ) (e : f_X_fact_34  σ = some r) (hr : am_Pi r Q) : am_AW G M_X_fact 34 [(0, .ref 0)] [] σ Q :=
  (show am_Snd G M_X_fact 34 am_Pi _ from (sn_aload_n (pc := 34) (i := 0) dX11_fact_34 rfl (sn_bipush (pc := 35) (v := (-2)) dX11_fact_35 (show (Int8.ofInt (-2)).toInt32 = (-2) by decide) (sn_callV (pc := 37) (N := M_X_refuse) dX11_fact_37 (cal_X_refuse G) sh_0 rfl tw_251 tw_253 tp_0 tw_1 tw_254 dsc_X11_refuse rfl (sn_reti (pc := 40) (R := fun x τ => (some ((x, τ)))) dX11_fact_40 rfl (fun _ _ _ _ e h => by cases e; exact h)))))) _ _ _ _ _ ((eq_X_fact_34  σ).symm.trans e) hr
noncomputable def g_X_fact_88 (σ : am_St) : Option (Int32 × am_St) :=
  (f_H_dropFact_1 σ).bind (fun p1 =>
    (f_X_refuse (-3) p1).bind (fun p2 =>
      some ((p2.1, p2.2))))
noncomputable def f_X_fact_88 (σ : am_St) : Option (Int32 × am_St) := am_lk (g_X_fact_88  σ)
theorem eq_X_fact_88 (σ : am_St) : f_X_fact_88  σ = g_X_fact_88  σ := am_lk_eq _
set_option maxRecDepth 100000 in
set_option maxHeartbeats 4000000 in
theorem s_X_fact_88 (G : am_G) (σ : am_St) (r : Int32 × am_St) (Q : am_AQ) (e : f_X_fact_88  σ = some r) (hr : am_Pi r Q) : am_AW G M_X_fact 88 [(0, .ref 0)] [] σ Q :=
  (show am_Snd G M_X_fact 88 am_Pi _ from (sn_aload_n (pc := 88) (i := 0) dX11_fact_88 rfl (sn_gR (r0 := 1) (pc := 89) (h := 0) (f := 0) dX11_fact_89 am_CL_10 sh_0 rfl (Nat.le_of_ble_eq_true rfl) tw_219 (sn_callV (pc := 92) (N := M_H_dropFact) dX11_fact_92 (cal_H_dropFact_1 G) sh_1 rfl tw_554 tw_555 tw_556 tw_2 tw_557 dsc_X3_dropFact rfl (sn_aload_n (pc := 95) (i := 0) dX11_fact_95 rfl (sn_bipush (pc := 96) (v := (-3)) dX11_fact_96 (show (Int8.ofInt (-3)).toInt32 = (-3) by decide) (sn_callV (pc := 98) (N := M_X_refuse) dX11_fact_98 (cal_X_refuse G) sh_0 rfl tw_251 tw_253 tp_0 tw_1 tw_254 dsc_X11_refuse rfl (sn_reti (pc := 101) (R := fun x τ => (some ((x, τ)))) dX11_fact_101 rfl (fun _ _ _ _ e h => by cases e; exact h))))))))) _ _ _ _ _ ((eq_X_fact_88  σ).symm.trans e) hr
noncomputable def g_X_fact_102 (σ : am_St) : Option (Int32 × am_St) :=
  some ((σ.1 1 5, σ))
noncomputable def f_X_fact_102 (σ : am_St) : Option (Int32 × am_St) := am_lk (g_X_fact_102  σ)
theorem eq_X_fact_102 (σ : am_St) : f_X_fact_102  σ = g_X_fact_102  σ := am_lk_eq _
set_option maxRecDepth 100000 in
set_option maxHeartbeats 4000000 in
theorem s_X_fact_102 (G : am_G) (σ : am_St) (r : Int32 × am_St) (Q : am_AQ) (e : f_X_fact_102  σ = some r) (hr : am_Pi r Q) : am_AW G M_X_fact 102 [(0, .ref 0)] [] σ Q :=
  (show am_Snd G M_X_fact 102 am_Pi _ from (sn_aload_n (pc := 102) (i := 0) dX11_fact_102 rfl (sn_gR (r0 := 1) (pc := 103) (h := 0) (f := 0) dX11_fact_103 am_CL_10 sh_0 rfl (Nat.le_of_ble_eq_true rfl) tw_219 (sn_gI (pc := 106) (h := 1) (f := 5) dX11_fact_106 am_CL_3 sh_1 rfl (Nat.le_of_ble_eq_true rfl) tw_102 (sn_reti (pc := 109) (R := fun x τ => (some ((x, τ)))) dX11_fact_109 rfl (fun _ _ _ _ e h => by cases e; exact h)))))) _ _ _ _ _ ((eq_X_fact_102  σ).symm.trans e) hr
noncomputable def g_X_fact_41 (x1 : Int32) (x2 : Int32) (x3 : Int32) (x4 : Int32) (σ : am_St) : Option (Int32 × am_St) :=
  if (σ.1 1 5) < 16 then
    (f_H_addFact_1 x1 x2 x3 x4 σ).bind (fun p1 =>
      (f_W_someFor_1 x1 p1.2).bind (fun p2 =>
        if p2.1 = 0 then
          f_X_fact_88 p2.2
        else
          f_X_fact_102 p2.2))
  else
    (f_X_refuse (-6) σ).bind (fun p3 =>
      some ((p3.1, p3.2)))
noncomputable def f_X_fact_41 (x1 : Int32) (x2 : Int32) (x3 : Int32) (x4 : Int32) (σ : am_St) : Option (Int32 × am_St) := am_lk (g_X_fact_41 x1 x2 x3 x4 σ)
theorem eq_X_fact_41 (x1 : Int32) (x2 : Int32) (x3 : Int32) (x4 : Int32) (σ : am_St) : f_X_fact_41 x1 x2 x3 x4 σ = g_X_fact_41 x1 x2 x3 x4 σ := am_lk_eq _
set_option maxRecDepth 100000 in
set_option maxHeartbeats 4000000 in
theorem s_X_fact_41 (G : am_G) (x1 : Int32) (x2 : Int32) (x3 : Int32) (x4 : Int32) (σ : am_St) (r : Int32 × am_St) (Q : am_AQ) (e : f_X_fact_41 x1 x2 x3 x4 σ = some r) (hr : am_Pi r Q) : am_AW G M_X_fact 41 [(4, .int x4), (3, .int x3), (2, .int x2), (1, .int x1), (0, .ref 0)] [] σ Q :=
  (show am_Snd G M_X_fact 41 am_Pi _ from (sn_aload_n (pc := 41) (i := 0) dX11_fact_41 rfl (sn_gR (r0 := 1) (pc := 42) (h := 0) (f := 0) dX11_fact_42 am_CL_10 sh_0 rfl (Nat.le_of_ble_eq_true rfl) tw_219 (sn_gI (pc := 45) (h := 1) (f := 5) dX11_fact_45 am_CL_3 sh_1 rfl (Nat.le_of_ble_eq_true rfl) tw_102 (sn_bipush (pc := 48) (v := 16) dX11_fact_48 rfl (sn_icmp_lt (pc := 50) (tgt := 60) dX11_fact_50 rfl (sn_aload_n (pc := 60) (i := 0) dX11_fact_60 rfl (sn_gR (r0 := 1) (pc := 61) (h := 0) (f := 0) dX11_fact_61 am_CL_10 sh_0 rfl (Nat.le_of_ble_eq_true rfl) tw_219 (sn_iload_n (pc := 64) (i := 1) dX11_fact_64 rfl (sn_iload_n (pc := 65) (i := 2) dX11_fact_65 rfl (sn_iload_n (pc := 66) (i := 3) dX11_fact_66 rfl (sn_iload (pc := 67) dX11_fact_67 (sn_callV (pc := 69) (N := M_H_addFact) dX11_fact_69 (cal_H_addFact_1 G) sh_1 rfl tw_552 tw_415 tw_416 tw_2 tw_417 dsc_X3_addFact rfl (sn_pop (pc := 72) dX11_fact_72 (sn_aload_n (pc := 73) (i := 0) dX11_fact_73 rfl (sn_gR (r0 := 54) (pc := 74) (h := 0) (f := 4) dX11_fact_74 am_CL_10 sh_0 rfl (Nat.le_of_ble_eq_true rfl) tw_223 (sn_aload_n (pc := 77) (i := 0) dX11_fact_77 rfl (sn_gR (r0 := 1) (pc := 78) (h := 0) (f := 0) dX11_fact_78 am_CL_10 sh_0 rfl (Nat.le_of_ble_eq_true rfl) tw_219 (sn_iload_n (pc := 81) (i := 1) dX11_fact_81 rfl (sn_callV (pc := 82) (N := M_W_someFor) dX11_fact_82 (cal_W_someFor_1 G) sh_54 rfl tw_553 tw_333 tw_334 tw_10 tw_335 dsc_X10_someFor rfl (sn_if_ne (pc := 85) (tgt := 102) dX11_fact_85 rfl (sn_lf (pc := 102) (ln_a (i := 0) (q := 0) (ln_end (o := fun τ => f_X_fact_102 τ) (fun _ _ _ e h => s_X_fact_102 G  _ _ _ e h)))) (sn_lf (pc := 88) (ln_a (i := 0) (q := 0) (ln_end (o := fun τ => f_X_fact_88 τ) (fun _ _ _ e h => s_X_fact_88 G  _ _ _ e h))))))))))))))))))) (sn_aload_n (pc := 53) (i := 0) dX11_fact_53 rfl (sn_bipush (pc := 54) (v := (-6)) dX11_fact_54 (show (Int8.ofInt (-6)).toInt32 = (-6) by decide) (sn_callV (pc := 56) (N := M_X_refuse) dX11_fact_56 (cal_X_refuse G) sh_0 rfl tw_251 tw_253 tp_0 tw_1 tw_254 dsc_X11_refuse rfl (sn_reti (pc := 59) (R := fun x τ => (some ((x, τ)))) dX11_fact_59 rfl (fun _ _ _ _ e h => by cases e; exact h))))))))))) _ _ _ _ _ ((eq_X_fact_41 x1 x2 x3 x4 σ).symm.trans e) hr
noncomputable def g_X_fact (x1 : Int32) (x2 : Int32) (x3 : Int32) (x4 : Int32) (σ : am_St) : Option (Int32 × am_St) :=
  (f_X_isPoint x1 x2 σ).bind (fun p1 =>
    if p1.1 = 0 then
      f_X_fact_20 p1.2
    else
      (f_H_hasRoom_1 x3 p1.2).bind (fun p2 =>
        if p2.1 = 0 then
          f_X_fact_20 p2.2
        else
          (f_X_isZeroOrOne x4 p2.2).bind (fun p3 =>
            if p3.1 = 0 then
              f_X_fact_34 p3.2
            else
              f_X_fact_41 x1 x2 x3 x4 p3.2)))
noncomputable def f_X_fact (x1 : Int32) (x2 : Int32) (x3 : Int32) (x4 : Int32) (σ : am_St) : Option (Int32 × am_St) := am_lk (g_X_fact x1 x2 x3 x4 σ)
theorem eq_X_fact (x1 : Int32) (x2 : Int32) (x3 : Int32) (x4 : Int32) (σ : am_St) : f_X_fact x1 x2 x3 x4 σ = g_X_fact x1 x2 x3 x4 σ := am_lk_eq _
set_option maxRecDepth 100000 in
set_option maxHeartbeats 4000000 in
theorem s_X_fact (G : am_G) (x1 : Int32) (x2 : Int32) (x3 : Int32) (x4 : Int32) (σ : am_St) (r : Int32 × am_St) (Q : am_AQ) (e : f_X_fact x1 x2 x3 x4 σ = some r) (hr : am_Pi r Q) : am_AW G M_X_fact 0 [(0, .ref 0), (1, .int x1), (2, .int x2), (3, .int x3), (4, .int x4)] [] σ Q :=
  (show am_Snd G M_X_fact 0 am_Pi _ from (sn_aload_n (pc := 0) (i := 0) dX11_fact_0 rfl (sn_iload_n (pc := 1) (i := 1) dX11_fact_1 rfl (sn_iload_n (pc := 2) (i := 2) dX11_fact_2 rfl (sn_callV (pc := 3) (N := M_X_isPoint) dX11_fact_3 (cal_X_isPoint G) sh_0 rfl tw_545 tw_547 tp_16 tw_1 tw_548 dsc_X11_isPoint rfl (sn_if_eq (pc := 6) (tgt := 20) dX11_fact_6 rfl (sn_lf (pc := 20) (ln_a (i := 0) (q := 0) (ln_end (o := fun τ => f_X_fact_20 τ) (fun _ _ _ e h => s_X_fact_20 G  _ _ _ e h)))) (sn_aload_n (pc := 9) (i := 0) dX11_fact_9 rfl (sn_gR (r0 := 1) (pc := 10) (h := 0) (f := 0) dX11_fact_10 am_CL_10 sh_0 rfl (Nat.le_of_ble_eq_true rfl) tw_219 (sn_iload_n (pc := 13) (i := 3) dX11_fact_13 rfl (sn_callV (pc := 14) (N := M_H_hasRoom) dX11_fact_14 (cal_H_hasRoom_1 G) sh_1 rfl tw_529 tw_324 tw_325 tw_2 tw_326 dsc_X3_hasRoom rfl (sn_if_ne (pc := 17) (tgt := 26) dX11_fact_17 rfl (sn_iload (pc := 26) dX11_fact_26 (sn_callS (pc := 28) (N := M_X_isZeroOrOne) dX11_fact_28 (cal_X_isZeroOrOne G) tw_549 tw_550 tw_1 tw_551 dsc_X11_isZeroOrOne rfl (sn_if_ne (pc := 31) (tgt := 41) dX11_fact_31 rfl (sn_lf (pc := 41) (ln_a (i := 0) (q := 0) (ln_i (i := 1) (fun z0 => (ln_i (i := 2) (fun z1 => (ln_i (i := 3) (fun z2 => (ln_i (i := 4) (fun z3 => (ln_end (o := fun τ => f_X_fact_41 z0 z1 z2 z3 τ) (fun _ _ _ e h => s_X_fact_41 G z0 z1 z2 z3 _ _ _ e h)))))))))))) (sn_lf (pc := 34) (ln_a (i := 0) (q := 0) (ln_end (o := fun τ => f_X_fact_34 τ) (fun _ _ _ e h => s_X_fact_34 G  _ _ _ e h))))))) (sn_lf (pc := 20) (ln_a (i := 0) (q := 0) (ln_end (o := fun τ => f_X_fact_20 τ) (fun _ _ _ e h => s_X_fact_20 G  _ _ _ e h))))))))))))))) _ _ _ _ _ ((eq_X_fact x1 x2 x3 x4 σ).symm.trans e) hr
noncomputable def cF_X_fact : am_Fn := fun _ args σ K => match args with
  | [.ref q0, .int z1, .int z2, .int z3, .int z4] => match Nat.beq q0 0 with
    | true => (f_X_fact z1 z2 z3 z4 σ).bind (fun p => K (some (.int p.1)) p.2)
    | _ => none
  | _ => none
theorem cal_X_fact (G : am_G) : am_Cal G M_X_fact cF_X_fact := by
  intro ρ args σ K r e
  unfold cF_X_fact at e
  split at e
  · split at e
    · rename_i hq0
      obtain ⟨p, h1, h2⟩ := am_bind_some e
      rw [Nat.eq_of_beq_eq_true hq0]
      exact ⟨some (.int p.1), p.2, am_Met.of rfl (Nat.le_of_ble_eq_true rfl) (s_X_fact G _ _ _ _ σ p _ h1 ⟨rfl, rfl⟩), h2⟩
    · cases e
  · cases e
abbrev M_X_unfact : am_MD := (yX11_unfact, cX11_unfact, 1, (some .int), 2, 41)
theorem dX11_unfact_0 : decode cX11_unfact 0 = .ok (.aload_n 0, 1) := by decide +kernel
theorem dX11_unfact_1 : decode cX11_unfact 1 = .ok (.getfield 10, 3) := by decide +kernel
theorem dX11_unfact_4 : decode cX11_unfact 4 = .ok (.getfield 135, 3) := by decide +kernel
theorem dX11_unfact_7 : decode cX11_unfact 7 = .ok (.ifCond .ne 10, 3) := by decide +kernel
theorem dX11_unfact_10 : decode cX11_unfact 10 = .ok (.aload_n 0, 1) := by decide +kernel
theorem dX11_unfact_11 : decode cX11_unfact 11 = .ok (.bipush (-3), 2) := by decide +kernel
theorem dX11_unfact_13 : decode cX11_unfact 13 = .ok (.invokevirtual 55, 3) := by decide +kernel
theorem dX11_unfact_16 : decode cX11_unfact 16 = .ok (.ireturn, 1) := by decide +kernel
theorem dX11_unfact_17 : decode cX11_unfact 17 = .ok (.aload_n 0, 1) := by decide +kernel
theorem dX11_unfact_18 : decode cX11_unfact 18 = .ok (.getfield 10, 3) := by decide +kernel
theorem dX11_unfact_21 : decode cX11_unfact 21 = .ok (.invokevirtual 146, 3) := by decide +kernel
theorem dX11_unfact_24 : decode cX11_unfact 24 = .ok (.aload_n 0, 1) := by decide +kernel
theorem dX11_unfact_25 : decode cX11_unfact 25 = .ok (.getfield 10, 3) := by decide +kernel
theorem dX11_unfact_28 : decode cX11_unfact 28 = .ok (.getfield 135, 3) := by decide +kernel
theorem dX11_unfact_31 : decode cX11_unfact 31 = .ok (.ireturn, 1) := by decide +kernel
noncomputable def g_X_unfact (σ : am_St) : Option (Int32 × am_St) :=
  if (σ.1 1 5) = 0 then
    (f_X_refuse (-3) σ).bind (fun p2 =>
      some ((p2.1, p2.2)))
  else
    (f_H_dropFact_1 σ).bind (fun p1 =>
      some ((p1.1 1 5, p1)))
noncomputable def f_X_unfact (σ : am_St) : Option (Int32 × am_St) := am_lk (g_X_unfact  σ)
theorem eq_X_unfact (σ : am_St) : f_X_unfact  σ = g_X_unfact  σ := am_lk_eq _
set_option maxRecDepth 100000 in
set_option maxHeartbeats 4000000 in
theorem s_X_unfact (G : am_G) (σ : am_St) (r : Int32 × am_St) (Q : am_AQ) (e : f_X_unfact  σ = some r) (hr : am_Pi r Q) : am_AW G M_X_unfact 0 [(0, .ref 0)] [] σ Q :=
  (show am_Snd G M_X_unfact 0 am_Pi _ from (sn_aload_n (pc := 0) (i := 0) dX11_unfact_0 rfl (sn_gR (r0 := 1) (pc := 1) (h := 0) (f := 0) dX11_unfact_1 am_CL_10 sh_0 rfl (Nat.le_of_ble_eq_true rfl) tw_219 (sn_gI (pc := 4) (h := 1) (f := 5) dX11_unfact_4 am_CL_3 sh_1 rfl (Nat.le_of_ble_eq_true rfl) tw_102 (sn_if_ne (pc := 7) (tgt := 17) dX11_unfact_7 rfl (sn_aload_n (pc := 17) (i := 0) dX11_unfact_17 rfl (sn_gR (r0 := 1) (pc := 18) (h := 0) (f := 0) dX11_unfact_18 am_CL_10 sh_0 rfl (Nat.le_of_ble_eq_true rfl) tw_219 (sn_callV (pc := 21) (N := M_H_dropFact) dX11_unfact_21 (cal_H_dropFact_1 G) sh_1 rfl tw_554 tw_555 tw_556 tw_2 tw_557 dsc_X3_dropFact rfl (sn_aload_n (pc := 24) (i := 0) dX11_unfact_24 rfl (sn_gR (r0 := 1) (pc := 25) (h := 0) (f := 0) dX11_unfact_25 am_CL_10 sh_0 rfl (Nat.le_of_ble_eq_true rfl) tw_219 (sn_gI (pc := 28) (h := 1) (f := 5) dX11_unfact_28 am_CL_3 sh_1 rfl (Nat.le_of_ble_eq_true rfl) tw_102 (sn_reti (pc := 31) (R := fun x τ => (some ((x, τ)))) dX11_unfact_31 rfl (fun _ _ _ _ e h => by cases e; exact h)))))))) (sn_aload_n (pc := 10) (i := 0) dX11_unfact_10 rfl (sn_bipush (pc := 11) (v := (-3)) dX11_unfact_11 (show (Int8.ofInt (-3)).toInt32 = (-3) by decide) (sn_callV (pc := 13) (N := M_X_refuse) dX11_unfact_13 (cal_X_refuse G) sh_0 rfl tw_251 tw_253 tp_0 tw_1 tw_254 dsc_X11_refuse rfl (sn_reti (pc := 16) (R := fun x τ => (some ((x, τ)))) dX11_unfact_16 rfl (fun _ _ _ _ e h => by cases e; exact h)))))))))) _ _ _ _ _ ((eq_X_unfact  σ).symm.trans e) hr
noncomputable def cF_X_unfact : am_Fn := fun _ args σ K => match args with
  | [.ref q0] => match Nat.beq q0 0 with
    | true => (f_X_unfact σ).bind (fun p => K (some (.int p.1)) p.2)
    | _ => none
  | _ => none
theorem cal_X_unfact (G : am_G) : am_Cal G M_X_unfact cF_X_unfact := by
  intro ρ args σ K r e
  unfold cF_X_unfact at e
  split at e
  · split at e
    · rename_i hq0
      obtain ⟨p, h1, h2⟩ := am_bind_some e
      rw [Nat.eq_of_beq_eq_true hq0]
      exact ⟨some (.int p.1), p.2, am_Met.of rfl (Nat.le_of_ble_eq_true rfl) (s_X_unfact G  σ p _ h1 ⟨rfl, rfl⟩), h2⟩
    · cases e
  · cases e
abbrev M_H_chanceOf : am_MD := (yX3_chanceOf, cX3_chanceOf, 2, (some .int), 0, 0)
theorem dX3_chanceOf_0 : decode cX3_chanceOf 0 = .ok (.iload_n 1, 1) := by decide +kernel
theorem dX3_chanceOf_1 : decode cX3_chanceOf 1 = .ok (.iconst 4, 1) := by decide +kernel
theorem dX3_chanceOf_2 : decode cX3_chanceOf 2 = .ok (.if_icmp .lt 20, 3) := by decide +kernel
theorem dX3_chanceOf_5 : decode cX3_chanceOf 5 = .ok (.iload_n 1, 1) := by decide +kernel
theorem dX3_chanceOf_6 : decode cX3_chanceOf 6 = .ok (.bipush 7, 2) := by decide +kernel
theorem dX3_chanceOf_8 : decode cX3_chanceOf 8 = .ok (.if_icmp .ge 14, 3) := by decide +kernel
theorem dX3_chanceOf_11 : decode cX3_chanceOf 11 = .ok (.aload_n 0, 1) := by decide +kernel
theorem dX3_chanceOf_12 : decode cX3_chanceOf 12 = .ok (.getfield 37, 3) := by decide +kernel
theorem dX3_chanceOf_15 : decode cX3_chanceOf 15 = .ok (.iload_n 1, 1) := by decide +kernel
theorem dX3_chanceOf_16 : decode cX3_chanceOf 16 = .ok (.iconst 4, 1) := by decide +kernel
theorem dX3_chanceOf_17 : decode cX3_chanceOf 17 = .ok (.isub, 1) := by decide +kernel
theorem dX3_chanceOf_18 : decode cX3_chanceOf 18 = .ok (.iaload, 1) := by decide +kernel
theorem dX3_chanceOf_19 : decode cX3_chanceOf 19 = .ok (.goto 4, 3) := by decide +kernel
theorem dX3_chanceOf_22 : decode cX3_chanceOf 22 = .ok (.iconst 0, 1) := by decide +kernel
theorem dX3_chanceOf_23 : decode cX3_chanceOf 23 = .ok (.ireturn, 1) := by decide +kernel
noncomputable def g_H_chanceOf_1 (x1 : Int32) (σ : am_St) : Option (Int32 × am_St) :=
  if x1 < 4 then
    some ((0, σ))
  else
    if 7 ≤ x1 then
      some ((0, σ))
    else
      if am_ix (x1 - 4) 3 = true then
        some ((σ.1 8 (x1 - 4).toNatClampNeg, σ))
      else none
noncomputable def f_H_chanceOf_1 (x1 : Int32) (σ : am_St) : Option (Int32 × am_St) := am_lk (g_H_chanceOf_1 x1 σ)
theorem eq_H_chanceOf_1 (x1 : Int32) (σ : am_St) : f_H_chanceOf_1 x1 σ = g_H_chanceOf_1 x1 σ := am_lk_eq _
set_option maxRecDepth 100000 in
set_option maxHeartbeats 4000000 in
theorem s_H_chanceOf_1 (G : am_G) (x1 : Int32) (σ : am_St) (r : Int32 × am_St) (Q : am_AQ) (e : f_H_chanceOf_1 x1 σ = some r) (hr : am_Pi r Q) : am_AW G M_H_chanceOf 0 [(0, .ref 1), (1, .int x1)] [] σ Q :=
  (show am_Snd G M_H_chanceOf 0 am_Pi _ from (sn_iload_n (pc := 0) (i := 1) dX3_chanceOf_0 rfl (sn_iconst (pc := 1) (v := 4) dX3_chanceOf_1 rfl (sn_icmp_lt (pc := 2) (tgt := 22) dX3_chanceOf_2 rfl (sn_iconst (pc := 22) (v := 0) dX3_chanceOf_22 rfl (sn_reti (pc := 23) (R := fun x τ => (some ((x, τ)))) dX3_chanceOf_23 rfl (fun _ _ _ _ e h => by cases e; exact h))) (sn_iload_n (pc := 5) (i := 1) dX3_chanceOf_5 rfl (sn_bipush (pc := 6) (v := 7) dX3_chanceOf_6 rfl (sn_icmp_ge (pc := 8) (tgt := 22) dX3_chanceOf_8 rfl (sn_iconst (pc := 22) (v := 0) dX3_chanceOf_22 rfl (sn_reti (pc := 23) (R := fun x τ => (some ((x, τ)))) dX3_chanceOf_23 rfl (fun _ _ _ _ e h => by cases e; exact h))) (sn_aload_n (pc := 11) (i := 0) dX3_chanceOf_11 rfl (sn_gR (r0 := 8) (pc := 12) (h := 1) (f := 13) dX3_chanceOf_12 am_CL_3 sh_1 rfl (Nat.le_of_ble_eq_true rfl) tw_113 (sn_iload_n (pc := 15) (i := 1) dX3_chanceOf_15 rfl (sn_iconst (pc := 16) (v := 4) dX3_chanceOf_16 rfl (sn_isub (pc := 17) dX3_chanceOf_17 (sn_aI (pc := 18) (h := 8) dX3_chanceOf_18 sh_8 (sn_goto (pc := 19) (tgt := 23) dX3_chanceOf_19 rfl (sn_reti (pc := 23) (R := fun x τ => (some ((x, τ)))) dX3_chanceOf_23 rfl (fun _ _ _ _ e h => by cases e; exact h)))))))))))))))) _ _ _ _ _ ((eq_H_chanceOf_1 x1 σ).symm.trans e) hr
noncomputable def cF_H_chanceOf_1 : am_Fn := fun _ args σ K => match args with
  | [.ref q0, .int z1] => match Nat.beq q0 1 with
    | true => (f_H_chanceOf_1 z1 σ).bind (fun p => K (some (.int p.1)) p.2)
    | _ => none
  | _ => none
theorem cal_H_chanceOf_1 (G : am_G) : am_Cal G M_H_chanceOf cF_H_chanceOf_1 := by
  intro ρ args σ K r e
  unfold cF_H_chanceOf_1 at e
  split at e
  · split at e
    · rename_i hq0
      obtain ⟨p, h1, h2⟩ := am_bind_some e
      rw [Nat.eq_of_beq_eq_true hq0]
      exact ⟨some (.int p.1), p.2, am_Met.of rfl (Nat.le_of_ble_eq_true rfl) (s_H_chanceOf_1 G _ σ p _ h1 ⟨rfl, rfl⟩), h2⟩
    · cases e
  · cases e
abbrev M_H_putChance : am_MD := (yX3_putChance, cX3_putChance, 3, none, 0, 0)
theorem dX3_putChance_0 : decode cX3_putChance 0 = .ok (.iload_n 1, 1) := by decide +kernel
theorem dX3_putChance_1 : decode cX3_putChance 1 = .ok (.iconst 4, 1) := by decide +kernel
theorem dX3_putChance_2 : decode cX3_putChance 2 = .ok (.if_icmp .lt 18, 3) := by decide +kernel
theorem dX3_putChance_5 : decode cX3_putChance 5 = .ok (.iload_n 1, 1) := by decide +kernel
theorem dX3_putChance_6 : decode cX3_putChance 6 = .ok (.bipush 7, 2) := by decide +kernel
theorem dX3_putChance_8 : decode cX3_putChance 8 = .ok (.if_icmp .ge 12, 3) := by decide +kernel
theorem dX3_putChance_11 : decode cX3_putChance 11 = .ok (.aload_n 0, 1) := by decide +kernel
theorem dX3_putChance_12 : decode cX3_putChance 12 = .ok (.getfield 37, 3) := by decide +kernel
theorem dX3_putChance_15 : decode cX3_putChance 15 = .ok (.iload_n 1, 1) := by decide +kernel
theorem dX3_putChance_16 : decode cX3_putChance 16 = .ok (.iconst 4, 1) := by decide +kernel
theorem dX3_putChance_17 : decode cX3_putChance 17 = .ok (.isub, 1) := by decide +kernel
theorem dX3_putChance_18 : decode cX3_putChance 18 = .ok (.iload_n 2, 1) := by decide +kernel
theorem dX3_putChance_19 : decode cX3_putChance 19 = .ok (.iastore, 1) := by decide +kernel
theorem dX3_putChance_20 : decode cX3_putChance 20 = .ok (.return_, 1) := by decide +kernel
noncomputable def g_H_putChance_1 (x1 : Int32) (x2 : Int32) (σ : am_St) : Option (am_St) :=
  if x1 < 4 then
    some (σ)
  else
    if 7 ≤ x1 then
      some (σ)
    else
      if am_ix (x1 - 4) 3 = true then
        let s1 := am_sI σ 8 (x1 - 4).toNatClampNeg x2
        some (s1)
      else none
noncomputable def f_H_putChance_1 (x1 : Int32) (x2 : Int32) (σ : am_St) : Option (am_St) := am_lk (g_H_putChance_1 x1 x2 σ)
theorem eq_H_putChance_1 (x1 : Int32) (x2 : Int32) (σ : am_St) : f_H_putChance_1 x1 x2 σ = g_H_putChance_1 x1 x2 σ := am_lk_eq _
set_option maxRecDepth 100000 in
set_option maxHeartbeats 4000000 in
theorem s_H_putChance_1 (G : am_G) (x1 : Int32) (x2 : Int32) (σ : am_St) (r : am_St) (Q : am_AQ) (e : f_H_putChance_1 x1 x2 σ = some r) (hr : am_Pv r Q) : am_AW G M_H_putChance 0 [(0, .ref 1), (1, .int x1), (2, .int x2)] [] σ Q :=
  (show am_Snd G M_H_putChance 0 am_Pv _ from (sn_iload_n (pc := 0) (i := 1) dX3_putChance_0 rfl (sn_iconst (pc := 1) (v := 4) dX3_putChance_1 rfl (sn_icmp_lt (pc := 2) (tgt := 20) dX3_putChance_2 rfl (sn_retv (pc := 20) (R := fun τ => (some (τ))) dX3_putChance_20 rfl (fun _ _ _ e h => by cases e; exact h)) (sn_iload_n (pc := 5) (i := 1) dX3_putChance_5 rfl (sn_bipush (pc := 6) (v := 7) dX3_putChance_6 rfl (sn_icmp_ge (pc := 8) (tgt := 20) dX3_putChance_8 rfl (sn_retv (pc := 20) (R := fun τ => (some (τ))) dX3_putChance_20 rfl (fun _ _ _ e h => by cases e; exact h)) (sn_aload_n (pc := 11) (i := 0) dX3_putChance_11 rfl (sn_gR (r0 := 8) (pc := 12) (h := 1) (f := 13) dX3_putChance_12 am_CL_3 sh_1 rfl (Nat.le_of_ble_eq_true rfl) tw_113 (sn_iload_n (pc := 15) (i := 1) dX3_putChance_15 rfl (sn_iconst (pc := 16) (v := 4) dX3_putChance_16 rfl (sn_isub (pc := 17) dX3_putChance_17 (sn_iload_n (pc := 18) (i := 2) dX3_putChance_18 rfl (sn_sI (pc := 19) (h := 8) dX3_putChance_19 sh_8 (sn_retv (pc := 20) (R := fun τ => (some (τ))) dX3_putChance_20 rfl (fun _ _ _ e h => by cases e; exact h)))))))))))))))) _ _ _ _ _ ((eq_H_putChance_1 x1 x2 σ).symm.trans e) hr
noncomputable def cF_H_putChance_1 : am_Fn := fun _ args σ K => match args with
  | [.ref q0, .int z1, .int z2] => match Nat.beq q0 1 with
    | true => (f_H_putChance_1 z1 z2 σ).bind (fun p => K none p)
    | _ => none
  | _ => none
theorem cal_H_putChance_1 (G : am_G) : am_Cal G M_H_putChance cF_H_putChance_1 := by
  intro ρ args σ K r e
  unfold cF_H_putChance_1 at e
  split at e
  · split at e
    · rename_i hq0
      obtain ⟨p, h1, h2⟩ := am_bind_some e
      rw [Nat.eq_of_beq_eq_true hq0]
      exact ⟨none, p, am_Met.of rfl (Nat.le_of_ble_eq_true rfl) (s_H_putChance_1 G _ _ σ p _ h1 ⟨rfl, rfl⟩), h2⟩
    · cases e
  · cases e
abbrev M_X_chance : am_MD := (yX11_chance, cX11_chance, 4, (some .int), 1, 22)
theorem dX11_chance_0 : decode cX11_chance 0 = .ok (.iload_n 1, 1) := by decide +kernel
theorem dX11_chance_1 : decode cX11_chance 1 = .ok (.iconst 4, 1) := by decide +kernel
theorem dX11_chance_2 : decode cX11_chance 2 = .ok (.if_icmp .lt 9, 3) := by decide +kernel
theorem dX11_chance_5 : decode cX11_chance 5 = .ok (.iload_n 1, 1) := by decide +kernel
theorem dX11_chance_6 : decode cX11_chance 6 = .ok (.bipush 7, 2) := by decide +kernel
theorem dX11_chance_8 : decode cX11_chance 8 = .ok (.if_icmp .lt 9, 3) := by decide +kernel
theorem dX11_chance_11 : decode cX11_chance 11 = .ok (.aload_n 0, 1) := by decide +kernel
theorem dX11_chance_12 : decode cX11_chance 12 = .ok (.iconst (-1), 1) := by decide +kernel
theorem dX11_chance_13 : decode cX11_chance 13 = .ok (.invokevirtual 55, 3) := by decide +kernel
theorem dX11_chance_16 : decode cX11_chance 16 = .ok (.ireturn, 1) := by decide +kernel
theorem dX11_chance_17 : decode cX11_chance 17 = .ok (.iload_n 2, 1) := by decide +kernel
theorem dX11_chance_18 : decode cX11_chance 18 = .ok (.ifCond .ge 10, 3) := by decide +kernel
theorem dX11_chance_21 : decode cX11_chance 21 = .ok (.aload_n 0, 1) := by decide +kernel
theorem dX11_chance_22 : decode cX11_chance 22 = .ok (.bipush (-4), 2) := by decide +kernel
theorem dX11_chance_24 : decode cX11_chance 24 = .ok (.invokevirtual 55, 3) := by decide +kernel
theorem dX11_chance_27 : decode cX11_chance 27 = .ok (.ireturn, 1) := by decide +kernel
theorem dX11_chance_28 : decode cX11_chance 28 = .ok (.iload_n 2, 1) := by decide +kernel
theorem dX11_chance_29 : decode cX11_chance 29 = .ok (.bipush 99, 2) := by decide +kernel
theorem dX11_chance_31 : decode cX11_chance 31 = .ok (.if_icmp .le 10, 3) := by decide +kernel
theorem dX11_chance_34 : decode cX11_chance 34 = .ok (.aload_n 0, 1) := by decide +kernel
theorem dX11_chance_35 : decode cX11_chance 35 = .ok (.bipush (-6), 2) := by decide +kernel
theorem dX11_chance_37 : decode cX11_chance 37 = .ok (.invokevirtual 55, 3) := by decide +kernel
theorem dX11_chance_40 : decode cX11_chance 40 = .ok (.ireturn, 1) := by decide +kernel
theorem dX11_chance_41 : decode cX11_chance 41 = .ok (.aload_n 0, 1) := by decide +kernel
theorem dX11_chance_42 : decode cX11_chance 42 = .ok (.getfield 10, 3) := by decide +kernel
theorem dX11_chance_45 : decode cX11_chance 45 = .ok (.iload_n 1, 1) := by decide +kernel
theorem dX11_chance_46 : decode cX11_chance 46 = .ok (.invokevirtual 149, 3) := by decide +kernel
theorem dX11_chance_49 : decode cX11_chance 49 = .ok (.istore_n 3, 1) := by decide +kernel
theorem dX11_chance_50 : decode cX11_chance 50 = .ok (.aload_n 0, 1) := by decide +kernel
theorem dX11_chance_51 : decode cX11_chance 51 = .ok (.getfield 10, 3) := by decide +kernel
theorem dX11_chance_54 : decode cX11_chance 54 = .ok (.iload_n 1, 1) := by decide +kernel
theorem dX11_chance_55 : decode cX11_chance 55 = .ok (.iload_n 2, 1) := by decide +kernel
theorem dX11_chance_56 : decode cX11_chance 56 = .ok (.invokevirtual 152, 3) := by decide +kernel
theorem dX11_chance_59 : decode cX11_chance 59 = .ok (.iload_n 3, 1) := by decide +kernel
theorem dX11_chance_60 : decode cX11_chance 60 = .ok (.ireturn, 1) := by decide +kernel
noncomputable def g_X_chance_11 (σ : am_St) : Option (Int32 × am_St) :=
  (f_X_refuse (-1) σ).bind (fun p1 =>
    some ((p1.1, p1.2)))
noncomputable def f_X_chance_11 (σ : am_St) : Option (Int32 × am_St) := am_lk (g_X_chance_11  σ)
theorem eq_X_chance_11 (σ : am_St) : f_X_chance_11  σ = g_X_chance_11  σ := am_lk_eq _
set_option maxRecDepth 100000 in
set_option maxHeartbeats 4000000 in
theorem s_X_chance_11 (G : am_G) (σ : am_St) (r : Int32 × am_St) (Q : am_AQ) (e : f_X_chance_11  σ = some r) (hr : am_Pi r Q) : am_AW G M_X_chance 11 [(0, .ref 0)] [] σ Q :=
  (show am_Snd G M_X_chance 11 am_Pi _ from (sn_aload_n (pc := 11) (i := 0) dX11_chance_11 rfl (sn_iconst (pc := 12) (v := (-1)) dX11_chance_12 (show Int32.ofInt (-1) = (-1) by decide) (sn_callV (pc := 13) (N := M_X_refuse) dX11_chance_13 (cal_X_refuse G) sh_0 rfl tw_251 tw_253 tp_0 tw_1 tw_254 dsc_X11_refuse rfl (sn_reti (pc := 16) (R := fun x τ => (some ((x, τ)))) dX11_chance_16 rfl (fun _ _ _ _ e h => by cases e; exact h)))))) _ _ _ _ _ ((eq_X_chance_11  σ).symm.trans e) hr
noncomputable def g_X_chance (x1 : Int32) (x2 : Int32) (σ : am_St) : Option (Int32 × am_St) :=
  if x1 < 4 then
    f_X_chance_11 σ
  else
    if x1 < 7 then
      if 0 ≤ x2 then
        if x2 ≤ 99 then
          (f_H_chanceOf_1 x1 σ).bind (fun p1 =>
            (f_H_putChance_1 x1 x2 p1.2).bind (fun p2 =>
              some ((p1.1, p2))))
        else
          (f_X_refuse (-6) σ).bind (fun p3 =>
            some ((p3.1, p3.2)))
      else
        (f_X_refuse (-4) σ).bind (fun p4 =>
          some ((p4.1, p4.2)))
    else
      f_X_chance_11 σ
noncomputable def f_X_chance (x1 : Int32) (x2 : Int32) (σ : am_St) : Option (Int32 × am_St) := am_lk (g_X_chance x1 x2 σ)
theorem eq_X_chance (x1 : Int32) (x2 : Int32) (σ : am_St) : f_X_chance x1 x2 σ = g_X_chance x1 x2 σ := am_lk_eq _
set_option maxRecDepth 100000 in
set_option maxHeartbeats 4000000 in
theorem s_X_chance (G : am_G) (x1 : Int32) (x2 : Int32) (σ : am_St) (r : Int32 × am_St) (Q : am_AQ) (e : f_X_chance x1 x2 σ = some r) (hr : am_Pi r Q) : am_AW G M_X_chance 0 [(0, .ref 0), (1, .int x1), (2, .int x2)] [] σ Q :=
  (show am_Snd G M_X_chance 0 am_Pi _ from (sn_iload_n (pc := 0) (i := 1) dX11_chance_0 rfl (sn_iconst (pc := 1) (v := 4) dX11_chance_1 rfl (sn_icmp_lt (pc := 2) (tgt := 11) dX11_chance_2 rfl (sn_lf (pc := 11) (ln_a (i := 0) (q := 0) (ln_end (o := fun τ => f_X_chance_11 τ) (fun _ _ _ e h => s_X_chance_11 G  _ _ _ e h)))) (sn_iload_n (pc := 5) (i := 1) dX11_chance_5 rfl (sn_bipush (pc := 6) (v := 7) dX11_chance_6 rfl (sn_icmp_lt (pc := 8) (tgt := 17) dX11_chance_8 rfl (sn_iload_n (pc := 17) (i := 2) dX11_chance_17 rfl (sn_if_ge (pc := 18) (tgt := 28) dX11_chance_18 rfl (sn_iload_n (pc := 28) (i := 2) dX11_chance_28 rfl (sn_bipush (pc := 29) (v := 99) dX11_chance_29 rfl (sn_icmp_le (pc := 31) (tgt := 41) dX11_chance_31 rfl (sn_aload_n (pc := 41) (i := 0) dX11_chance_41 rfl (sn_gR (r0 := 1) (pc := 42) (h := 0) (f := 0) dX11_chance_42 am_CL_10 sh_0 rfl (Nat.le_of_ble_eq_true rfl) tw_219 (sn_iload_n (pc := 45) (i := 1) dX11_chance_45 rfl (sn_callV (pc := 46) (N := M_H_chanceOf) dX11_chance_46 (cal_H_chanceOf_1 G) sh_1 rfl tw_566 tw_567 tw_568 tw_2 tw_569 dsc_X3_chanceOf rfl (sn_istore_n (pc := 49) (i := 3) dX11_chance_49 rfl (Nat.le_of_ble_eq_true rfl) (sn_aload_n (pc := 50) (i := 0) dX11_chance_50 rfl (sn_gR (r0 := 1) (pc := 51) (h := 0) (f := 0) dX11_chance_51 am_CL_10 sh_0 rfl (Nat.le_of_ble_eq_true rfl) tw_219 (sn_iload_n (pc := 54) (i := 1) dX11_chance_54 rfl (sn_iload_n (pc := 55) (i := 2) dX11_chance_55 rfl (sn_callV (pc := 56) (N := M_H_putChance) dX11_chance_56 (cal_H_putChance_1 G) sh_1 rfl tw_570 tw_571 tw_572 tw_2 tw_573 dsc_X3_putChance rfl (sn_iload_n (pc := 59) (i := 3) dX11_chance_59 rfl (sn_reti (pc := 60) (R := fun x τ => (some ((x, τ)))) dX11_chance_60 rfl (fun _ _ _ _ e h => by cases e; exact h))))))))))))) (sn_aload_n (pc := 34) (i := 0) dX11_chance_34 rfl (sn_bipush (pc := 35) (v := (-6)) dX11_chance_35 (show (Int8.ofInt (-6)).toInt32 = (-6) by decide) (sn_callV (pc := 37) (N := M_X_refuse) dX11_chance_37 (cal_X_refuse G) sh_0 rfl tw_251 tw_253 tp_0 tw_1 tw_254 dsc_X11_refuse rfl (sn_reti (pc := 40) (R := fun x τ => (some ((x, τ)))) dX11_chance_40 rfl (fun _ _ _ _ e h => by cases e; exact h)))))))) (sn_aload_n (pc := 21) (i := 0) dX11_chance_21 rfl (sn_bipush (pc := 22) (v := (-4)) dX11_chance_22 (show (Int8.ofInt (-4)).toInt32 = (-4) by decide) (sn_callV (pc := 24) (N := M_X_refuse) dX11_chance_24 (cal_X_refuse G) sh_0 rfl tw_251 tw_253 tp_0 tw_1 tw_254 dsc_X11_refuse rfl (sn_reti (pc := 27) (R := fun x τ => (some ((x, τ)))) dX11_chance_27 rfl (fun _ _ _ _ e h => by cases e; exact h))))))) (sn_lf (pc := 11) (ln_a (i := 0) (q := 0) (ln_end (o := fun τ => f_X_chance_11 τ) (fun _ _ _ e h => s_X_chance_11 G  _ _ _ e h))))))))))) _ _ _ _ _ ((eq_X_chance x1 x2 σ).symm.trans e) hr
noncomputable def cF_X_chance : am_Fn := fun _ args σ K => match args with
  | [.ref q0, .int z1, .int z2] => match Nat.beq q0 0 with
    | true => (f_X_chance z1 z2 σ).bind (fun p => K (some (.int p.1)) p.2)
    | _ => none
  | _ => none
theorem cal_X_chance (G : am_G) : am_Cal G M_X_chance cF_X_chance := by
  intro ρ args σ K r e
  unfold cF_X_chance at e
  split at e
  · split at e
    · rename_i hq0
      obtain ⟨p, h1, h2⟩ := am_bind_some e
      rw [Nat.eq_of_beq_eq_true hq0]
      exact ⟨some (.int p.1), p.2, am_Met.of rfl (Nat.le_of_ble_eq_true rfl) (s_X_chance G _ _ σ p _ h1 ⟨rfl, rfl⟩), h2⟩
    · cases e
  · cases e
abbrev Pl_W_sumNextTo_58_31 (G : am_G) : ((Int32 × Int32 × Int32 × Int32 × am_St) ⊕ (Int32 × am_St)) → am_AQ → Prop := am_PL G M_W_sumNextTo 31 (fun s : Int32 × Int32 × Int32 × Int32 × am_St => [(6, .int s.2.2.2.1), (5, .int s.2.2.1), (4, .int s.2.1), (2, .int s.1), (1, .ref 58), (0, .ref 54)]) (fun s => s.2.2.2.2) am_Pi
noncomputable def g_W_sumNextTo_58_80 (x2 : Int32) (x4 : Int32) (x5 : Int32) (x6 : Int32) (σ : am_St) : Option ((Int32 × Int32 × Int32 × Int32 × am_St) ⊕ (Int32 × am_St)) :=
  let v1 := x6 + 1
  some (.inl (x2, x4, x5, v1, σ))
noncomputable def f_W_sumNextTo_58_80 (x2 : Int32) (x4 : Int32) (x5 : Int32) (x6 : Int32) (σ : am_St) : Option ((Int32 × Int32 × Int32 × Int32 × am_St) ⊕ (Int32 × am_St)) := am_lk (g_W_sumNextTo_58_80 x2 x4 x5 x6 σ)
theorem eq_W_sumNextTo_58_80 (x2 : Int32) (x4 : Int32) (x5 : Int32) (x6 : Int32) (σ : am_St) : f_W_sumNextTo_58_80 x2 x4 x5 x6 σ = g_W_sumNextTo_58_80 x2 x4 x5 x6 σ := am_lk_eq _
set_option maxRecDepth 100000 in
set_option maxHeartbeats 4000000 in
theorem s_W_sumNextTo_58_80 (G : am_G) (x2 : Int32) (x4 : Int32) (x5 : Int32) (x6 : Int32) (σ : am_St) (r : (Int32 × Int32 × Int32 × Int32 × am_St) ⊕ (Int32 × am_St)) (Q : am_AQ) (e : f_W_sumNextTo_58_80 x2 x4 x5 x6 σ = some r) (hr : (Pl_W_sumNextTo_58_31 G) r Q) : am_AW G M_W_sumNextTo 80 [(6, .int x6), (5, .int x5), (4, .int x4), (2, .int x2), (1, .ref 58), (0, .ref 54)] [] σ Q :=
  (show am_Snd G M_W_sumNextTo 80 (Pl_W_sumNextTo_58_31 G) _ from (sn_iinc (pc := 80) (v := 1) dX10_sumNextTo_80 rfl (Nat.le_of_ble_eq_true rfl) (sn_goto (pc := 83) (tgt := 31) dX10_sumNextTo_83 rfl (sn_lf (pc := 31) (ln_a (i := 0) (q := 54) (ln_a (i := 1) (q := 58) (ln_i (i := 2) (fun z0 => (ln_i (i := 4) (fun z1 => (ln_i (i := 5) (fun z2 => (ln_i (i := 6) (fun z3 => (ln_end (o := fun τ => (some (.inl (z0, z1, z2, z3, τ)) : Option ((Int32 × Int32 × Int32 × Int32 × am_St) ⊕ (Int32 × am_St)))) (fun _ _ _ e h => by cases e; exact h)))))))))))))))) _ _ _ _ _ ((eq_W_sumNextTo_58_80 x2 x4 x5 x6 σ).symm.trans e) hr
noncomputable def b_W_sumNextTo_58_31 (x2 : Int32) (x4 : Int32) (x5 : Int32) (x6 : Int32) (σ : am_St) : Option ((Int32 × Int32 × Int32 × Int32 × am_St) ⊕ (Int32 × am_St)) :=
  if (σ.1 54 5) ≤ x6 then
    some (.inr ((x4, σ)))
  else
    let v1 := (x2 * 4) + x6
    if v1 < 0 then
      f_W_sumNextTo_58_80 x2 x4 x5 x6 σ
    else
      if 24 ≤ v1 then
        f_W_sumNextTo_58_80 x2 x4 x5 x6 σ
      else
        if ((x5 >>> (x6 &&& 31)) &&& 1) = 1 then
          if am_ix v1 24 = true then
            let v2 := x4 + (σ.1 58 v1.toNatClampNeg)
            f_W_sumNextTo_58_80 x2 v2 x5 x6 σ
          else none
        else
          f_W_sumNextTo_58_80 x2 x4 x5 x6 σ
noncomputable def f_W_sumNextTo_58_31 (x2 : Int32) (x4 : Int32) (x5 : Int32) (x6 : Int32) (σ : am_St) : Option (Int32 × am_St) := am_lp (fun s : Int32 × Int32 × Int32 × Int32 × am_St => b_W_sumNextTo_58_31 s.1 s.2.1 s.2.2.1 s.2.2.2.1 s.2.2.2.2) (x2, x4, x5, x6, σ)
set_option maxRecDepth 100000 in
set_option maxHeartbeats 4000000 in
theorem sb_W_sumNextTo_58_31 (G : am_G) (x2 : Int32) (x4 : Int32) (x5 : Int32) (x6 : Int32) (σ : am_St) (r : (Int32 × Int32 × Int32 × Int32 × am_St) ⊕ (Int32 × am_St)) (Q : am_AQ) (e : b_W_sumNextTo_58_31 x2 x4 x5 x6 σ = some r) (hr : Pl_W_sumNextTo_58_31 G r Q) : am_AW G M_W_sumNextTo 31 [(6, .int x6), (5, .int x5), (4, .int x4), (2, .int x2), (1, .ref 58), (0, .ref 54)] [] σ Q :=
  (show am_Snd G M_W_sumNextTo 31 (Pl_W_sumNextTo_58_31 G) _ from (sn_iload (pc := 31) dX10_sumNextTo_31 (sn_aload_n (pc := 33) (i := 0) dX10_sumNextTo_33 rfl (sn_gI (pc := 34) (h := 54) (f := 5) dX10_sumNextTo_34 am_CL_9 sh_54 rfl (Nat.le_of_ble_eq_true rfl) tw_181 (sn_icmp_ge (pc := 37) (tgt := 86) dX10_sumNextTo_37 rfl (sn_iload (pc := 86) dX10_sumNextTo_86 (sn_reti (pc := 88) (R := fun x τ => (some (.inr ((x, τ))) : Option ((Int32 × Int32 × Int32 × Int32 × am_St) ⊕ (Int32 × am_St)))) dX10_sumNextTo_88 rfl (fun _ _ _ _ e h => by cases e; exact h))) (sn_iload_n (pc := 40) (i := 2) dX10_sumNextTo_40 rfl (sn_iconst (pc := 41) (v := 4) dX10_sumNextTo_41 rfl (sn_imul (pc := 42) dX10_sumNextTo_42 (sn_iload (pc := 43) dX10_sumNextTo_43 (sn_iadd (pc := 45) dX10_sumNextTo_45 (sn_istore (pc := 46) dX10_sumNextTo_46 (Nat.le_of_ble_eq_true rfl) (sn_iload (pc := 48) dX10_sumNextTo_48 (sn_if_lt (pc := 50) (tgt := 80) dX10_sumNextTo_50 rfl (sn_lf (pc := 80) (ln_a (i := 0) (q := 54) (ln_a (i := 1) (q := 58) (ln_i (i := 2) (fun z0 => (ln_i (i := 4) (fun z1 => (ln_i (i := 5) (fun z2 => (ln_i (i := 6) (fun z3 => (ln_end (o := fun τ => f_W_sumNextTo_58_80 z0 z1 z2 z3 τ) (fun _ _ _ e h => s_W_sumNextTo_58_80 G z0 z1 z2 z3 _ _ _ e h))))))))))))) (sn_iload (pc := 53) dX10_sumNextTo_53 (sn_aload_n (pc := 55) (i := 1) dX10_sumNextTo_55 rfl (sn_len (pc := 56) (h := 58) (v := 24) dX10_sumNextTo_56 sh_58 rfl (sn_icmp_ge (pc := 57) (tgt := 80) dX10_sumNextTo_57 rfl (sn_lf (pc := 80) (ln_a (i := 0) (q := 54) (ln_a (i := 1) (q := 58) (ln_i (i := 2) (fun z0 => (ln_i (i := 4) (fun z1 => (ln_i (i := 5) (fun z2 => (ln_i (i := 6) (fun z3 => (ln_end (o := fun τ => f_W_sumNextTo_58_80 z0 z1 z2 z3 τ) (fun _ _ _ e h => s_W_sumNextTo_58_80 G z0 z1 z2 z3 _ _ _ e h))))))))))))) (sn_iload (pc := 60) dX10_sumNextTo_60 (sn_iload (pc := 62) dX10_sumNextTo_62 (sn_ishr (pc := 64) dX10_sumNextTo_64 (sn_iconst (pc := 65) (v := 1) dX10_sumNextTo_65 rfl (sn_iand (pc := 66) dX10_sumNextTo_66 (sn_iconst (pc := 67) (v := 1) dX10_sumNextTo_67 rfl (sn_icmp_ne (pc := 68) (tgt := 80) dX10_sumNextTo_68 rfl (sn_lf (pc := 80) (ln_a (i := 0) (q := 54) (ln_a (i := 1) (q := 58) (ln_i (i := 2) (fun z0 => (ln_i (i := 4) (fun z1 => (ln_i (i := 5) (fun z2 => (ln_i (i := 6) (fun z3 => (ln_end (o := fun τ => f_W_sumNextTo_58_80 z0 z1 z2 z3 τ) (fun _ _ _ e h => s_W_sumNextTo_58_80 G z0 z1 z2 z3 _ _ _ e h))))))))))))) (sn_iload (pc := 71) dX10_sumNextTo_71 (sn_aload_n (pc := 73) (i := 1) dX10_sumNextTo_73 rfl (sn_iload (pc := 74) dX10_sumNextTo_74 (sn_aI (pc := 76) (h := 58) dX10_sumNextTo_76 sh_58 (sn_iadd (pc := 77) dX10_sumNextTo_77 (sn_istore (pc := 78) dX10_sumNextTo_78 (Nat.le_of_ble_eq_true rfl) (sn_lf (pc := 80) (ln_a (i := 0) (q := 54) (ln_a (i := 1) (q := 58) (ln_i (i := 2) (fun z0 => (ln_i (i := 4) (fun z1 => (ln_i (i := 5) (fun z2 => (ln_i (i := 6) (fun z3 => (ln_end (o := fun τ => f_W_sumNextTo_58_80 z0 z1 z2 z3 τ) (fun _ _ _ e h => s_W_sumNextTo_58_80 G z0 z1 z2 z3 _ _ _ e h))))))))))))))))))))))))))))))))))))))))))) _ _ _ _ _ e hr
theorem s_W_sumNextTo_58_31 (G : am_G) (x2 : Int32) (x4 : Int32) (x5 : Int32) (x6 : Int32) (σ : am_St) (r : Int32 × am_St) (Q : am_AQ) (e : f_W_sumNextTo_58_31 x2 x4 x5 x6 σ = some r) (hr : am_Pi r Q) : am_AW G M_W_sumNextTo 31 [(6, .int x6), (5, .int x5), (4, .int x4), (2, .int x2), (1, .ref 58), (0, .ref 54)] [] σ Q :=
  am_loop (P := am_Pi) (L := fun s : Int32 × Int32 × Int32 × Int32 × am_St => [(6, .int s.2.2.2.1), (5, .int s.2.2.1), (4, .int s.2.1), (2, .int s.1), (1, .ref 58), (0, .ref 54)]) (g := fun s => s.2.2.2.2) (fun s o Q e hr => sb_W_sumNextTo_58_31 G s.1 s.2.1 s.2.2.1 s.2.2.2.1 s.2.2.2.2 o Q e hr) (x2, x4, x5, x6, σ) r Q e hr
noncomputable def g_W_sumNextTo_58_26 (x2 : Int32) (x4 : Int32) (y0 : Int32) (σ : am_St) : Option (Int32 × am_St) :=
  f_W_sumNextTo_58_31 x2 x4 y0 0 σ
noncomputable def f_W_sumNextTo_58_26 (x2 : Int32) (x4 : Int32) (y0 : Int32) (σ : am_St) : Option (Int32 × am_St) := am_lk (g_W_sumNextTo_58_26 x2 x4 y0 σ)
theorem eq_W_sumNextTo_58_26 (x2 : Int32) (x4 : Int32) (y0 : Int32) (σ : am_St) : f_W_sumNextTo_58_26 x2 x4 y0 σ = g_W_sumNextTo_58_26 x2 x4 y0 σ := am_lk_eq _
set_option maxRecDepth 100000 in
set_option maxHeartbeats 4000000 in
theorem s_W_sumNextTo_58_26 (G : am_G) (x2 : Int32) (x4 : Int32) (y0 : Int32) (σ : am_St) (r : Int32 × am_St) (Q : am_AQ) (e : f_W_sumNextTo_58_26 x2 x4 y0 σ = some r) (hr : am_Pi r Q) : am_AW G M_W_sumNextTo 26 [(4, .int x4), (2, .int x2), (1, .ref 58), (0, .ref 54)] [.int y0] σ Q :=
  (show am_Snd G M_W_sumNextTo 26 am_Pi _ from (sn_istore (pc := 26) dX10_sumNextTo_26 (Nat.le_of_ble_eq_true rfl) (sn_iconst (pc := 28) (v := 0) dX10_sumNextTo_28 rfl (sn_istore (pc := 29) dX10_sumNextTo_29 (Nat.le_of_ble_eq_true rfl) (sn_lf (pc := 31) (ln_a (i := 0) (q := 54) (ln_a (i := 1) (q := 58) (ln_i (i := 2) (fun z0 => (ln_i (i := 4) (fun z1 => (ln_i (i := 5) (fun z2 => (ln_i (i := 6) (fun z3 => (ln_end (o := fun τ => f_W_sumNextTo_58_31 z0 z1 z2 z3 τ) (fun _ _ _ e h => s_W_sumNextTo_58_31 G z0 z1 z2 z3 _ _ _ e h))))))))))))))))) _ _ _ _ _ ((eq_W_sumNextTo_58_26 x2 x4 y0 σ).symm.trans e) hr
noncomputable def g_W_sumNextTo_58_25 (x2 : Int32) (x4 : Int32) (σ : am_St) : Option (Int32 × am_St) :=
  f_W_sumNextTo_58_26 x2 x4 0 σ
noncomputable def f_W_sumNextTo_58_25 (x2 : Int32) (x4 : Int32) (σ : am_St) : Option (Int32 × am_St) := am_lk (g_W_sumNextTo_58_25 x2 x4 σ)
theorem eq_W_sumNextTo_58_25 (x2 : Int32) (x4 : Int32) (σ : am_St) : f_W_sumNextTo_58_25 x2 x4 σ = g_W_sumNextTo_58_25 x2 x4 σ := am_lk_eq _
set_option maxRecDepth 100000 in
set_option maxHeartbeats 4000000 in
theorem s_W_sumNextTo_58_25 (G : am_G) (x2 : Int32) (x4 : Int32) (σ : am_St) (r : Int32 × am_St) (Q : am_AQ) (e : f_W_sumNextTo_58_25 x2 x4 σ = some r) (hr : am_Pi r Q) : am_AW G M_W_sumNextTo 25 [(4, .int x4), (2, .int x2), (1, .ref 58), (0, .ref 54)] [] σ Q :=
  (show am_Snd G M_W_sumNextTo 25 am_Pi _ from (sn_iconst (pc := 25) (v := 0) dX10_sumNextTo_25 rfl (sn_lf (pc := 26) (ln_a (i := 0) (q := 54) (ln_a (i := 1) (q := 58) (ln_i (i := 2) (fun z0 => (ln_i (i := 4) (fun z1 => (ln_si (fun w0 => (ln_end (o := fun τ => f_W_sumNextTo_58_26 z0 z1 w0 τ) (fun _ _ _ e h => s_W_sumNextTo_58_26 G z0 z1 w0 _ _ _ e h))))))))))))) _ _ _ _ _ ((eq_W_sumNextTo_58_25 x2 x4 σ).symm.trans e) hr
noncomputable def g_W_sumNextTo_58 (x2 : Int32) (x3 : Int32) (σ : am_St) : Option (Int32 × am_St) :=
  if x3 < 0 then
    f_W_sumNextTo_58_25 x2 0 σ
  else
    if 4 ≤ x3 then
      f_W_sumNextTo_58_25 x2 0 σ
    else
      if am_ix x3 4 = true then
        f_W_sumNextTo_58_26 x2 0 (σ.1 56 x3.toNatClampNeg) σ
      else none
noncomputable def f_W_sumNextTo_58 (x2 : Int32) (x3 : Int32) (σ : am_St) : Option (Int32 × am_St) := am_lk (g_W_sumNextTo_58 x2 x3 σ)
theorem eq_W_sumNextTo_58 (x2 : Int32) (x3 : Int32) (σ : am_St) : f_W_sumNextTo_58 x2 x3 σ = g_W_sumNextTo_58 x2 x3 σ := am_lk_eq _
set_option maxRecDepth 100000 in
set_option maxHeartbeats 4000000 in
theorem s_W_sumNextTo_58 (G : am_G) (x2 : Int32) (x3 : Int32) (σ : am_St) (r : Int32 × am_St) (Q : am_AQ) (e : f_W_sumNextTo_58 x2 x3 σ = some r) (hr : am_Pi r Q) : am_AW G M_W_sumNextTo 0 [(0, .ref 54), (1, .ref 58), (2, .int x2), (3, .int x3)] [] σ Q :=
  (show am_Snd G M_W_sumNextTo 0 am_Pi _ from (sn_iconst (pc := 0) (v := 0) dX10_sumNextTo_0 rfl (sn_istore (pc := 1) dX10_sumNextTo_1 (Nat.le_of_ble_eq_true rfl) (sn_iload_n (pc := 3) (i := 3) dX10_sumNextTo_3 rfl (sn_if_lt (pc := 4) (tgt := 25) dX10_sumNextTo_4 rfl (sn_lf (pc := 25) (ln_a (i := 0) (q := 54) (ln_a (i := 1) (q := 58) (ln_i (i := 2) (fun z0 => (ln_i (i := 4) (fun z1 => (ln_end (o := fun τ => f_W_sumNextTo_58_25 z0 z1 τ) (fun _ _ _ e h => s_W_sumNextTo_58_25 G z0 z1 _ _ _ e h))))))))) (sn_iload_n (pc := 7) (i := 3) dX10_sumNextTo_7 rfl (sn_aload_n (pc := 8) (i := 0) dX10_sumNextTo_8 rfl (sn_gR (r0 := 56) (pc := 9) (h := 54) (f := 1) dX10_sumNextTo_9 am_CL_9 sh_54 rfl (Nat.le_of_ble_eq_true rfl) tw_177 (sn_len (pc := 12) (h := 56) (v := 4) dX10_sumNextTo_12 sh_56 rfl (sn_icmp_ge (pc := 13) (tgt := 25) dX10_sumNextTo_13 rfl (sn_lf (pc := 25) (ln_a (i := 0) (q := 54) (ln_a (i := 1) (q := 58) (ln_i (i := 2) (fun z0 => (ln_i (i := 4) (fun z1 => (ln_end (o := fun τ => f_W_sumNextTo_58_25 z0 z1 τ) (fun _ _ _ e h => s_W_sumNextTo_58_25 G z0 z1 _ _ _ e h))))))))) (sn_aload_n (pc := 16) (i := 0) dX10_sumNextTo_16 rfl (sn_gR (r0 := 56) (pc := 17) (h := 54) (f := 1) dX10_sumNextTo_17 am_CL_9 sh_54 rfl (Nat.le_of_ble_eq_true rfl) tw_177 (sn_iload_n (pc := 20) (i := 3) dX10_sumNextTo_20 rfl (sn_aI (pc := 21) (h := 56) dX10_sumNextTo_21 sh_56 (sn_goto (pc := 22) (tgt := 26) dX10_sumNextTo_22 rfl (sn_lf (pc := 26) (ln_a (i := 0) (q := 54) (ln_a (i := 1) (q := 58) (ln_i (i := 2) (fun z0 => (ln_i (i := 4) (fun z1 => (ln_si (fun w0 => (ln_end (o := fun τ => f_W_sumNextTo_58_26 z0 z1 w0 τ) (fun _ _ _ e h => s_W_sumNextTo_58_26 G z0 z1 w0 _ _ _ e h)))))))))))))))))))))))))) _ _ _ _ _ ((eq_W_sumNextTo_58 x2 x3 σ).symm.trans e) hr
noncomputable def cF_W_sumNextTo_58 : am_Fn := fun _ args σ K => match args with
  | [.ref q0, .ref q1, .int z2, .int z3] => match Nat.beq q0 54, Nat.beq q1 58 with
    | true, true => (f_W_sumNextTo_58 z2 z3 σ).bind (fun p => K (some (.int p.1)) p.2)
    | _, _ => none
  | _ => none
theorem cal_W_sumNextTo_58 (G : am_G) : am_Cal G M_W_sumNextTo cF_W_sumNextTo_58 := by
  intro ρ args σ K r e
  unfold cF_W_sumNextTo_58 at e
  split at e
  · split at e
    · rename_i hq0 hq1
      obtain ⟨p, h1, h2⟩ := am_bind_some e
      rw [Nat.eq_of_beq_eq_true hq0]
      rw [Nat.eq_of_beq_eq_true hq1]
      exact ⟨some (.int p.1), p.2, am_Met.of rfl (Nat.le_of_ble_eq_true rfl) (s_W_sumNextTo_58 G _ _ σ p _ h1 ⟨rfl, rfl⟩), h2⟩
    · cases e
  · cases e
abbrev Pl_W_sum_58_3 (G : am_G) : ((Int32 × Int32 × Int32 × am_St) ⊕ (am_St)) → am_AQ → Prop := am_PL G M_W_sum 3 (fun s : Int32 × Int32 × Int32 × am_St => [(4, .int s.2.2.1), (3, .int s.2.1), (2, .int s.1), (1, .ref 58), (0, .ref 54)]) (fun s => s.2.2.2) am_Pv
abbrev Pl_W_sum_58_23 (G : am_G) : ((Int32 × Int32 × Int32 × Int32 × Int32 × am_St) ⊕ ((Int32 × Int32 × Int32 × am_St) ⊕ (am_St))) → am_AQ → Prop := am_PL G M_W_sum 23 (fun s : Int32 × Int32 × Int32 × Int32 × Int32 × am_St => [(6, .int s.2.2.2.2.1), (5, .int s.2.2.2.1), (4, .int s.2.2.1), (3, .int s.2.1), (2, .int s.1), (1, .ref 58), (0, .ref 54)]) (fun s => s.2.2.2.2.2) (Pl_W_sum_58_3 G)
noncomputable def g_W_sum_58_106 (x2 : Int32) (x3 : Int32) (x4 : Int32) (x5 : Int32) (x6 : Int32) (σ : am_St) : Option ((Int32 × Int32 × Int32 × Int32 × Int32 × am_St) ⊕ ((Int32 × Int32 × Int32 × am_St) ⊕ (am_St))) :=
  let v1 := x6 + 1
  some (.inl (x2, x3, x4, x5, v1, σ))
noncomputable def f_W_sum_58_106 (x2 : Int32) (x3 : Int32) (x4 : Int32) (x5 : Int32) (x6 : Int32) (σ : am_St) : Option ((Int32 × Int32 × Int32 × Int32 × Int32 × am_St) ⊕ ((Int32 × Int32 × Int32 × am_St) ⊕ (am_St))) := am_lk (g_W_sum_58_106 x2 x3 x4 x5 x6 σ)
theorem eq_W_sum_58_106 (x2 : Int32) (x3 : Int32) (x4 : Int32) (x5 : Int32) (x6 : Int32) (σ : am_St) : f_W_sum_58_106 x2 x3 x4 x5 x6 σ = g_W_sum_58_106 x2 x3 x4 x5 x6 σ := am_lk_eq _
set_option maxRecDepth 100000 in
set_option maxHeartbeats 4000000 in
theorem s_W_sum_58_106 (G : am_G) (x2 : Int32) (x3 : Int32) (x4 : Int32) (x5 : Int32) (x6 : Int32) (σ : am_St) (r : (Int32 × Int32 × Int32 × Int32 × Int32 × am_St) ⊕ ((Int32 × Int32 × Int32 × am_St) ⊕ (am_St))) (Q : am_AQ) (e : f_W_sum_58_106 x2 x3 x4 x5 x6 σ = some r) (hr : (Pl_W_sum_58_23 G) r Q) : am_AW G M_W_sum 106 [(6, .int x6), (5, .int x5), (4, .int x4), (3, .int x3), (2, .int x2), (1, .ref 58), (0, .ref 54)] [] σ Q :=
  (show am_Snd G M_W_sum 106 (Pl_W_sum_58_23 G) _ from (sn_iinc (pc := 106) (v := 1) dX10_sum_106 rfl (Nat.le_of_ble_eq_true rfl) (sn_goto (pc := 109) (tgt := 23) dX10_sum_109 rfl (sn_lf (pc := 23) (ln_a (i := 0) (q := 54) (ln_a (i := 1) (q := 58) (ln_i (i := 2) (fun z0 => (ln_i (i := 3) (fun z1 => (ln_i (i := 4) (fun z2 => (ln_i (i := 5) (fun z3 => (ln_i (i := 6) (fun z4 => (ln_end (o := fun τ => (some (.inl (z0, z1, z2, z3, z4, τ)) : Option ((Int32 × Int32 × Int32 × Int32 × Int32 × am_St) ⊕ ((Int32 × Int32 × Int32 × am_St) ⊕ (am_St))))) (fun _ _ _ e h => by cases e; exact h)))))))))))))))))) _ _ _ _ _ ((eq_W_sum_58_106 x2 x3 x4 x5 x6 σ).symm.trans e) hr
noncomputable def g_W_sum_58_86 (x2 : Int32) (x3 : Int32) (x4 : Int32) (x5 : Int32) (x6 : Int32) (x7 : Int32) (y1 : Int32) (y2 : Int32) (σ : am_St) : Option ((Int32 × Int32 × Int32 × Int32 × Int32 × am_St) ⊕ ((Int32 × Int32 × Int32 × am_St) ⊕ (am_St))) :=
  if am_ix y1 24 = true then
    let s1 := am_sI σ 58 y1.toNatClampNeg y2
    if am_ix x7 24 = true then
      if am_ix x5 6 = true then
        if am_ix x7 24 = true then
          let s2 := am_sI s1 58 x7.toNatClampNeg ((s1.1 58 x7.toNatClampNeg) * (((s1.1 55 x5.toNatClampNeg) >>> (x6 &&& 31)) &&& 1))
          f_W_sum_58_106 x2 x3 x4 x5 x6 s2
        else none
      else none
    else none
  else none
noncomputable def f_W_sum_58_86 (x2 : Int32) (x3 : Int32) (x4 : Int32) (x5 : Int32) (x6 : Int32) (x7 : Int32) (y1 : Int32) (y2 : Int32) (σ : am_St) : Option ((Int32 × Int32 × Int32 × Int32 × Int32 × am_St) ⊕ ((Int32 × Int32 × Int32 × am_St) ⊕ (am_St))) := am_lk (g_W_sum_58_86 x2 x3 x4 x5 x6 x7 y1 y2 σ)
theorem eq_W_sum_58_86 (x2 : Int32) (x3 : Int32) (x4 : Int32) (x5 : Int32) (x6 : Int32) (x7 : Int32) (y1 : Int32) (y2 : Int32) (σ : am_St) : f_W_sum_58_86 x2 x3 x4 x5 x6 x7 y1 y2 σ = g_W_sum_58_86 x2 x3 x4 x5 x6 x7 y1 y2 σ := am_lk_eq _
set_option maxRecDepth 100000 in
set_option maxHeartbeats 4000000 in
theorem s_W_sum_58_86 (G : am_G) (x2 : Int32) (x3 : Int32) (x4 : Int32) (x5 : Int32) (x6 : Int32) (x7 : Int32) (y1 : Int32) (y2 : Int32) (σ : am_St) (r : (Int32 × Int32 × Int32 × Int32 × Int32 × am_St) ⊕ ((Int32 × Int32 × Int32 × am_St) ⊕ (am_St))) (Q : am_AQ) (e : f_W_sum_58_86 x2 x3 x4 x5 x6 x7 y1 y2 σ = some r) (hr : (Pl_W_sum_58_23 G) r Q) : am_AW G M_W_sum 86 [(7, .int x7), (6, .int x6), (5, .int x5), (4, .int x4), (3, .int x3), (2, .int x2), (1, .ref 58), (0, .ref 54)] [.int y2, .int y1, .ref 58] σ Q :=
  (show am_Snd G M_W_sum 86 (Pl_W_sum_58_23 G) _ from (sn_sI (pc := 86) (h := 58) dX10_sum_86 sh_58 (sn_aload_n (pc := 87) (i := 1) dX10_sum_87 rfl (sn_iload (pc := 88) dX10_sum_88 (sn_dup2 (pc := 90) dX10_sum_90 (sn_aI (pc := 91) (h := 58) dX10_sum_91 sh_58 (sn_aload_n (pc := 92) (i := 0) dX10_sum_92 rfl (sn_gR (r0 := 55) (pc := 93) (h := 54) (f := 0) dX10_sum_93 am_CL_9 sh_54 rfl (Nat.le_of_ble_eq_true rfl) tw_176 (sn_iload (pc := 96) dX10_sum_96 (sn_aI (pc := 98) (h := 55) dX10_sum_98 sh_55 (sn_iload (pc := 99) dX10_sum_99 (sn_ishr (pc := 101) dX10_sum_101 (sn_iconst (pc := 102) (v := 1) dX10_sum_102 rfl (sn_iand (pc := 103) dX10_sum_103 (sn_imul (pc := 104) dX10_sum_104 (sn_sI (pc := 105) (h := 58) dX10_sum_105 sh_58 (sn_lf (pc := 106) (ln_a (i := 0) (q := 54) (ln_a (i := 1) (q := 58) (ln_i (i := 2) (fun z0 => (ln_i (i := 3) (fun z1 => (ln_i (i := 4) (fun z2 => (ln_i (i := 5) (fun z3 => (ln_i (i := 6) (fun z4 => (ln_end (o := fun τ => f_W_sum_58_106 z0 z1 z2 z3 z4 τ) (fun _ _ _ e h => s_W_sum_58_106 G z0 z1 z2 z3 z4 _ _ _ e h))))))))))))))))))))))))))))))) _ _ _ _ _ ((eq_W_sum_58_86 x2 x3 x4 x5 x6 x7 y1 y2 σ).symm.trans e) hr
noncomputable def b_W_sum_58_23 (x2 : Int32) (x3 : Int32) (x4 : Int32) (x5 : Int32) (x6 : Int32) (σ : am_St) : Option ((Int32 × Int32 × Int32 × Int32 × Int32 × am_St) ⊕ ((Int32 × Int32 × Int32 × am_St) ⊕ (am_St))) :=
  if (σ.1 54 5) ≤ x6 then
    let v1 := x4 + 1
    some (.inr (.inl (x2, x3, v1, σ)))
  else
    let v2 := (x5 * 4) + x6
    if x5 < 0 then
      f_W_sum_58_106 x2 x3 x4 x5 x6 σ
    else
      if 6 ≤ x5 then
        f_W_sum_58_106 x2 x3 x4 x5 x6 σ
      else
        if 24 ≤ v2 then
          f_W_sum_58_106 x2 x3 x4 x5 x6 σ
        else
          if x4 = 0 then
            f_W_sum_58_86 x2 x3 x4 x5 x6 v2 v2 1 σ
          else
            (f_W_sumNextTo_58 (x5 - x3) x6 σ).bind (fun p3 =>
              f_W_sum_58_86 x2 x3 x4 x5 x6 v2 v2 p3.1 p3.2)
noncomputable def f_W_sum_58_23 (x2 : Int32) (x3 : Int32) (x4 : Int32) (x5 : Int32) (x6 : Int32) (σ : am_St) : Option ((Int32 × Int32 × Int32 × am_St) ⊕ (am_St)) := am_lp (fun s : Int32 × Int32 × Int32 × Int32 × Int32 × am_St => b_W_sum_58_23 s.1 s.2.1 s.2.2.1 s.2.2.2.1 s.2.2.2.2.1 s.2.2.2.2.2) (x2, x3, x4, x5, x6, σ)
set_option maxRecDepth 100000 in
set_option maxHeartbeats 4000000 in
theorem sb_W_sum_58_23 (G : am_G) (x2 : Int32) (x3 : Int32) (x4 : Int32) (x5 : Int32) (x6 : Int32) (σ : am_St) (r : (Int32 × Int32 × Int32 × Int32 × Int32 × am_St) ⊕ ((Int32 × Int32 × Int32 × am_St) ⊕ (am_St))) (Q : am_AQ) (e : b_W_sum_58_23 x2 x3 x4 x5 x6 σ = some r) (hr : Pl_W_sum_58_23 G r Q) : am_AW G M_W_sum 23 [(6, .int x6), (5, .int x5), (4, .int x4), (3, .int x3), (2, .int x2), (1, .ref 58), (0, .ref 54)] [] σ Q :=
  (show am_Snd G M_W_sum 23 (Pl_W_sum_58_23 G) _ from (sn_iload (pc := 23) dX10_sum_23 (sn_aload_n (pc := 25) (i := 0) dX10_sum_25 rfl (sn_gI (pc := 26) (h := 54) (f := 5) dX10_sum_26 am_CL_9 sh_54 rfl (Nat.le_of_ble_eq_true rfl) tw_181 (sn_icmp_ge (pc := 29) (tgt := 112) dX10_sum_29 rfl (sn_iinc (pc := 112) (v := 1) dX10_sum_112 rfl (Nat.le_of_ble_eq_true rfl) (sn_goto (pc := 115) (tgt := 3) dX10_sum_115 rfl (sn_lf (pc := 3) (ln_a (i := 0) (q := 54) (ln_a (i := 1) (q := 58) (ln_i (i := 2) (fun z0 => (ln_i (i := 3) (fun z1 => (ln_i (i := 4) (fun z2 => (ln_end (o := fun τ => (some (.inr (.inl (z0, z1, z2, τ))) : Option ((Int32 × Int32 × Int32 × Int32 × Int32 × am_St) ⊕ ((Int32 × Int32 × Int32 × am_St) ⊕ (am_St))))) (fun _ _ _ e h => by cases e; exact h))))))))))))) (sn_iload (pc := 32) dX10_sum_32 (sn_iconst (pc := 34) (v := 4) dX10_sum_34 rfl (sn_imul (pc := 35) dX10_sum_35 (sn_iload (pc := 36) dX10_sum_36 (sn_iadd (pc := 38) dX10_sum_38 (sn_istore (pc := 39) dX10_sum_39 (Nat.le_of_ble_eq_true rfl) (sn_iload (pc := 41) dX10_sum_41 (sn_if_lt (pc := 43) (tgt := 106) dX10_sum_43 rfl (sn_lf (pc := 106) (ln_a (i := 0) (q := 54) (ln_a (i := 1) (q := 58) (ln_i (i := 2) (fun z0 => (ln_i (i := 3) (fun z1 => (ln_i (i := 4) (fun z2 => (ln_i (i := 5) (fun z3 => (ln_i (i := 6) (fun z4 => (ln_end (o := fun τ => f_W_sum_58_106 z0 z1 z2 z3 z4 τ) (fun _ _ _ e h => s_W_sum_58_106 G z0 z1 z2 z3 z4 _ _ _ e h))))))))))))))) (sn_iload (pc := 46) dX10_sum_46 (sn_aload_n (pc := 48) (i := 0) dX10_sum_48 rfl (sn_gR (r0 := 55) (pc := 49) (h := 54) (f := 0) dX10_sum_49 am_CL_9 sh_54 rfl (Nat.le_of_ble_eq_true rfl) tw_176 (sn_len (pc := 52) (h := 55) (v := 6) dX10_sum_52 sh_55 rfl (sn_icmp_ge (pc := 53) (tgt := 106) dX10_sum_53 rfl (sn_lf (pc := 106) (ln_a (i := 0) (q := 54) (ln_a (i := 1) (q := 58) (ln_i (i := 2) (fun z0 => (ln_i (i := 3) (fun z1 => (ln_i (i := 4) (fun z2 => (ln_i (i := 5) (fun z3 => (ln_i (i := 6) (fun z4 => (ln_end (o := fun τ => f_W_sum_58_106 z0 z1 z2 z3 z4 τ) (fun _ _ _ e h => s_W_sum_58_106 G z0 z1 z2 z3 z4 _ _ _ e h))))))))))))))) (sn_iload (pc := 56) dX10_sum_56 (sn_aload_n (pc := 58) (i := 1) dX10_sum_58 rfl (sn_len (pc := 59) (h := 58) (v := 24) dX10_sum_59 sh_58 rfl (sn_icmp_ge (pc := 60) (tgt := 106) dX10_sum_60 rfl (sn_lf (pc := 106) (ln_a (i := 0) (q := 54) (ln_a (i := 1) (q := 58) (ln_i (i := 2) (fun z0 => (ln_i (i := 3) (fun z1 => (ln_i (i := 4) (fun z2 => (ln_i (i := 5) (fun z3 => (ln_i (i := 6) (fun z4 => (ln_end (o := fun τ => f_W_sum_58_106 z0 z1 z2 z3 z4 τ) (fun _ _ _ e h => s_W_sum_58_106 G z0 z1 z2 z3 z4 _ _ _ e h))))))))))))))) (sn_aload_n (pc := 63) (i := 1) dX10_sum_63 rfl (sn_iload (pc := 64) dX10_sum_64 (sn_iload (pc := 66) dX10_sum_66 (sn_if_ne (pc := 68) (tgt := 75) dX10_sum_68 rfl (sn_aload_n (pc := 75) (i := 0) dX10_sum_75 rfl (sn_aload_n (pc := 76) (i := 1) dX10_sum_76 rfl (sn_iload (pc := 77) dX10_sum_77 (sn_iload_n (pc := 79) (i := 3) dX10_sum_79 rfl (sn_isub (pc := 80) dX10_sum_80 (sn_iload (pc := 81) dX10_sum_81 (sn_callV (pc := 83) (N := M_W_sumNextTo) dX10_sum_83 (cal_W_sumNextTo_58 G) sh_54 rfl tw_368 tw_370 tp_11 tw_10 tw_371 dsc_X10_sumNextTo rfl (sn_lf (pc := 86) (ln_a (i := 0) (q := 54) (ln_a (i := 1) (q := 58) (ln_i (i := 2) (fun z0 => (ln_i (i := 3) (fun z1 => (ln_i (i := 4) (fun z2 => (ln_i (i := 5) (fun z3 => (ln_i (i := 6) (fun z4 => (ln_i (i := 7) (fun z5 => (ln_si (fun w2 => (ln_si (fun w1 => (ln_sa (q := 58) (ln_end (o := fun τ => f_W_sum_58_86 z0 z1 z2 z3 z4 z5 w1 w2 τ) (fun _ _ _ e h => s_W_sum_58_86 G z0 z1 z2 z3 z4 z5 w1 w2 _ _ _ e h))))))))))))))))))))))))))))) (sn_iconst (pc := 71) (v := 1) dX10_sum_71 rfl (sn_goto (pc := 72) (tgt := 86) dX10_sum_72 rfl (sn_lf (pc := 86) (ln_a (i := 0) (q := 54) (ln_a (i := 1) (q := 58) (ln_i (i := 2) (fun z0 => (ln_i (i := 3) (fun z1 => (ln_i (i := 4) (fun z2 => (ln_i (i := 5) (fun z3 => (ln_i (i := 6) (fun z4 => (ln_i (i := 7) (fun z5 => (ln_si (fun w2 => (ln_si (fun w1 => (ln_sa (q := 58) (ln_end (o := fun τ => f_W_sum_58_86 z0 z1 z2 z3 z4 z5 w1 w2 τ) (fun _ _ _ e h => s_W_sum_58_86 G z0 z1 z2 z3 z4 z5 w1 w2 _ _ _ e h)))))))))))))))))))))))))))))))))))))))))))))))))) _ _ _ _ _ e hr
theorem s_W_sum_58_23 (G : am_G) (x2 : Int32) (x3 : Int32) (x4 : Int32) (x5 : Int32) (x6 : Int32) (σ : am_St) (r : (Int32 × Int32 × Int32 × am_St) ⊕ (am_St)) (Q : am_AQ) (e : f_W_sum_58_23 x2 x3 x4 x5 x6 σ = some r) (hr : (Pl_W_sum_58_3 G) r Q) : am_AW G M_W_sum 23 [(6, .int x6), (5, .int x5), (4, .int x4), (3, .int x3), (2, .int x2), (1, .ref 58), (0, .ref 54)] [] σ Q :=
  am_loop (P := (Pl_W_sum_58_3 G)) (L := fun s : Int32 × Int32 × Int32 × Int32 × Int32 × am_St => [(6, .int s.2.2.2.2.1), (5, .int s.2.2.2.1), (4, .int s.2.2.1), (3, .int s.2.1), (2, .int s.1), (1, .ref 58), (0, .ref 54)]) (g := fun s => s.2.2.2.2.2) (fun s o Q e hr => sb_W_sum_58_23 G s.1 s.2.1 s.2.2.1 s.2.2.2.1 s.2.2.2.2.1 s.2.2.2.2.2 o Q e hr) (x2, x3, x4, x5, x6, σ) r Q e hr
noncomputable def b_W_sum_58_3 (x2 : Int32) (x3 : Int32) (x4 : Int32) (σ : am_St) : Option ((Int32 × Int32 × Int32 × am_St) ⊕ (am_St)) :=
  if (σ.1 54 6) ≤ x4 then
    some (.inr (σ))
  else
    let v1 := x2 + (x4 * x3)
    f_W_sum_58_23 x2 x3 x4 v1 0 σ
noncomputable def f_W_sum_58_3 (x2 : Int32) (x3 : Int32) (x4 : Int32) (σ : am_St) : Option (am_St) := am_lp (fun s : Int32 × Int32 × Int32 × am_St => b_W_sum_58_3 s.1 s.2.1 s.2.2.1 s.2.2.2) (x2, x3, x4, σ)
set_option maxRecDepth 100000 in
set_option maxHeartbeats 4000000 in
theorem sb_W_sum_58_3 (G : am_G) (x2 : Int32) (x3 : Int32) (x4 : Int32) (σ : am_St) (r : (Int32 × Int32 × Int32 × am_St) ⊕ (am_St)) (Q : am_AQ) (e : b_W_sum_58_3 x2 x3 x4 σ = some r) (hr : Pl_W_sum_58_3 G r Q) : am_AW G M_W_sum 3 [(4, .int x4), (3, .int x3), (2, .int x2), (1, .ref 58), (0, .ref 54)] [] σ Q :=
  (show am_Snd G M_W_sum 3 (Pl_W_sum_58_3 G) _ from (sn_iload (pc := 3) dX10_sum_3 (sn_aload_n (pc := 5) (i := 0) dX10_sum_5 rfl (sn_gI (pc := 6) (h := 54) (f := 6) dX10_sum_6 am_CL_9 sh_54 rfl (Nat.le_of_ble_eq_true rfl) tw_182 (sn_icmp_ge (pc := 9) (tgt := 118) dX10_sum_9 rfl (sn_retv (pc := 118) (R := fun τ => (some (.inr (τ)) : Option ((Int32 × Int32 × Int32 × am_St) ⊕ (am_St)))) dX10_sum_118 rfl (fun _ _ _ e h => by cases e; exact h)) (sn_iload_n (pc := 12) (i := 2) dX10_sum_12 rfl (sn_iload (pc := 13) dX10_sum_13 (sn_iload_n (pc := 15) (i := 3) dX10_sum_15 rfl (sn_imul (pc := 16) dX10_sum_16 (sn_iadd (pc := 17) dX10_sum_17 (sn_istore (pc := 18) dX10_sum_18 (Nat.le_of_ble_eq_true rfl) (sn_iconst (pc := 20) (v := 0) dX10_sum_20 rfl (sn_istore (pc := 21) dX10_sum_21 (Nat.le_of_ble_eq_true rfl) (sn_lf (pc := 23) (ln_a (i := 0) (q := 54) (ln_a (i := 1) (q := 58) (ln_i (i := 2) (fun z0 => (ln_i (i := 3) (fun z1 => (ln_i (i := 4) (fun z2 => (ln_i (i := 5) (fun z3 => (ln_i (i := 6) (fun z4 => (ln_end (o := fun τ => f_W_sum_58_23 z0 z1 z2 z3 z4 τ) (fun _ _ _ e h => s_W_sum_58_23 G z0 z1 z2 z3 z4 _ _ _ e h)))))))))))))))))))))))))))) _ _ _ _ _ e hr
theorem s_W_sum_58_3 (G : am_G) (x2 : Int32) (x3 : Int32) (x4 : Int32) (σ : am_St) (r : am_St) (Q : am_AQ) (e : f_W_sum_58_3 x2 x3 x4 σ = some r) (hr : am_Pv r Q) : am_AW G M_W_sum 3 [(4, .int x4), (3, .int x3), (2, .int x2), (1, .ref 58), (0, .ref 54)] [] σ Q :=
  am_loop (P := am_Pv) (L := fun s : Int32 × Int32 × Int32 × am_St => [(4, .int s.2.2.1), (3, .int s.2.1), (2, .int s.1), (1, .ref 58), (0, .ref 54)]) (g := fun s => s.2.2.2) (fun s o Q e hr => sb_W_sum_58_3 G s.1 s.2.1 s.2.2.1 s.2.2.2 o Q e hr) (x2, x3, x4, σ) r Q e hr
noncomputable def g_W_sum_58 (x2 : Int32) (x3 : Int32) (σ : am_St) : Option (am_St) :=
  f_W_sum_58_3 x2 x3 0 σ
noncomputable def f_W_sum_58 (x2 : Int32) (x3 : Int32) (σ : am_St) : Option (am_St) := am_lk (g_W_sum_58 x2 x3 σ)
theorem eq_W_sum_58 (x2 : Int32) (x3 : Int32) (σ : am_St) : f_W_sum_58 x2 x3 σ = g_W_sum_58 x2 x3 σ := am_lk_eq _
set_option maxRecDepth 100000 in
set_option maxHeartbeats 4000000 in
theorem s_W_sum_58 (G : am_G) (x2 : Int32) (x3 : Int32) (σ : am_St) (r : am_St) (Q : am_AQ) (e : f_W_sum_58 x2 x3 σ = some r) (hr : am_Pv r Q) : am_AW G M_W_sum 0 [(0, .ref 54), (1, .ref 58), (2, .int x2), (3, .int x3)] [] σ Q :=
  (show am_Snd G M_W_sum 0 am_Pv _ from (sn_iconst (pc := 0) (v := 0) dX10_sum_0 rfl (sn_istore (pc := 1) dX10_sum_1 (Nat.le_of_ble_eq_true rfl) (sn_lf (pc := 3) (ln_a (i := 0) (q := 54) (ln_a (i := 1) (q := 58) (ln_i (i := 2) (fun z0 => (ln_i (i := 3) (fun z1 => (ln_i (i := 4) (fun z2 => (ln_end (o := fun τ => f_W_sum_58_3 z0 z1 z2 τ) (fun _ _ _ e h => s_W_sum_58_3 G z0 z1 z2 _ _ _ e h)))))))))))))) _ _ _ _ _ ((eq_W_sum_58 x2 x3 σ).symm.trans e) hr
noncomputable def cF_W_sum_58 : am_Fn := fun _ args σ K => match args with
  | [.ref q0, .ref q1, .int z2, .int z3] => match Nat.beq q0 54, Nat.beq q1 58 with
    | true, true => (f_W_sum_58 z2 z3 σ).bind (fun p => K none p)
    | _, _ => none
  | _ => none
theorem cal_W_sum_58 (G : am_G) : am_Cal G M_W_sum cF_W_sum_58 := by
  intro ρ args σ K r e
  unfold cF_W_sum_58 at e
  split at e
  · split at e
    · rename_i hq0 hq1
      obtain ⟨p, h1, h2⟩ := am_bind_some e
      rw [Nat.eq_of_beq_eq_true hq0]
      rw [Nat.eq_of_beq_eq_true hq1]
      exact ⟨none, p, am_Met.of rfl (Nat.le_of_ble_eq_true rfl) (s_W_sum_58 G _ _ σ p _ h1 ⟨rfl, rfl⟩), h2⟩
    · cases e
  · cases e
abbrev M_W_look : am_MD := (yX10_look, cX10_look, 3, none, 2, 54)
theorem dX10_look_0 : decode cX10_look 0 = .ok (.aload_n 0, 1) := by decide +kernel
theorem dX10_look_1 : decode cX10_look 1 = .ok (.aload_n 1, 1) := by decide +kernel
theorem dX10_look_2 : decode cX10_look 2 = .ok (.iload_n 2, 1) := by decide +kernel
theorem dX10_look_3 : decode cX10_look 3 = .ok (.invokevirtual 28, 3) := by decide +kernel
theorem dX10_look_6 : decode cX10_look 6 = .ok (.aload_n 0, 1) := by decide +kernel
theorem dX10_look_7 : decode cX10_look 7 = .ok (.aload_n 0, 1) := by decide +kernel
theorem dX10_look_8 : decode cX10_look 8 = .ok (.getfield 18, 3) := by decide +kernel
theorem dX10_look_11 : decode cX10_look 11 = .ok (.iconst 0, 1) := by decide +kernel
theorem dX10_look_12 : decode cX10_look 12 = .ok (.iconst 1, 1) := by decide +kernel
theorem dX10_look_13 : decode cX10_look 13 = .ok (.invokevirtual 32, 3) := by decide +kernel
theorem dX10_look_16 : decode cX10_look 16 = .ok (.aload_n 0, 1) := by decide +kernel
theorem dX10_look_17 : decode cX10_look 17 = .ok (.aload_n 0, 1) := by decide +kernel
theorem dX10_look_18 : decode cX10_look 18 = .ok (.getfield 21, 3) := by decide +kernel
theorem dX10_look_21 : decode cX10_look 21 = .ok (.aload_n 0, 1) := by decide +kernel
theorem dX10_look_22 : decode cX10_look 22 = .ok (.getfield 36, 3) := by decide +kernel
theorem dX10_look_25 : decode cX10_look 25 = .ok (.iconst 1, 1) := by decide +kernel
theorem dX10_look_26 : decode cX10_look 26 = .ok (.isub, 1) := by decide +kernel
theorem dX10_look_27 : decode cX10_look 27 = .ok (.iconst (-1), 1) := by decide +kernel
theorem dX10_look_28 : decode cX10_look 28 = .ok (.invokevirtual 32, 3) := by decide +kernel
theorem dX10_look_31 : decode cX10_look 31 = .ok (.return_, 1) := by decide +kernel
noncomputable def g_W_look_1 (x2 : Int32) (σ : am_St) : Option (am_St) :=
  (f_W_openByFacts_1 x2 σ).bind (fun p1 =>
    (f_W_sum_57 0 1 p1).bind (fun p2 =>
      (f_W_sum_58 ((p2.1 54 6) - 1) (-1) p2).bind (fun p3 =>
        some (p3))))
noncomputable def f_W_look_1 (x2 : Int32) (σ : am_St) : Option (am_St) := am_lk (g_W_look_1 x2 σ)
theorem eq_W_look_1 (x2 : Int32) (σ : am_St) : f_W_look_1 x2 σ = g_W_look_1 x2 σ := am_lk_eq _
set_option maxRecDepth 100000 in
set_option maxHeartbeats 4000000 in
theorem s_W_look_1 (G : am_G) (x2 : Int32) (σ : am_St) (r : am_St) (Q : am_AQ) (e : f_W_look_1 x2 σ = some r) (hr : am_Pv r Q) : am_AW G M_W_look 0 [(0, .ref 54), (1, .ref 1), (2, .int x2)] [] σ Q :=
  (show am_Snd G M_W_look 0 am_Pv _ from (sn_aload_n (pc := 0) (i := 0) dX10_look_0 rfl (sn_aload_n (pc := 1) (i := 1) dX10_look_1 rfl (sn_iload_n (pc := 2) (i := 2) dX10_look_2 rfl (sn_callV (pc := 3) (N := M_W_openByFacts) dX10_look_3 (cal_W_openByFacts_1 G) sh_54 rfl tw_336 tw_338 tp_8 tw_10 tw_339 dsc_X10_openByFacts rfl (sn_aload_n (pc := 6) (i := 0) dX10_look_6 rfl (sn_aload_n (pc := 7) (i := 0) dX10_look_7 rfl (sn_gR (r0 := 57) (pc := 8) (h := 54) (f := 2) dX10_look_8 am_CL_9 sh_54 rfl (Nat.le_of_ble_eq_true rfl) tw_178 (sn_iconst (pc := 11) (v := 0) dX10_look_11 rfl (sn_iconst (pc := 12) (v := 1) dX10_look_12 rfl (sn_callV (pc := 13) (N := M_W_sum) dX10_look_13 (cal_W_sum_57 G) sh_54 rfl tw_364 tw_366 tp_10 tw_10 tw_367 dsc_X10_sum rfl (sn_aload_n (pc := 16) (i := 0) dX10_look_16 rfl (sn_aload_n (pc := 17) (i := 0) dX10_look_17 rfl (sn_gR (r0 := 58) (pc := 18) (h := 54) (f := 3) dX10_look_18 am_CL_9 sh_54 rfl (Nat.le_of_ble_eq_true rfl) tw_179 (sn_aload_n (pc := 21) (i := 0) dX10_look_21 rfl (sn_gI (pc := 22) (h := 54) (f := 6) dX10_look_22 am_CL_9 sh_54 rfl (Nat.le_of_ble_eq_true rfl) tw_182 (sn_iconst (pc := 25) (v := 1) dX10_look_25 rfl (sn_isub (pc := 26) dX10_look_26 (sn_iconst (pc := 27) (v := (-1)) dX10_look_27 (show Int32.ofInt (-1) = (-1) by decide) (sn_callV (pc := 28) (N := M_W_sum) dX10_look_28 (cal_W_sum_58 G) sh_54 rfl tw_364 tw_366 tp_10 tw_10 tw_367 dsc_X10_sum rfl (sn_retv (pc := 31) (R := fun τ => (some (τ))) dX10_look_31 rfl (fun _ _ _ e h => by cases e; exact h)))))))))))))))))))))) _ _ _ _ _ ((eq_W_look_1 x2 σ).symm.trans e) hr
noncomputable def cF_W_look_1 : am_Fn := fun _ args σ K => match args with
  | [.ref q0, .ref q1, .int z2] => match Nat.beq q0 54, Nat.beq q1 1 with
    | true, true => (f_W_look_1 z2 σ).bind (fun p => K none p)
    | _, _ => none
  | _ => none
theorem cal_W_look_1 (G : am_G) : am_Cal G M_W_look cF_W_look_1 := by
  intro ρ args σ K r e
  unfold cF_W_look_1 at e
  split at e
  · split at e
    · rename_i hq0 hq1
      obtain ⟨p, h1, h2⟩ := am_bind_some e
      rw [Nat.eq_of_beq_eq_true hq0]
      rw [Nat.eq_of_beq_eq_true hq1]
      exact ⟨none, p, am_Met.of rfl (Nat.le_of_ble_eq_true rfl) (s_W_look_1 G _ σ p _ h1 ⟨rfl, rfl⟩), h2⟩
    · cases e
  · cases e
abbrev M_W_through : am_MD := (yX10_through, cX10_through, 4, (some .int), 0, 0)
theorem dX10_through_0 : decode cX10_through 0 = .ok (.iload_n 1, 1) := by decide +kernel
theorem dX10_through_1 : decode cX10_through 1 = .ok (.ifCond .lt 23, 3) := by decide +kernel
theorem dX10_through_4 : decode cX10_through 4 = .ok (.iload_n 1, 1) := by decide +kernel
theorem dX10_through_5 : decode cX10_through 5 = .ok (.aload_n 0, 1) := by decide +kernel
theorem dX10_through_6 : decode cX10_through 6 = .ok (.getfield 36, 3) := by decide +kernel
theorem dX10_through_9 : decode cX10_through 9 = .ok (.if_icmp .ge 15, 3) := by decide +kernel
theorem dX10_through_12 : decode cX10_through 12 = .ok (.iload_n 2, 1) := by decide +kernel
theorem dX10_through_13 : decode cX10_through 13 = .ok (.ifCond .lt 11, 3) := by decide +kernel
theorem dX10_through_16 : decode cX10_through 16 = .ok (.iload_n 2, 1) := by decide +kernel
theorem dX10_through_17 : decode cX10_through 17 = .ok (.aload_n 0, 1) := by decide +kernel
theorem dX10_through_18 : decode cX10_through 18 = .ok (.getfield 49, 3) := by decide +kernel
theorem dX10_through_21 : decode cX10_through 21 = .ok (.if_icmp .lt 5, 3) := by decide +kernel
theorem dX10_through_24 : decode cX10_through 24 = .ok (.iconst 0, 1) := by decide +kernel
theorem dX10_through_25 : decode cX10_through 25 = .ok (.ireturn, 1) := by decide +kernel
theorem dX10_through_26 : decode cX10_through 26 = .ok (.iload_n 1, 1) := by decide +kernel
theorem dX10_through_27 : decode cX10_through 27 = .ok (.iconst 4, 1) := by decide +kernel
theorem dX10_through_28 : decode cX10_through 28 = .ok (.imul, 1) := by decide +kernel
theorem dX10_through_29 : decode cX10_through 29 = .ok (.iload_n 2, 1) := by decide +kernel
theorem dX10_through_30 : decode cX10_through 30 = .ok (.iadd, 1) := by decide +kernel
theorem dX10_through_31 : decode cX10_through 31 = .ok (.istore_n 3, 1) := by decide +kernel
theorem dX10_through_32 : decode cX10_through 32 = .ok (.iload_n 3, 1) := by decide +kernel
theorem dX10_through_33 : decode cX10_through 33 = .ok (.aload_n 0, 1) := by decide +kernel
theorem dX10_through_34 : decode cX10_through 34 = .ok (.getfield 18, 3) := by decide +kernel
theorem dX10_through_37 : decode cX10_through 37 = .ok (.arraylength, 1) := by decide +kernel
theorem dX10_through_38 : decode cX10_through 38 = .ok (.if_icmp .ge 28, 3) := by decide +kernel
theorem dX10_through_41 : decode cX10_through 41 = .ok (.iload_n 3, 1) := by decide +kernel
theorem dX10_through_42 : decode cX10_through 42 = .ok (.aload_n 0, 1) := by decide +kernel
theorem dX10_through_43 : decode cX10_through 43 = .ok (.getfield 21, 3) := by decide +kernel
theorem dX10_through_46 : decode cX10_through 46 = .ok (.arraylength, 1) := by decide +kernel
theorem dX10_through_47 : decode cX10_through 47 = .ok (.if_icmp .ge 19, 3) := by decide +kernel
theorem dX10_through_50 : decode cX10_through 50 = .ok (.aload_n 0, 1) := by decide +kernel
theorem dX10_through_51 : decode cX10_through 51 = .ok (.getfield 18, 3) := by decide +kernel
theorem dX10_through_54 : decode cX10_through 54 = .ok (.iload_n 3, 1) := by decide +kernel
theorem dX10_through_55 : decode cX10_through 55 = .ok (.iaload, 1) := by decide +kernel
theorem dX10_through_56 : decode cX10_through 56 = .ok (.aload_n 0, 1) := by decide +kernel
theorem dX10_through_57 : decode cX10_through 57 = .ok (.getfield 21, 3) := by decide +kernel
theorem dX10_through_60 : decode cX10_through 60 = .ok (.iload_n 3, 1) := by decide +kernel
theorem dX10_through_61 : decode cX10_through 61 = .ok (.iaload, 1) := by decide +kernel
theorem dX10_through_62 : decode cX10_through 62 = .ok (.imul, 1) := by decide +kernel
theorem dX10_through_63 : decode cX10_through 63 = .ok (.goto 4, 3) := by decide +kernel
theorem dX10_through_66 : decode cX10_through 66 = .ok (.iconst 0, 1) := by decide +kernel
theorem dX10_through_67 : decode cX10_through 67 = .ok (.ireturn, 1) := by decide +kernel
noncomputable def g_W_through (x1 : Int32) (x2 : Int32) (σ : am_St) : Option (Int32 × am_St) :=
  if x1 < 0 then
    some ((0, σ))
  else
    if (σ.1 54 6) ≤ x1 then
      some ((0, σ))
    else
      if x2 < 0 then
        some ((0, σ))
      else
        if x2 < (σ.1 54 5) then
          let v1 := (x1 * 4) + x2
          if 24 ≤ v1 then
            some ((0, σ))
          else
            if 24 ≤ v1 then
              some ((0, σ))
            else
              if am_ix v1 24 = true then
                if am_ix v1 24 = true then
                  some (((σ.1 57 v1.toNatClampNeg) * (σ.1 58 v1.toNatClampNeg), σ))
                else none
              else none
        else
          some ((0, σ))
noncomputable def f_W_through (x1 : Int32) (x2 : Int32) (σ : am_St) : Option (Int32 × am_St) := am_lk (g_W_through x1 x2 σ)
theorem eq_W_through (x1 : Int32) (x2 : Int32) (σ : am_St) : f_W_through x1 x2 σ = g_W_through x1 x2 σ := am_lk_eq _
set_option maxRecDepth 100000 in
set_option maxHeartbeats 4000000 in
theorem s_W_through (G : am_G) (x1 : Int32) (x2 : Int32) (σ : am_St) (r : Int32 × am_St) (Q : am_AQ) (e : f_W_through x1 x2 σ = some r) (hr : am_Pi r Q) : am_AW G M_W_through 0 [(0, .ref 54), (1, .int x1), (2, .int x2)] [] σ Q :=
  (show am_Snd G M_W_through 0 am_Pi _ from (sn_iload_n (pc := 0) (i := 1) dX10_through_0 rfl (sn_if_lt (pc := 1) (tgt := 24) dX10_through_1 rfl (sn_iconst (pc := 24) (v := 0) dX10_through_24 rfl (sn_reti (pc := 25) (R := fun x τ => (some ((x, τ)))) dX10_through_25 rfl (fun _ _ _ _ e h => by cases e; exact h))) (sn_iload_n (pc := 4) (i := 1) dX10_through_4 rfl (sn_aload_n (pc := 5) (i := 0) dX10_through_5 rfl (sn_gI (pc := 6) (h := 54) (f := 6) dX10_through_6 am_CL_9 sh_54 rfl (Nat.le_of_ble_eq_true rfl) tw_182 (sn_icmp_ge (pc := 9) (tgt := 24) dX10_through_9 rfl (sn_iconst (pc := 24) (v := 0) dX10_through_24 rfl (sn_reti (pc := 25) (R := fun x τ => (some ((x, τ)))) dX10_through_25 rfl (fun _ _ _ _ e h => by cases e; exact h))) (sn_iload_n (pc := 12) (i := 2) dX10_through_12 rfl (sn_if_lt (pc := 13) (tgt := 24) dX10_through_13 rfl (sn_iconst (pc := 24) (v := 0) dX10_through_24 rfl (sn_reti (pc := 25) (R := fun x τ => (some ((x, τ)))) dX10_through_25 rfl (fun _ _ _ _ e h => by cases e; exact h))) (sn_iload_n (pc := 16) (i := 2) dX10_through_16 rfl (sn_aload_n (pc := 17) (i := 0) dX10_through_17 rfl (sn_gI (pc := 18) (h := 54) (f := 5) dX10_through_18 am_CL_9 sh_54 rfl (Nat.le_of_ble_eq_true rfl) tw_181 (sn_icmp_lt (pc := 21) (tgt := 26) dX10_through_21 rfl (sn_iload_n (pc := 26) (i := 1) dX10_through_26 rfl (sn_iconst (pc := 27) (v := 4) dX10_through_27 rfl (sn_imul (pc := 28) dX10_through_28 (sn_iload_n (pc := 29) (i := 2) dX10_through_29 rfl (sn_iadd (pc := 30) dX10_through_30 (sn_istore_n (pc := 31) (i := 3) dX10_through_31 rfl (Nat.le_of_ble_eq_true rfl) (sn_iload_n (pc := 32) (i := 3) dX10_through_32 rfl (sn_aload_n (pc := 33) (i := 0) dX10_through_33 rfl (sn_gR (r0 := 57) (pc := 34) (h := 54) (f := 2) dX10_through_34 am_CL_9 sh_54 rfl (Nat.le_of_ble_eq_true rfl) tw_178 (sn_len (pc := 37) (h := 57) (v := 24) dX10_through_37 sh_57 rfl (sn_icmp_ge (pc := 38) (tgt := 66) dX10_through_38 rfl (sn_iconst (pc := 66) (v := 0) dX10_through_66 rfl (sn_reti (pc := 67) (R := fun x τ => (some ((x, τ)))) dX10_through_67 rfl (fun _ _ _ _ e h => by cases e; exact h))) (sn_iload_n (pc := 41) (i := 3) dX10_through_41 rfl (sn_aload_n (pc := 42) (i := 0) dX10_through_42 rfl (sn_gR (r0 := 58) (pc := 43) (h := 54) (f := 3) dX10_through_43 am_CL_9 sh_54 rfl (Nat.le_of_ble_eq_true rfl) tw_179 (sn_len (pc := 46) (h := 58) (v := 24) dX10_through_46 sh_58 rfl (sn_icmp_ge (pc := 47) (tgt := 66) dX10_through_47 rfl (sn_iconst (pc := 66) (v := 0) dX10_through_66 rfl (sn_reti (pc := 67) (R := fun x τ => (some ((x, τ)))) dX10_through_67 rfl (fun _ _ _ _ e h => by cases e; exact h))) (sn_aload_n (pc := 50) (i := 0) dX10_through_50 rfl (sn_gR (r0 := 57) (pc := 51) (h := 54) (f := 2) dX10_through_51 am_CL_9 sh_54 rfl (Nat.le_of_ble_eq_true rfl) tw_178 (sn_iload_n (pc := 54) (i := 3) dX10_through_54 rfl (sn_aI (pc := 55) (h := 57) dX10_through_55 sh_57 (sn_aload_n (pc := 56) (i := 0) dX10_through_56 rfl (sn_gR (r0 := 58) (pc := 57) (h := 54) (f := 3) dX10_through_57 am_CL_9 sh_54 rfl (Nat.le_of_ble_eq_true rfl) tw_179 (sn_iload_n (pc := 60) (i := 3) dX10_through_60 rfl (sn_aI (pc := 61) (h := 58) dX10_through_61 sh_58 (sn_imul (pc := 62) dX10_through_62 (sn_goto (pc := 63) (tgt := 67) dX10_through_63 rfl (sn_reti (pc := 67) (R := fun x τ => (some ((x, τ)))) dX10_through_67 rfl (fun _ _ _ _ e h => by cases e; exact h)))))))))))))))))))))))))))) (sn_iconst (pc := 24) (v := 0) dX10_through_24 rfl (sn_reti (pc := 25) (R := fun x τ => (some ((x, τ)))) dX10_through_25 rfl (fun _ _ _ _ e h => by cases e; exact h)))))))))))))))) _ _ _ _ _ ((eq_W_through x1 x2 σ).symm.trans e) hr
noncomputable def cF_W_through : am_Fn := fun _ args σ K => match args with
  | [.ref q0, .int z1, .int z2] => match Nat.beq q0 54 with
    | true => (f_W_through z1 z2 σ).bind (fun p => K (some (.int p.1)) p.2)
    | _ => none
  | _ => none
theorem cal_W_through (G : am_G) : am_Cal G M_W_through cF_W_through := by
  intro ρ args σ K r e
  unfold cF_W_through at e
  split at e
  · split at e
    · rename_i hq0
      obtain ⟨p, h1, h2⟩ := am_bind_some e
      rw [Nat.eq_of_beq_eq_true hq0]
      exact ⟨some (.int p.1), p.2, am_Met.of rfl (Nat.le_of_ble_eq_true rfl) (s_W_through G _ _ σ p _ h1 ⟨rfl, rfl⟩), h2⟩
    · cases e
  · cases e
abbrev M_X_ways : am_MD := (yX11_ways, cX11_ways, 3, (some .int), 3, 76)
theorem dX11_ways_0 : decode cX11_ways 0 = .ok (.aload_n 0, 1) := by decide +kernel
theorem dX11_ways_1 : decode cX11_ways 1 = .ok (.getfield 10, 3) := by decide +kernel
theorem dX11_ways_4 : decode cX11_ways 4 = .ok (.iload_n 1, 1) := by decide +kernel
theorem dX11_ways_5 : decode cX11_ways 5 = .ok (.invokevirtual 81, 3) := by decide +kernel
theorem dX11_ways_8 : decode cX11_ways 8 = .ok (.ifCond .ne 9, 3) := by decide +kernel
theorem dX11_ways_11 : decode cX11_ways 11 = .ok (.aload_n 0, 1) := by decide +kernel
theorem dX11_ways_12 : decode cX11_ways 12 = .ok (.iconst (-1), 1) := by decide +kernel
theorem dX11_ways_13 : decode cX11_ways 13 = .ok (.invokevirtual 55, 3) := by decide +kernel
theorem dX11_ways_16 : decode cX11_ways 16 = .ok (.ireturn, 1) := by decide +kernel
theorem dX11_ways_17 : decode cX11_ways 17 = .ok (.iload_n 2, 1) := by decide +kernel
theorem dX11_ways_18 : decode cX11_ways 18 = .ok (.invokestatic 132, 3) := by decide +kernel
theorem dX11_ways_21 : decode cX11_ways 21 = .ok (.ifCond .ne 10, 3) := by decide +kernel
theorem dX11_ways_24 : decode cX11_ways 24 = .ok (.aload_n 0, 1) := by decide +kernel
theorem dX11_ways_25 : decode cX11_ways 25 = .ok (.bipush (-2), 2) := by decide +kernel
theorem dX11_ways_27 : decode cX11_ways 27 = .ok (.invokevirtual 55, 3) := by decide +kernel
theorem dX11_ways_30 : decode cX11_ways 30 = .ok (.ireturn, 1) := by decide +kernel
theorem dX11_ways_31 : decode cX11_ways 31 = .ok (.aload_n 0, 1) := by decide +kernel
theorem dX11_ways_32 : decode cX11_ways 32 = .ok (.getfield 33, 3) := by decide +kernel
theorem dX11_ways_35 : decode cX11_ways 35 = .ok (.aload_n 0, 1) := by decide +kernel
theorem dX11_ways_36 : decode cX11_ways 36 = .ok (.getfield 10, 3) := by decide +kernel
theorem dX11_ways_39 : decode cX11_ways 39 = .ok (.iload_n 1, 1) := by decide +kernel
theorem dX11_ways_40 : decode cX11_ways 40 = .ok (.invokevirtual 155, 3) := by decide +kernel
theorem dX11_ways_43 : decode cX11_ways 43 = .ok (.iload_n 2, 1) := by decide +kernel
theorem dX11_ways_44 : decode cX11_ways 44 = .ok (.ifCond .ne 13, 3) := by decide +kernel
theorem dX11_ways_47 : decode cX11_ways 47 = .ok (.aload_n 0, 1) := by decide +kernel
theorem dX11_ways_48 : decode cX11_ways 48 = .ok (.getfield 33, 3) := by decide +kernel
theorem dX11_ways_51 : decode cX11_ways 51 = .ok (.invokevirtual 159, 3) := by decide +kernel
theorem dX11_ways_54 : decode cX11_ways 54 = .ok (.goto 24, 3) := by decide +kernel
theorem dX11_ways_57 : decode cX11_ways 57 = .ok (.aload_n 0, 1) := by decide +kernel
theorem dX11_ways_58 : decode cX11_ways 58 = .ok (.getfield 33, 3) := by decide +kernel
theorem dX11_ways_61 : decode cX11_ways 61 = .ok (.aload_n 0, 1) := by decide +kernel
theorem dX11_ways_62 : decode cX11_ways 62 = .ok (.getfield 10, 3) := by decide +kernel
theorem dX11_ways_65 : decode cX11_ways 65 = .ok (.getfield 162, 3) := by decide +kernel
theorem dX11_ways_68 : decode cX11_ways 68 = .ok (.aload_n 0, 1) := by decide +kernel
theorem dX11_ways_69 : decode cX11_ways 69 = .ok (.getfield 10, 3) := by decide +kernel
theorem dX11_ways_72 : decode cX11_ways 72 = .ok (.getfield 165, 3) := by decide +kernel
theorem dX11_ways_75 : decode cX11_ways 75 = .ok (.invokevirtual 168, 3) := by decide +kernel
theorem dX11_ways_78 : decode cX11_ways 78 = .ok (.ireturn, 1) := by decide +kernel
noncomputable def g_X_ways_43 (x2 : Int32) (σ : am_St) : Option (Int32 × am_St) :=
  if x2 = 0 then
    (f_W_all σ).bind (fun p2 =>
      some ((p2.1, p2.2)))
  else
    (f_W_through (σ.1 1 4) (σ.1 1 3) σ).bind (fun p1 =>
      some ((p1.1, p1.2)))
noncomputable def f_X_ways_43 (x2 : Int32) (σ : am_St) : Option (Int32 × am_St) := am_lk (g_X_ways_43 x2 σ)
theorem eq_X_ways_43 (x2 : Int32) (σ : am_St) : f_X_ways_43 x2 σ = g_X_ways_43 x2 σ := am_lk_eq _
set_option maxRecDepth 100000 in
set_option maxHeartbeats 4000000 in
theorem s_X_ways_43 (G : am_G) (x2 : Int32) (σ : am_St) (r : Int32 × am_St) (Q : am_AQ) (e : f_X_ways_43 x2 σ = some r) (hr : am_Pi r Q) : am_AW G M_X_ways 43 [(2, .int x2), (0, .ref 0)] [] σ Q :=
  (show am_Snd G M_X_ways 43 am_Pi _ from (sn_iload_n (pc := 43) (i := 2) dX11_ways_43 rfl (sn_if_ne (pc := 44) (tgt := 57) dX11_ways_44 rfl (sn_aload_n (pc := 57) (i := 0) dX11_ways_57 rfl (sn_gR (r0 := 54) (pc := 58) (h := 0) (f := 4) dX11_ways_58 am_CL_10 sh_0 rfl (Nat.le_of_ble_eq_true rfl) tw_223 (sn_aload_n (pc := 61) (i := 0) dX11_ways_61 rfl (sn_gR (r0 := 1) (pc := 62) (h := 0) (f := 0) dX11_ways_62 am_CL_10 sh_0 rfl (Nat.le_of_ble_eq_true rfl) tw_219 (sn_gI (pc := 65) (h := 1) (f := 4) dX11_ways_65 am_CL_3 sh_1 rfl (Nat.le_of_ble_eq_true rfl) tw_99 (sn_aload_n (pc := 68) (i := 0) dX11_ways_68 rfl (sn_gR (r0 := 1) (pc := 69) (h := 0) (f := 0) dX11_ways_69 am_CL_10 sh_0 rfl (Nat.le_of_ble_eq_true rfl) tw_219 (sn_gI (pc := 72) (h := 1) (f := 3) dX11_ways_72 am_CL_3 sh_1 rfl (Nat.le_of_ble_eq_true rfl) tw_92 (sn_callV (pc := 75) (N := M_W_through) dX11_ways_75 (cal_W_through G) sh_54 rfl tw_583 tw_584 tw_585 tw_10 tw_586 dsc_X10_through rfl (sn_reti (pc := 78) (R := fun x τ => (some ((x, τ)))) dX11_ways_78 rfl (fun _ _ _ _ e h => by cases e; exact h))))))))))) (sn_aload_n (pc := 47) (i := 0) dX11_ways_47 rfl (sn_gR (r0 := 54) (pc := 48) (h := 0) (f := 4) dX11_ways_48 am_CL_10 sh_0 rfl (Nat.le_of_ble_eq_true rfl) tw_223 (sn_callV (pc := 51) (N := M_W_all) dX11_ways_51 (cal_W_all G) sh_54 rfl tw_582 tw_373 tw_374 tw_10 tw_375 dsc_X10_all rfl (sn_goto (pc := 54) (tgt := 78) dX11_ways_54 rfl (sn_reti (pc := 78) (R := fun x τ => (some ((x, τ)))) dX11_ways_78 rfl (fun _ _ _ _ e h => by cases e; exact h))))))))) _ _ _ _ _ ((eq_X_ways_43 x2 σ).symm.trans e) hr
noncomputable def g_X_ways (x1 : Int32) (x2 : Int32) (σ : am_St) : Option (Int32 × am_St) :=
  (f_H_hasChild_1 x1 σ).bind (fun p1 =>
    if p1.1 = 0 then
      (f_X_refuse (-1) p1.2).bind (fun p5 =>
        some ((p5.1, p5.2)))
    else
      (f_X_isZeroOrOne x2 p1.2).bind (fun p2 =>
        if p2.1 = 0 then
          (f_X_refuse (-2) p2.2).bind (fun p4 =>
            some ((p4.1, p4.2)))
        else
          (f_W_look_1 x1 p2.2).bind (fun p3 =>
            f_X_ways_43 x2 p3)))
noncomputable def f_X_ways (x1 : Int32) (x2 : Int32) (σ : am_St) : Option (Int32 × am_St) := am_lk (g_X_ways x1 x2 σ)
theorem eq_X_ways (x1 : Int32) (x2 : Int32) (σ : am_St) : f_X_ways x1 x2 σ = g_X_ways x1 x2 σ := am_lk_eq _
set_option maxRecDepth 100000 in
set_option maxHeartbeats 4000000 in
theorem s_X_ways (G : am_G) (x1 : Int32) (x2 : Int32) (σ : am_St) (r : Int32 × am_St) (Q : am_AQ) (e : f_X_ways x1 x2 σ = some r) (hr : am_Pi r Q) : am_AW G M_X_ways 0 [(0, .ref 0), (1, .int x1), (2, .int x2)] [] σ Q :=
  (show am_Snd G M_X_ways 0 am_Pi _ from (sn_aload_n (pc := 0) (i := 0) dX11_ways_0 rfl (sn_gR (r0 := 1) (pc := 1) (h := 0) (f := 0) dX11_ways_1 am_CL_10 sh_0 rfl (Nat.le_of_ble_eq_true rfl) tw_219 (sn_iload_n (pc := 4) (i := 1) dX11_ways_4 rfl (sn_callV (pc := 5) (N := M_H_hasChild) dX11_ways_5 (cal_H_hasChild_1 G) sh_1 rfl tw_434 tw_385 tw_386 tw_2 tw_387 dsc_X3_hasChild rfl (sn_if_ne (pc := 8) (tgt := 17) dX11_ways_8 rfl (sn_iload_n (pc := 17) (i := 2) dX11_ways_17 rfl (sn_callS (pc := 18) (N := M_X_isZeroOrOne) dX11_ways_18 (cal_X_isZeroOrOne G) tw_549 tw_550 tw_1 tw_551 dsc_X11_isZeroOrOne rfl (sn_if_ne (pc := 21) (tgt := 31) dX11_ways_21 rfl (sn_aload_n (pc := 31) (i := 0) dX11_ways_31 rfl (sn_gR (r0 := 54) (pc := 32) (h := 0) (f := 4) dX11_ways_32 am_CL_10 sh_0 rfl (Nat.le_of_ble_eq_true rfl) tw_223 (sn_aload_n (pc := 35) (i := 0) dX11_ways_35 rfl (sn_gR (r0 := 1) (pc := 36) (h := 0) (f := 0) dX11_ways_36 am_CL_10 sh_0 rfl (Nat.le_of_ble_eq_true rfl) tw_219 (sn_iload_n (pc := 39) (i := 1) dX11_ways_39 rfl (sn_callV (pc := 40) (N := M_W_look) dX11_ways_40 (cal_W_look_1 G) sh_54 rfl tw_578 tw_579 tw_580 tw_10 tw_581 dsc_X10_look rfl (sn_lf (pc := 43) (ln_a (i := 0) (q := 0) (ln_i (i := 2) (fun z0 => (ln_end (o := fun τ => f_X_ways_43 z0 τ) (fun _ _ _ e h => s_X_ways_43 G z0 _ _ _ e h)))))))))))) (sn_aload_n (pc := 24) (i := 0) dX11_ways_24 rfl (sn_bipush (pc := 25) (v := (-2)) dX11_ways_25 (show (Int8.ofInt (-2)).toInt32 = (-2) by decide) (sn_callV (pc := 27) (N := M_X_refuse) dX11_ways_27 (cal_X_refuse G) sh_0 rfl tw_251 tw_253 tp_0 tw_1 tw_254 dsc_X11_refuse rfl (sn_reti (pc := 30) (R := fun x τ => (some ((x, τ)))) dX11_ways_30 rfl (fun _ _ _ _ e h => by cases e; exact h)))))))) (sn_aload_n (pc := 11) (i := 0) dX11_ways_11 rfl (sn_iconst (pc := 12) (v := (-1)) dX11_ways_12 (show Int32.ofInt (-1) = (-1) by decide) (sn_callV (pc := 13) (N := M_X_refuse) dX11_ways_13 (cal_X_refuse G) sh_0 rfl tw_251 tw_253 tp_0 tw_1 tw_254 dsc_X11_refuse rfl (sn_reti (pc := 16) (R := fun x τ => (some ((x, τ)))) dX11_ways_16 rfl (fun _ _ _ _ e h => by cases e; exact h))))))))))) _ _ _ _ _ ((eq_X_ways x1 x2 σ).symm.trans e) hr
noncomputable def cF_X_ways : am_Fn := fun _ args σ K => match args with
  | [.ref q0, .int z1, .int z2] => match Nat.beq q0 0 with
    | true => (f_X_ways z1 z2 σ).bind (fun p => K (some (.int p.1)) p.2)
    | _ => none
  | _ => none
theorem cal_X_ways (G : am_G) : am_Cal G M_X_ways cF_X_ways := by
  intro ρ args σ K r e
  unfold cF_X_ways at e
  split at e
  · split at e
    · rename_i hq0
      obtain ⟨p, h1, h2⟩ := am_bind_some e
      rw [Nat.eq_of_beq_eq_true hq0]
      exact ⟨some (.int p.1), p.2, am_Met.of rfl (Nat.le_of_ble_eq_true rfl) (s_X_ways G _ _ σ p _ h1 ⟨rfl, rfl⟩), h2⟩
    · cases e
  · cases e
