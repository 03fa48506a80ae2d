abbrev M_nS_covers : am_MD := (yX9_covers, cX9_covers, 4, (some .boolean), 0, 0)
theorem dX9_covers_0 : decode cX9_covers 0 = .ok (.iconst 0, 1) := by decide +kernel
theorem dX9_covers_1 : decode cX9_covers 1 = .ok (.ireturn, 1) := by decide +kernel
noncomputable def g_nS_covers_13_1 (x2 : Int32) (x3 : Int32) (σ : am_St) : Option (Int32 × am_St) :=
  some ((0, σ))
noncomputable def f_nS_covers_13_1 (x2 : Int32) (x3 : Int32) (σ : am_St) : Option (Int32 × am_St) := am_lk (g_nS_covers_13_1 x2 x3 σ)
theorem eq_nS_covers_13_1 (x2 : Int32) (x3 : Int32) (σ : am_St) : f_nS_covers_13_1 x2 x3 σ = g_nS_covers_13_1 x2 x3 σ := am_lk_eq _
set_option maxRecDepth 100000 in
set_option maxHeartbeats 4000000 in
theorem s_nS_covers_13_1 (G : am_G) (x2 : Int32) (x3 : Int32) (σ : am_St) (r : Int32 × am_St) (Q : am_AQ) (e : f_nS_covers_13_1 x2 x3 σ = some r) (hr : am_Pi r Q) : am_AW G M_nS_covers 0 [(0, .ref 13), (1, .ref 1), (2, .int x2), (3, .int x3)] [] σ Q :=
  (show am_Snd G M_nS_covers 0 am_Pi _ from (sn_iconst (pc := 0) (v := 0) dX9_covers_0 rfl (sn_retz (pc := 1) (R := fun x τ => (some ((x, τ)))) dX9_covers_1 rfl (fun _ _ _ _ e h => by cases e; exact h)))) _ _ _ _ _ ((eq_nS_covers_13_1 x2 x3 σ).symm.trans e) hr
noncomputable def cF_nS_covers_13_1 : am_Fn := fun _ args σ K => match args with
  | [.ref q0, .ref q1, .int z2, .int z3] => match Nat.beq q0 13, Nat.beq q1 1 with
    | true, true => (f_nS_covers_13_1 z2 z3 σ).bind (fun p => K (some (.int p.1)) p.2)
    | _, _ => none
  | _ => none
theorem cal_nS_covers_13_1 (G : am_G) : am_Cal G M_nS_covers cF_nS_covers_13_1 := by
  intro ρ args σ K r e
  unfold cF_nS_covers_13_1 at e
  split at e
  · split at e
    · rename_i hq0 hq1
      obtain ⟨p, h1, h2⟩ := am_bind_some e
      rw [Nat.eq_of_beq_eq_true hq0]
      rw [Nat.eq_of_beq_eq_true hq1]
      exact ⟨some (.int p.1), p.2, am_Met.of rfl (Nat.le_of_ble_eq_true rfl) (s_nS_covers_13_1 G _ _ σ p _ h1 ⟨rfl, rfl⟩), h2⟩
    · cases e
  · cases e
noncomputable def g_nC_tells_13_1_30 (x5 : Int32) (σ : am_St) : Option (Int32 × am_St) :=
  (f_H_roomBehind_1 x5 σ).bind (fun p1 =>
    some ((p1.1, p1.2)))
noncomputable def f_nC_tells_13_1_30 (x5 : Int32) (σ : am_St) : Option (Int32 × am_St) := am_lk (g_nC_tells_13_1_30 x5 σ)
theorem eq_nC_tells_13_1_30 (x5 : Int32) (σ : am_St) : f_nC_tells_13_1_30 x5 σ = g_nC_tells_13_1_30 x5 σ := am_lk_eq _
set_option maxRecDepth 100000 in
set_option maxHeartbeats 4000000 in
theorem s_nC_tells_13_1_30 (G : am_G) (x5 : Int32) (σ : am_St) (r : Int32 × am_St) (Q : am_AQ) (e : f_nC_tells_13_1_30 x5 σ = some r) (hr : am_Pi r Q) : am_AW G M_nC_tells 30 [(5, .int x5), (1, .ref 1)] [] σ Q :=
  (show am_Snd G M_nC_tells 30 am_Pi _ from (sn_aload_n (pc := 30) (i := 1) dX2_tells_30 rfl (sn_iload (pc := 31) dX2_tells_31 (sn_callV (pc := 33) (N := M_H_roomBehind) dX2_tells_33 (cal_H_roomBehind_1 G) sh_1 rfl tw_768 tw_769 tw_770 tw_2 tw_771 dsc_X3_roomBehind rfl (sn_reti (pc := 36) (R := fun x τ => (some ((x, τ)))) dX2_tells_36 rfl (fun _ _ _ _ e h => by cases e; exact h)))))) _ _ _ _ _ ((eq_nC_tells_13_1_30 x5 σ).symm.trans e) hr
noncomputable def g_nC_tells_13_1 (x2 : Int32) (x3 : Int32) (x4 : Int32) (σ : am_St) : Option (Int32 × am_St) :=
  (f_H_placeOf_1 x3 x4 σ).bind (fun p1 =>
    (f_nS_covers_13_1 x2 x3 p1.2).bind (fun p2 =>
      if p2.1 = 0 then
        some ((p1.1, p2.2))
      else
        (f_H_isDeed_1 p1.1 x4 p2.2).bind (fun p3 =>
          if p3.1 = 0 then
            some ((p1.1, p3.2))
          else
            f_nC_tells_13_1_30 p1.1 p3.2)))
noncomputable def f_nC_tells_13_1 (x2 : Int32) (x3 : Int32) (x4 : Int32) (σ : am_St) : Option (Int32 × am_St) := am_lk (g_nC_tells_13_1 x2 x3 x4 σ)
theorem eq_nC_tells_13_1 (x2 : Int32) (x3 : Int32) (x4 : Int32) (σ : am_St) : f_nC_tells_13_1 x2 x3 x4 σ = g_nC_tells_13_1 x2 x3 x4 σ := am_lk_eq _
set_option maxRecDepth 100000 in
set_option maxHeartbeats 4000000 in
theorem s_nC_tells_13_1 (G : am_G) (x2 : Int32) (x3 : Int32) (x4 : Int32) (σ : am_St) (r : Int32 × am_St) (Q : am_AQ) (e : f_nC_tells_13_1 x2 x3 x4 σ = some r) (hr : am_Pi r Q) : am_AW G M_nC_tells 0 [(0, .ref 13), (1, .ref 1), (2, .int x2), (3, .int x3), (4, .int x4)] [] σ Q :=
  (show am_Snd G M_nC_tells 0 am_Pi _ from (sn_aload_n (pc := 0) (i := 1) dX2_tells_0 rfl (sn_iload_n (pc := 1) (i := 3) dX2_tells_1 rfl (sn_iload (pc := 2) dX2_tells_2 (sn_callV (pc := 4) (N := M_H_placeOf) dX2_tells_4 (cal_H_placeOf_1 G) sh_1 rfl tw_749 tw_522 tw_523 tw_2 tw_524 dsc_X3_placeOf rfl (sn_istore (pc := 7) dX2_tells_7 (Nat.le_of_ble_eq_true rfl) (sn_aload_n (pc := 9) (i := 0) dX2_tells_9 rfl (sn_aload_n (pc := 10) (i := 1) dX2_tells_10 rfl (sn_iload_n (pc := 11) (i := 2) dX2_tells_11 rfl (sn_iload_n (pc := 12) (i := 3) dX2_tells_12 rfl (sn_callO (pc := 13) (N := M_nS_covers) dX2_tells_13 (cal_nS_covers_13_1 G) sh_13 rfl tw_750 tw_753 tw_751 tw_763 tw_760 tw_762 tw_4 tw_761 dsc_X2_covers rfl (sn_if_eq (pc := 16) (tgt := 37) dX2_tells_16 rfl (sn_iload (pc := 37) dX2_tells_37 (sn_reti (pc := 39) (R := fun x τ => (some ((x, τ)))) dX2_tells_39 rfl (fun _ _ _ _ e h => by cases e; exact h))) (sn_aload_n (pc := 19) (i := 1) dX2_tells_19 rfl (sn_iload (pc := 20) dX2_tells_20 (sn_iload (pc := 22) dX2_tells_22 (sn_callV (pc := 24) (N := M_H_isDeed) dX2_tells_24 (cal_H_isDeed_1 G) sh_1 rfl tw_764 tw_765 tw_766 tw_2 tw_767 dsc_X3_isDeed rfl (sn_if_eq (pc := 27) (tgt := 37) dX2_tells_27 rfl (sn_iload (pc := 37) dX2_tells_37 (sn_reti (pc := 39) (R := fun x τ => (some ((x, τ)))) dX2_tells_39 rfl (fun _ _ _ _ e h => by cases e; exact h))) (sn_lf (pc := 30) (ln_a (i := 1) (q := 1) (ln_i (i := 5) (fun z0 => (ln_end (o := fun τ => f_nC_tells_13_1_30 z0 τ) (fun _ _ _ e h => s_nC_tells_13_1_30 G z0 _ _ _ e h))))))))))))))))))))))) _ _ _ _ _ ((eq_nC_tells_13_1 x2 x3 x4 σ).symm.trans e) hr
noncomputable def cF_nC_tells_13_1 : am_Fn := fun _ args σ K => match args with
  | [.ref q0, .ref q1, .int z2, .int z3, .int z4] => match Nat.beq q0 13, Nat.beq q1 1 with
    | true, true => (f_nC_tells_13_1 z2 z3 z4 σ).bind (fun p => K (some (.int p.1)) p.2)
    | _, _ => none
  | _ => none
theorem cal_nC_tells_13_1 (G : am_G) : am_Cal G M_nC_tells cF_nC_tells_13_1 := by
  intro ρ args σ K r e
  unfold cF_nC_tells_13_1 at e
  split at e
  · split at e
    · rename_i hq0 hq1
      obtain ⟨p, h1, h2⟩ := am_bind_some e
      rw [Nat.eq_of_beq_eq_true hq0]
      rw [Nat.eq_of_beq_eq_true hq1]
      exact ⟨some (.int p.1), p.2, am_Met.of rfl (Nat.le_of_ble_eq_true rfl) (s_nC_tells_13_1 G _ _ _ σ p _ h1 ⟨rfl, rfl⟩), h2⟩
    · cases e
  · cases e
abbrev M_nL_covers : am_MD := (yX5_covers, cX5_covers, 4, (some .boolean), 1, 21)
theorem dX5_covers_0 : decode cX5_covers 0 = .ok (.iload_n 3, 1) := by decide +kernel
theorem dX5_covers_1 : decode cX5_covers 1 = .ok (.iload_n 2, 1) := by decide +kernel
theorem dX5_covers_2 : decode cX5_covers 2 = .ok (.if_icmp .eq 12, 3) := by decide +kernel
theorem dX5_covers_5 : decode cX5_covers 5 = .ok (.iload_n 3, 1) := by decide +kernel
theorem dX5_covers_6 : decode cX5_covers 6 = .ok (.aload_n 1, 1) := by decide +kernel
theorem dX5_covers_7 : decode cX5_covers 7 = .ok (.iload_n 2, 1) := by decide +kernel
theorem dX5_covers_8 : decode cX5_covers 8 = .ok (.invokevirtual 15, 3) := by decide +kernel
theorem dX5_covers_11 : decode cX5_covers 11 = .ok (.if_icmp .ne 7, 3) := by decide +kernel
theorem dX5_covers_14 : decode cX5_covers 14 = .ok (.iconst 1, 1) := by decide +kernel
theorem dX5_covers_15 : decode cX5_covers 15 = .ok (.goto 4, 3) := by decide +kernel
theorem dX5_covers_18 : decode cX5_covers 18 = .ok (.iconst 0, 1) := by decide +kernel
theorem dX5_covers_19 : decode cX5_covers 19 = .ok (.ireturn, 1) := by decide +kernel
noncomputable def g_nL_covers_14_1 (x2 : Int32) (x3 : Int32) (σ : am_St) : Option (Int32 × am_St) :=
  if x3 = x2 then
    some ((1, σ))
  else
    (f_H_tieOf_1 x2 σ).bind (fun p1 =>
      if x3 = p1.1 then
        some ((1, p1.2))
      else
        some ((0, p1.2)))
noncomputable def f_nL_covers_14_1 (x2 : Int32) (x3 : Int32) (σ : am_St) : Option (Int32 × am_St) := am_lk (g_nL_covers_14_1 x2 x3 σ)
theorem eq_nL_covers_14_1 (x2 : Int32) (x3 : Int32) (σ : am_St) : f_nL_covers_14_1 x2 x3 σ = g_nL_covers_14_1 x2 x3 σ := am_lk_eq _
set_option maxRecDepth 100000 in
set_option maxHeartbeats 4000000 in
theorem s_nL_covers_14_1 (G : am_G) (x2 : Int32) (x3 : Int32) (σ : am_St) (r : Int32 × am_St) (Q : am_AQ) (e : f_nL_covers_14_1 x2 x3 σ = some r) (hr : am_Pi r Q) : am_AW G M_nL_covers 0 [(0, .ref 14), (1, .ref 1), (2, .int x2), (3, .int x3)] [] σ Q :=
  (show am_Snd G M_nL_covers 0 am_Pi _ from (sn_iload_n (pc := 0) (i := 3) dX5_covers_0 rfl (sn_iload_n (pc := 1) (i := 2) dX5_covers_1 rfl (sn_icmp_eq (pc := 2) (tgt := 14) dX5_covers_2 rfl (sn_iconst (pc := 14) (v := 1) dX5_covers_14 rfl (sn_goto (pc := 15) (tgt := 19) dX5_covers_15 rfl (sn_retz (pc := 19) (R := fun x τ => (some ((x, τ)))) dX5_covers_19 rfl (fun _ _ _ _ e h => by cases e; exact h)))) (sn_iload_n (pc := 5) (i := 3) dX5_covers_5 rfl (sn_aload_n (pc := 6) (i := 1) dX5_covers_6 rfl (sn_iload_n (pc := 7) (i := 2) dX5_covers_7 rfl (sn_callV (pc := 8) (N := M_H_tieOf) dX5_covers_8 (cal_H_tieOf_1 G) sh_1 rfl tw_737 tw_444 tw_445 tw_2 tw_446 dsc_X3_tieOf rfl (sn_icmp_ne (pc := 11) (tgt := 18) dX5_covers_11 rfl (sn_iconst (pc := 18) (v := 0) dX5_covers_18 rfl (sn_retz (pc := 19) (R := fun x τ => (some ((x, τ)))) dX5_covers_19 rfl (fun _ _ _ _ e h => by cases e; exact h))) (sn_iconst (pc := 14) (v := 1) dX5_covers_14 rfl (sn_goto (pc := 15) (tgt := 19) dX5_covers_15 rfl (sn_retz (pc := 19) (R := fun x τ => (some ((x, τ)))) dX5_covers_19 rfl (fun _ _ _ _ e h => by cases e; exact h))))))))))))) _ _ _ _ _ ((eq_nL_covers_14_1 x2 x3 σ).symm.trans e) hr
noncomputable def cF_nL_covers_14_1 : am_Fn := fun _ args σ K => match args with
  | [.ref q0, .ref q1, .int z2, .int z3] => match Nat.beq q0 14, Nat.beq q1 1 with
    | true, true => (f_nL_covers_14_1 z2 z3 σ).bind (fun p => K (some (.int p.1)) p.2)
    | _, _ => none
  | _ => none
theorem cal_nL_covers_14_1 (G : am_G) : am_Cal G M_nL_covers cF_nL_covers_14_1 := by
  intro ρ args σ K r e
  unfold cF_nL_covers_14_1 at e
  split at e
  · split at e
    · rename_i hq0 hq1
      obtain ⟨p, h1, h2⟩ := am_bind_some e
      rw [Nat.eq_of_beq_eq_true hq0]
      rw [Nat.eq_of_beq_eq_true hq1]
      exact ⟨some (.int p.1), p.2, am_Met.of rfl (Nat.le_of_ble_eq_true rfl) (s_nL_covers_14_1 G _ _ σ p _ h1 ⟨rfl, rfl⟩), h2⟩
    · cases e
  · cases e
noncomputable def g_nC_tells_14_1_30 (x5 : Int32) (σ : am_St) : Option (Int32 × am_St) :=
  (f_H_roomBehind_1 x5 σ).bind (fun p1 =>
    some ((p1.1, p1.2)))
noncomputable def f_nC_tells_14_1_30 (x5 : Int32) (σ : am_St) : Option (Int32 × am_St) := am_lk (g_nC_tells_14_1_30 x5 σ)
theorem eq_nC_tells_14_1_30 (x5 : Int32) (σ : am_St) : f_nC_tells_14_1_30 x5 σ = g_nC_tells_14_1_30 x5 σ := am_lk_eq _
set_option maxRecDepth 100000 in
set_option maxHeartbeats 4000000 in
theorem s_nC_tells_14_1_30 (G : am_G) (x5 : Int32) (σ : am_St) (r : Int32 × am_St) (Q : am_AQ) (e : f_nC_tells_14_1_30 x5 σ = some r) (hr : am_Pi r Q) : am_AW G M_nC_tells 30 [(5, .int x5), (1, .ref 1)] [] σ Q :=
  (show am_Snd G M_nC_tells 30 am_Pi _ from (sn_aload_n (pc := 30) (i := 1) dX2_tells_30 rfl (sn_iload (pc := 31) dX2_tells_31 (sn_callV (pc := 33) (N := M_H_roomBehind) dX2_tells_33 (cal_H_roomBehind_1 G) sh_1 rfl tw_768 tw_769 tw_770 tw_2 tw_771 dsc_X3_roomBehind rfl (sn_reti (pc := 36) (R := fun x τ => (some ((x, τ)))) dX2_tells_36 rfl (fun _ _ _ _ e h => by cases e; exact h)))))) _ _ _ _ _ ((eq_nC_tells_14_1_30 x5 σ).symm.trans e) hr
noncomputable def g_nC_tells_14_1 (x2 : Int32) (x3 : Int32) (x4 : Int32) (σ : am_St) : Option (Int32 × am_St) :=
  (f_H_placeOf_1 x3 x4 σ).bind (fun p1 =>
    (f_nL_covers_14_1 x2 x3 p1.2).bind (fun p2 =>
      if p2.1 = 0 then
        some ((p1.1, p2.2))
      else
        (f_H_isDeed_1 p1.1 x4 p2.2).bind (fun p3 =>
          if p3.1 = 0 then
            some ((p1.1, p3.2))
          else
            f_nC_tells_14_1_30 p1.1 p3.2)))
noncomputable def f_nC_tells_14_1 (x2 : Int32) (x3 : Int32) (x4 : Int32) (σ : am_St) : Option (Int32 × am_St) := am_lk (g_nC_tells_14_1 x2 x3 x4 σ)
theorem eq_nC_tells_14_1 (x2 : Int32) (x3 : Int32) (x4 : Int32) (σ : am_St) : f_nC_tells_14_1 x2 x3 x4 σ = g_nC_tells_14_1 x2 x3 x4 σ := am_lk_eq _
set_option maxRecDepth 100000 in
set_option maxHeartbeats 4000000 in
theorem s_nC_tells_14_1 (G : am_G) (x2 : Int32) (x3 : Int32) (x4 : Int32) (σ : am_St) (r : Int32 × am_St) (Q : am_AQ) (e : f_nC_tells_14_1 x2 x3 x4 σ = some r) (hr : am_Pi r Q) : am_AW G M_nC_tells 0 [(0, .ref 14), (1, .ref 1), (2, .int x2), (3, .int x3), (4, .int x4)] [] σ Q :=
  (show am_Snd G M_nC_tells 0 am_Pi _ from (sn_aload_n (pc := 0) (i := 1) dX2_tells_0 rfl (sn_iload_n (pc := 1) (i := 3) dX2_tells_1 rfl (sn_iload (pc := 2) dX2_tells_2 (sn_callV (pc := 4) (N := M_H_placeOf) dX2_tells_4 (cal_H_placeOf_1 G) sh_1 rfl tw_749 tw_522 tw_523 tw_2 tw_524 dsc_X3_placeOf rfl (sn_istore (pc := 7) dX2_tells_7 (Nat.le_of_ble_eq_true rfl) (sn_aload_n (pc := 9) (i := 0) dX2_tells_9 rfl (sn_aload_n (pc := 10) (i := 1) dX2_tells_10 rfl (sn_iload_n (pc := 11) (i := 2) dX2_tells_11 rfl (sn_iload_n (pc := 12) (i := 3) dX2_tells_12 rfl (sn_callO (pc := 13) (N := M_nL_covers) dX2_tells_13 (cal_nL_covers_14_1 G) sh_14 rfl tw_750 tw_753 tw_751 tw_763 tw_735 tw_758 tw_5 tw_736 dsc_X2_covers rfl (sn_if_eq (pc := 16) (tgt := 37) dX2_tells_16 rfl (sn_iload (pc := 37) dX2_tells_37 (sn_reti (pc := 39) (R := fun x τ => (some ((x, τ)))) dX2_tells_39 rfl (fun _ _ _ _ e h => by cases e; exact h))) (sn_aload_n (pc := 19) (i := 1) dX2_tells_19 rfl (sn_iload (pc := 20) dX2_tells_20 (sn_iload (pc := 22) dX2_tells_22 (sn_callV (pc := 24) (N := M_H_isDeed) dX2_tells_24 (cal_H_isDeed_1 G) sh_1 rfl tw_764 tw_765 tw_766 tw_2 tw_767 dsc_X3_isDeed rfl (sn_if_eq (pc := 27) (tgt := 37) dX2_tells_27 rfl (sn_iload (pc := 37) dX2_tells_37 (sn_reti (pc := 39) (R := fun x τ => (some ((x, τ)))) dX2_tells_39 rfl (fun _ _ _ _ e h => by cases e; exact h))) (sn_lf (pc := 30) (ln_a (i := 1) (q := 1) (ln_i (i := 5) (fun z0 => (ln_end (o := fun τ => f_nC_tells_14_1_30 z0 τ) (fun _ _ _ e h => s_nC_tells_14_1_30 G z0 _ _ _ e h))))))))))))))))))))))) _ _ _ _ _ ((eq_nC_tells_14_1 x2 x3 x4 σ).symm.trans e) hr
noncomputable def cF_nC_tells_14_1 : am_Fn := fun _ args σ K => match args with
  | [.ref q0, .ref q1, .int z2, .int z3, .int z4] => match Nat.beq q0 14, Nat.beq q1 1 with
    | true, true => (f_nC_tells_14_1 z2 z3 z4 σ).bind (fun p => K (some (.int p.1)) p.2)
    | _, _ => none
  | _ => none
theorem cal_nC_tells_14_1 (G : am_G) : am_Cal G M_nC_tells cF_nC_tells_14_1 := by
  intro ρ args σ K r e
  unfold cF_nC_tells_14_1 at e
  split at e
  · split at e
    · rename_i hq0 hq1
      obtain ⟨p, h1, h2⟩ := am_bind_some e
      rw [Nat.eq_of_beq_eq_true hq0]
      rw [Nat.eq_of_beq_eq_true hq1]
      exact ⟨some (.int p.1), p.2, am_Met.of rfl (Nat.le_of_ble_eq_true rfl) (s_nC_tells_14_1 G _ _ _ σ p _ h1 ⟨rfl, rfl⟩), h2⟩
    · cases e
  · cases e
noncomputable def g_nL_covers_15_1 (x2 : Int32) (x3 : Int32) (σ : am_St) : Option (Int32 × am_St) :=
  if x3 = x2 then
    some ((1, σ))
  else
    (f_H_tieOf_1 x2 σ).bind (fun p1 =>
      if x3 = p1.1 then
        some ((1, p1.2))
      else
        some ((0, p1.2)))
noncomputable def f_nL_covers_15_1 (x2 : Int32) (x3 : Int32) (σ : am_St) : Option (Int32 × am_St) := am_lk (g_nL_covers_15_1 x2 x3 σ)
theorem eq_nL_covers_15_1 (x2 : Int32) (x3 : Int32) (σ : am_St) : f_nL_covers_15_1 x2 x3 σ = g_nL_covers_15_1 x2 x3 σ := am_lk_eq _
set_option maxRecDepth 100000 in
set_option maxHeartbeats 4000000 in
theorem s_nL_covers_15_1 (G : am_G) (x2 : Int32) (x3 : Int32) (σ : am_St) (r : Int32 × am_St) (Q : am_AQ) (e : f_nL_covers_15_1 x2 x3 σ = some r) (hr : am_Pi r Q) : am_AW G M_nL_covers 0 [(0, .ref 15), (1, .ref 1), (2, .int x2), (3, .int x3)] [] σ Q :=
  (show am_Snd G M_nL_covers 0 am_Pi _ from (sn_iload_n (pc := 0) (i := 3) dX5_covers_0 rfl (sn_iload_n (pc := 1) (i := 2) dX5_covers_1 rfl (sn_icmp_eq (pc := 2) (tgt := 14) dX5_covers_2 rfl (sn_iconst (pc := 14) (v := 1) dX5_covers_14 rfl (sn_goto (pc := 15) (tgt := 19) dX5_covers_15 rfl (sn_retz (pc := 19) (R := fun x τ => (some ((x, τ)))) dX5_covers_19 rfl (fun _ _ _ _ e h => by cases e; exact h)))) (sn_iload_n (pc := 5) (i := 3) dX5_covers_5 rfl (sn_aload_n (pc := 6) (i := 1) dX5_covers_6 rfl (sn_iload_n (pc := 7) (i := 2) dX5_covers_7 rfl (sn_callV (pc := 8) (N := M_H_tieOf) dX5_covers_8 (cal_H_tieOf_1 G) sh_1 rfl tw_737 tw_444 tw_445 tw_2 tw_446 dsc_X3_tieOf rfl (sn_icmp_ne (pc := 11) (tgt := 18) dX5_covers_11 rfl (sn_iconst (pc := 18) (v := 0) dX5_covers_18 rfl (sn_retz (pc := 19) (R := fun x τ => (some ((x, τ)))) dX5_covers_19 rfl (fun _ _ _ _ e h => by cases e; exact h))) (sn_iconst (pc := 14) (v := 1) dX5_covers_14 rfl (sn_goto (pc := 15) (tgt := 19) dX5_covers_15 rfl (sn_retz (pc := 19) (R := fun x τ => (some ((x, τ)))) dX5_covers_19 rfl (fun _ _ _ _ e h => by cases e; exact h))))))))))))) _ _ _ _ _ ((eq_nL_covers_15_1 x2 x3 σ).symm.trans e) hr
noncomputable def cF_nL_covers_15_1 : am_Fn := fun _ args σ K => match args with
  | [.ref q0, .ref q1, .int z2, .int z3] => match Nat.beq q0 15, Nat.beq q1 1 with
    | true, true => (f_nL_covers_15_1 z2 z3 σ).bind (fun p => K (some (.int p.1)) p.2)
    | _, _ => none
  | _ => none
theorem cal_nL_covers_15_1 (G : am_G) : am_Cal G M_nL_covers cF_nL_covers_15_1 := by
  intro ρ args σ K r e
  unfold cF_nL_covers_15_1 at e
  split at e
  · split at e
    · rename_i hq0 hq1
      obtain ⟨p, h1, h2⟩ := am_bind_some e
      rw [Nat.eq_of_beq_eq_true hq0]
      rw [Nat.eq_of_beq_eq_true hq1]
      exact ⟨some (.int p.1), p.2, am_Met.of rfl (Nat.le_of_ble_eq_true rfl) (s_nL_covers_15_1 G _ _ σ p _ h1 ⟨rfl, rfl⟩), h2⟩
    · cases e
  · cases e
noncomputable def g_nC_tells_15_1_30 (x5 : Int32) (σ : am_St) : Option (Int32 × am_St) :=
  (f_H_roomBehind_1 x5 σ).bind (fun p1 =>
    some ((p1.1, p1.2)))
noncomputable def f_nC_tells_15_1_30 (x5 : Int32) (σ : am_St) : Option (Int32 × am_St) := am_lk (g_nC_tells_15_1_30 x5 σ)
theorem eq_nC_tells_15_1_30 (x5 : Int32) (σ : am_St) : f_nC_tells_15_1_30 x5 σ = g_nC_tells_15_1_30 x5 σ := am_lk_eq _
set_option maxRecDepth 100000 in
set_option maxHeartbeats 4000000 in
theorem s_nC_tells_15_1_30 (G : am_G) (x5 : Int32) (σ : am_St) (r : Int32 × am_St) (Q : am_AQ) (e : f_nC_tells_15_1_30 x5 σ = some r) (hr : am_Pi r Q) : am_AW G M_nC_tells 30 [(5, .int x5), (1, .ref 1)] [] σ Q :=
  (show am_Snd G M_nC_tells 30 am_Pi _ from (sn_aload_n (pc := 30) (i := 1) dX2_tells_30 rfl (sn_iload (pc := 31) dX2_tells_31 (sn_callV (pc := 33) (N := M_H_roomBehind) dX2_tells_33 (cal_H_roomBehind_1 G) sh_1 rfl tw_768 tw_769 tw_770 tw_2 tw_771 dsc_X3_roomBehind rfl (sn_reti (pc := 36) (R := fun x τ => (some ((x, τ)))) dX2_tells_36 rfl (fun _ _ _ _ e h => by cases e; exact h)))))) _ _ _ _ _ ((eq_nC_tells_15_1_30 x5 σ).symm.trans e) hr
noncomputable def g_nC_tells_15_1 (x2 : Int32) (x3 : Int32) (x4 : Int32) (σ : am_St) : Option (Int32 × am_St) :=
  (f_H_placeOf_1 x3 x4 σ).bind (fun p1 =>
    (f_nL_covers_15_1 x2 x3 p1.2).bind (fun p2 =>
      if p2.1 = 0 then
        some ((p1.1, p2.2))
      else
        (f_H_isDeed_1 p1.1 x4 p2.2).bind (fun p3 =>
          if p3.1 = 0 then
            some ((p1.1, p3.2))
          else
            f_nC_tells_15_1_30 p1.1 p3.2)))
noncomputable def f_nC_tells_15_1 (x2 : Int32) (x3 : Int32) (x4 : Int32) (σ : am_St) : Option (Int32 × am_St) := am_lk (g_nC_tells_15_1 x2 x3 x4 σ)
theorem eq_nC_tells_15_1 (x2 : Int32) (x3 : Int32) (x4 : Int32) (σ : am_St) : f_nC_tells_15_1 x2 x3 x4 σ = g_nC_tells_15_1 x2 x3 x4 σ := am_lk_eq _
set_option maxRecDepth 100000 in
set_option maxHeartbeats 4000000 in
theorem s_nC_tells_15_1 (G : am_G) (x2 : Int32) (x3 : Int32) (x4 : Int32) (σ : am_St) (r : Int32 × am_St) (Q : am_AQ) (e : f_nC_tells_15_1 x2 x3 x4 σ = some r) (hr : am_Pi r Q) : am_AW G M_nC_tells 0 [(0, .ref 15), (1, .ref 1), (2, .int x2), (3, .int x3), (4, .int x4)] [] σ Q :=
  (show am_Snd G M_nC_tells 0 am_Pi _ from (sn_aload_n (pc := 0) (i := 1) dX2_tells_0 rfl (sn_iload_n (pc := 1) (i := 3) dX2_tells_1 rfl (sn_iload (pc := 2) dX2_tells_2 (sn_callV (pc := 4) (N := M_H_placeOf) dX2_tells_4 (cal_H_placeOf_1 G) sh_1 rfl tw_749 tw_522 tw_523 tw_2 tw_524 dsc_X3_placeOf rfl (sn_istore (pc := 7) dX2_tells_7 (Nat.le_of_ble_eq_true rfl) (sn_aload_n (pc := 9) (i := 0) dX2_tells_9 rfl (sn_aload_n (pc := 10) (i := 1) dX2_tells_10 rfl (sn_iload_n (pc := 11) (i := 2) dX2_tells_11 rfl (sn_iload_n (pc := 12) (i := 3) dX2_tells_12 rfl (sn_callO (pc := 13) (N := M_nL_covers) dX2_tells_13 (cal_nL_covers_15_1 G) sh_15 rfl tw_750 tw_753 tw_751 tw_763 tw_735 tw_757 tw_5 tw_736 dsc_X2_covers rfl (sn_if_eq (pc := 16) (tgt := 37) dX2_tells_16 rfl (sn_iload (pc := 37) dX2_tells_37 (sn_reti (pc := 39) (R := fun x τ => (some ((x, τ)))) dX2_tells_39 rfl (fun _ _ _ _ e h => by cases e; exact h))) (sn_aload_n (pc := 19) (i := 1) dX2_tells_19 rfl (sn_iload (pc := 20) dX2_tells_20 (sn_iload (pc := 22) dX2_tells_22 (sn_callV (pc := 24) (N := M_H_isDeed) dX2_tells_24 (cal_H_isDeed_1 G) sh_1 rfl tw_764 tw_765 tw_766 tw_2 tw_767 dsc_X3_isDeed rfl (sn_if_eq (pc := 27) (tgt := 37) dX2_tells_27 rfl (sn_iload (pc := 37) dX2_tells_37 (sn_reti (pc := 39) (R := fun x τ => (some ((x, τ)))) dX2_tells_39 rfl (fun _ _ _ _ e h => by cases e; exact h))) (sn_lf (pc := 30) (ln_a (i := 1) (q := 1) (ln_i (i := 5) (fun z0 => (ln_end (o := fun τ => f_nC_tells_15_1_30 z0 τ) (fun _ _ _ e h => s_nC_tells_15_1_30 G z0 _ _ _ e h))))))))))))))))))))))) _ _ _ _ _ ((eq_nC_tells_15_1 x2 x3 x4 σ).symm.trans e) hr
noncomputable def cF_nC_tells_15_1 : am_Fn := fun _ args σ K => match args with
  | [.ref q0, .ref q1, .int z2, .int z3, .int z4] => match Nat.beq q0 15, Nat.beq q1 1 with
    | true, true => (f_nC_tells_15_1 z2 z3 z4 σ).bind (fun p => K (some (.int p.1)) p.2)
    | _, _ => none
  | _ => none
theorem cal_nC_tells_15_1 (G : am_G) : am_Cal G M_nC_tells cF_nC_tells_15_1 := by
  intro ρ args σ K r e
  unfold cF_nC_tells_15_1 at e
  split at e
  · split at e
    · rename_i hq0 hq1
      obtain ⟨p, h1, h2⟩ := am_bind_some e
      rw [Nat.eq_of_beq_eq_true hq0]
      rw [Nat.eq_of_beq_eq_true hq1]
      exact ⟨some (.int p.1), p.2, am_Met.of rfl (Nat.le_of_ble_eq_true rfl) (s_nC_tells_15_1 G _ _ _ σ p _ h1 ⟨rfl, rfl⟩), h2⟩
    · cases e
  · cases e
abbrev M_nB_tells : am_MD := (yX1_tells, cX1_tells, 5, (some .int), 3, 69)
theorem dX1_tells_0 : decode cX1_tells 0 = .ok (.iload 4, 2) := by decide +kernel
theorem dX1_tells_2 : decode cX1_tells 2 = .ok (.aload_n 1, 1) := by decide +kernel
theorem dX1_tells_3 : decode cX1_tells 3 = .ok (.getfield 11, 3) := by decide +kernel
theorem dX1_tells_6 : decode cX1_tells 6 = .ok (.if_icmp .ne 27, 3) := by decide +kernel
theorem dX1_tells_9 : decode cX1_tells 9 = .ok (.aload_n 1, 1) := by decide +kernel
theorem dX1_tells_10 : decode cX1_tells 10 = .ok (.iload_n 2, 1) := by decide +kernel
theorem dX1_tells_11 : decode cX1_tells 11 = .ok (.invokevirtual 17, 3) := by decide +kernel
theorem dX1_tells_14 : decode cX1_tells 14 = .ok (.iconst 4, 1) := by decide +kernel
theorem dX1_tells_15 : decode cX1_tells 15 = .ok (.if_icmp .le 18, 3) := by decide +kernel
theorem dX1_tells_18 : decode cX1_tells 18 = .ok (.aload_n 0, 1) := by decide +kernel
theorem dX1_tells_19 : decode cX1_tells 19 = .ok (.aload_n 1, 1) := by decide +kernel
theorem dX1_tells_20 : decode cX1_tells 20 = .ok (.iload_n 2, 1) := by decide +kernel
theorem dX1_tells_21 : decode cX1_tells 21 = .ok (.iload_n 3, 1) := by decide +kernel
theorem dX1_tells_22 : decode cX1_tells 22 = .ok (.invokevirtual 20, 3) := by decide +kernel
theorem dX1_tells_25 : decode cX1_tells 25 = .ok (.ifCond .ne 8, 3) := by decide +kernel
theorem dX1_tells_28 : decode cX1_tells 28 = .ok (.aload_n 1, 1) := by decide +kernel
theorem dX1_tells_29 : decode cX1_tells 29 = .ok (.getfield 26, 3) := by decide +kernel
theorem dX1_tells_32 : decode cX1_tells 32 = .ok (.ireturn, 1) := by decide +kernel
theorem dX1_tells_33 : decode cX1_tells 33 = .ok (.aload_n 0, 1) := by decide +kernel
theorem dX1_tells_34 : decode cX1_tells 34 = .ok (.aload_n 1, 1) := by decide +kernel
theorem dX1_tells_35 : decode cX1_tells 35 = .ok (.iload_n 2, 1) := by decide +kernel
theorem dX1_tells_36 : decode cX1_tells 36 = .ok (.iload_n 3, 1) := by decide +kernel
theorem dX1_tells_37 : decode cX1_tells 37 = .ok (.iload 4, 2) := by decide +kernel
theorem dX1_tells_39 : decode cX1_tells 39 = .ok (.invokespecial 29, 3) := by decide +kernel
theorem dX1_tells_42 : decode cX1_tells 42 = .ok (.ireturn, 1) := by decide +kernel
noncomputable def g_nB_tells_15_1_28 (σ : am_St) : Option (Int32 × am_St) :=
  some ((σ.1 1 3, σ))
noncomputable def f_nB_tells_15_1_28 (σ : am_St) : Option (Int32 × am_St) := am_lk (g_nB_tells_15_1_28  σ)
theorem eq_nB_tells_15_1_28 (σ : am_St) : f_nB_tells_15_1_28  σ = g_nB_tells_15_1_28  σ := am_lk_eq _
set_option maxRecDepth 100000 in
set_option maxHeartbeats 4000000 in
theorem s_nB_tells_15_1_28 (G : am_G) (σ : am_St) (r : Int32 × am_St) (Q : am_AQ) (e : f_nB_tells_15_1_28  σ = some r) (hr : am_Pi r Q) : am_AW G M_nB_tells 28 [(1, .ref 1)] [] σ Q :=
  (show am_Snd G M_nB_tells 28 am_Pi _ from (sn_aload_n (pc := 28) (i := 1) dX1_tells_28 rfl (sn_gI (pc := 29) (h := 1) (f := 3) dX1_tells_29 am_CL_3 sh_1 rfl (Nat.le_of_ble_eq_true rfl) tw_90 (sn_reti (pc := 32) (R := fun x τ => (some ((x, τ)))) dX1_tells_32 rfl (fun _ _ _ _ e h => by cases e; exact h))))) _ _ _ _ _ ((eq_nB_tells_15_1_28  σ).symm.trans e) hr
noncomputable def g_nB_tells_15_1_33 (x2 : Int32) (x3 : Int32) (x4 : Int32) (σ : am_St) : Option (Int32 × am_St) :=
  (f_nC_tells_15_1 x2 x3 x4 σ).bind (fun p1 =>
    some ((p1.1, p1.2)))
noncomputable def f_nB_tells_15_1_33 (x2 : Int32) (x3 : Int32) (x4 : Int32) (σ : am_St) : Option (Int32 × am_St) := am_lk (g_nB_tells_15_1_33 x2 x3 x4 σ)
theorem eq_nB_tells_15_1_33 (x2 : Int32) (x3 : Int32) (x4 : Int32) (σ : am_St) : f_nB_tells_15_1_33 x2 x3 x4 σ = g_nB_tells_15_1_33 x2 x3 x4 σ := am_lk_eq _
set_option maxRecDepth 100000 in
set_option maxHeartbeats 4000000 in
theorem s_nB_tells_15_1_33 (G : am_G) (x2 : Int32) (x3 : Int32) (x4 : Int32) (σ : am_St) (r : Int32 × am_St) (Q : am_AQ) (e : f_nB_tells_15_1_33 x2 x3 x4 σ = some r) (hr : am_Pi r Q) : am_AW G M_nB_tells 33 [(4, .int x4), (3, .int x3), (2, .int x2), (1, .ref 1), (0, .ref 15)] [] σ Q :=
  (show am_Snd G M_nB_tells 33 am_Pi _ from (sn_aload_n (pc := 33) (i := 0) dX1_tells_33 rfl (sn_aload_n (pc := 34) (i := 1) dX1_tells_34 rfl (sn_iload_n (pc := 35) (i := 2) dX1_tells_35 rfl (sn_iload_n (pc := 36) (i := 3) dX1_tells_36 rfl (sn_iload (pc := 37) dX1_tells_37 (sn_callU2 (pc := 39) (N := M_nC_tells) (x := ⟨"ItWasLikeThat$Loyal", "tells", "(LItWasLikeThat$House;III)I"⟩) dX1_tells_39 (cal_nC_tells_15_1 G) sh_15 rfl rfl tw_738 tw_739 tw_60 tw_53 tw_719 tw_3 tw_748 ⟨by decide +kernel, dsc_X2_tells.2.2⟩ rfl (sn_reti (pc := 42) (R := fun x τ => (some ((x, τ)))) dX1_tells_42 rfl (fun _ _ _ _ e h => by cases e; exact h))))))))) _ _ _ _ _ ((eq_nB_tells_15_1_33 x2 x3 x4 σ).symm.trans e) hr
noncomputable def g_nB_tells_15_1 (x2 : Int32) (x3 : Int32) (x4 : Int32) (σ : am_St) : Option (Int32 × am_St) :=
  if x4 = (σ.1 1 4) then
    (f_H_figureOf_1 x2 σ).bind (fun p1 =>
      if p1.1 ≤ 4 then
        f_nB_tells_15_1_33 x2 x3 x4 p1.2
      else
        (f_nL_covers_15_1 x2 x3 p1.2).bind (fun p2 =>
          if p2.1 = 0 then
            f_nB_tells_15_1_28 p2.2
          else
            f_nB_tells_15_1_33 x2 x3 x4 p2.2))
  else
    f_nB_tells_15_1_33 x2 x3 x4 σ
noncomputable def f_nB_tells_15_1 (x2 : Int32) (x3 : Int32) (x4 : Int32) (σ : am_St) : Option (Int32 × am_St) := am_lk (g_nB_tells_15_1 x2 x3 x4 σ)
theorem eq_nB_tells_15_1 (x2 : Int32) (x3 : Int32) (x4 : Int32) (σ : am_St) : f_nB_tells_15_1 x2 x3 x4 σ = g_nB_tells_15_1 x2 x3 x4 σ := am_lk_eq _
set_option maxRecDepth 100000 in
set_option maxHeartbeats 4000000 in
theorem s_nB_tells_15_1 (G : am_G) (x2 : Int32) (x3 : Int32) (x4 : Int32) (σ : am_St) (r : Int32 × am_St) (Q : am_AQ) (e : f_nB_tells_15_1 x2 x3 x4 σ = some r) (hr : am_Pi r Q) : am_AW G M_nB_tells 0 [(0, .ref 15), (1, .ref 1), (2, .int x2), (3, .int x3), (4, .int x4)] [] σ Q :=
  (show am_Snd G M_nB_tells 0 am_Pi _ from (sn_iload (pc := 0) dX1_tells_0 (sn_aload_n (pc := 2) (i := 1) dX1_tells_2 rfl (sn_gI (pc := 3) (h := 1) (f := 4) dX1_tells_3 am_CL_3 sh_1 rfl (Nat.le_of_ble_eq_true rfl) tw_96 (sn_icmp_ne (pc := 6) (tgt := 33) dX1_tells_6 rfl (sn_lf (pc := 33) (ln_a (i := 0) (q := 15) (ln_a (i := 1) (q := 1) (ln_i (i := 2) (fun z0 => (ln_i (i := 3) (fun z1 => (ln_i (i := 4) (fun z2 => (ln_end (o := fun τ => f_nB_tells_15_1_33 z0 z1 z2 τ) (fun _ _ _ e h => s_nB_tells_15_1_33 G z0 z1 z2 _ _ _ e h))))))))))) (sn_aload_n (pc := 9) (i := 1) dX1_tells_9 rfl (sn_iload_n (pc := 10) (i := 2) dX1_tells_10 rfl (sn_callV (pc := 11) (N := M_H_figureOf) dX1_tells_11 (cal_H_figureOf_1 G) sh_1 rfl tw_730 tw_440 tw_441 tw_2 tw_442 dsc_X3_figureOf rfl (sn_iconst (pc := 14) (v := 4) dX1_tells_14 rfl (sn_icmp_le (pc := 15) (tgt := 33) dX1_tells_15 rfl (sn_lf (pc := 33) (ln_a (i := 0) (q := 15) (ln_a (i := 1) (q := 1) (ln_i (i := 2) (fun z0 => (ln_i (i := 3) (fun z1 => (ln_i (i := 4) (fun z2 => (ln_end (o := fun τ => f_nB_tells_15_1_33 z0 z1 z2 τ) (fun _ _ _ e h => s_nB_tells_15_1_33 G z0 z1 z2 _ _ _ e h))))))))))) (sn_aload_n (pc := 18) (i := 0) dX1_tells_18 rfl (sn_aload_n (pc := 19) (i := 1) dX1_tells_19 rfl (sn_iload_n (pc := 20) (i := 2) dX1_tells_20 rfl (sn_iload_n (pc := 21) (i := 3) dX1_tells_21 rfl (sn_callO (pc := 22) (N := M_nL_covers) dX1_tells_22 (cal_nL_covers_15_1 G) sh_15 rfl tw_731 tw_732 tw_735 tw_736 tw_735 tw_734 tw_5 tw_736 dsc_X5_covers rfl (sn_if_ne (pc := 25) (tgt := 33) dX1_tells_25 rfl (sn_lf (pc := 33) (ln_a (i := 0) (q := 15) (ln_a (i := 1) (q := 1) (ln_i (i := 2) (fun z0 => (ln_i (i := 3) (fun z1 => (ln_i (i := 4) (fun z2 => (ln_end (o := fun τ => f_nB_tells_15_1_33 z0 z1 z2 τ) (fun _ _ _ e h => s_nB_tells_15_1_33 G z0 z1 z2 _ _ _ e h))))))))))) (sn_lf (pc := 28) (ln_a (i := 1) (q := 1) (ln_end (o := fun τ => f_nB_tells_15_1_28 τ) (fun _ _ _ e h => s_nB_tells_15_1_28 G  _ _ _ e h)))))))))))))))))))) _ _ _ _ _ ((eq_nB_tells_15_1 x2 x3 x4 σ).symm.trans e) hr
noncomputable def cF_nB_tells_15_1 : am_Fn := fun _ args σ K => match args with
  | [.ref q0, .ref q1, .int z2, .int z3, .int z4] => match Nat.beq q0 15, Nat.beq q1 1 with
    | true, true => (f_nB_tells_15_1 z2 z3 z4 σ).bind (fun p => K (some (.int p.1)) p.2)
    | _, _ => none
  | _ => none
theorem cal_nB_tells_15_1 (G : am_G) : am_Cal G M_nB_tells cF_nB_tells_15_1 := by
  intro ρ args σ K r e
  unfold cF_nB_tells_15_1 at e
  split at e
  · split at e
    · rename_i hq0 hq1
      obtain ⟨p, h1, h2⟩ := am_bind_some e
      rw [Nat.eq_of_beq_eq_true hq0]
      rw [Nat.eq_of_beq_eq_true hq1]
      exact ⟨some (.int p.1), p.2, am_Met.of rfl (Nat.le_of_ble_eq_true rfl) (s_nB_tells_15_1 G _ _ _ σ p _ h1 ⟨rfl, rfl⟩), h2⟩
    · cases e
  · cases e
abbrev M_nD_covers : am_MD := (yX0_covers, cX0_covers, 4, (some .boolean), 0, 0)
theorem dX0_covers_0 : decode cX0_covers 0 = .ok (.iconst 0, 1) := by decide +kernel
theorem dX0_covers_1 : decode cX0_covers 1 = .ok (.ireturn, 1) := by decide +kernel
noncomputable def g_nD_covers_16_1 (x2 : Int32) (x3 : Int32) (σ : am_St) : Option (Int32 × am_St) :=
  some ((0, σ))
noncomputable def f_nD_covers_16_1 (x2 : Int32) (x3 : Int32) (σ : am_St) : Option (Int32 × am_St) := am_lk (g_nD_covers_16_1 x2 x3 σ)
theorem eq_nD_covers_16_1 (x2 : Int32) (x3 : Int32) (σ : am_St) : f_nD_covers_16_1 x2 x3 σ = g_nD_covers_16_1 x2 x3 σ := am_lk_eq _
set_option maxRecDepth 100000 in
set_option maxHeartbeats 4000000 in
theorem s_nD_covers_16_1 (G : am_G) (x2 : Int32) (x3 : Int32) (σ : am_St) (r : Int32 × am_St) (Q : am_AQ) (e : f_nD_covers_16_1 x2 x3 σ = some r) (hr : am_Pi r Q) : am_AW G M_nD_covers 0 [(0, .ref 16), (1, .ref 1), (2, .int x2), (3, .int x3)] [] σ Q :=
  (show am_Snd G M_nD_covers 0 am_Pi _ from (sn_iconst (pc := 0) (v := 0) dX0_covers_0 rfl (sn_retz (pc := 1) (R := fun x τ => (some ((x, τ)))) dX0_covers_1 rfl (fun _ _ _ _ e h => by cases e; exact h)))) _ _ _ _ _ ((eq_nD_covers_16_1 x2 x3 σ).symm.trans e) hr
noncomputable def cF_nD_covers_16_1 : am_Fn := fun _ args σ K => match args with
  | [.ref q0, .ref q1, .int z2, .int z3] => match Nat.beq q0 16, Nat.beq q1 1 with
    | true, true => (f_nD_covers_16_1 z2 z3 σ).bind (fun p => K (some (.int p.1)) p.2)
    | _, _ => none
  | _ => none
theorem cal_nD_covers_16_1 (G : am_G) : am_Cal G M_nD_covers cF_nD_covers_16_1 := by
  intro ρ args σ K r e
  unfold cF_nD_covers_16_1 at e
  split at e
  · split at e
    · rename_i hq0 hq1
      obtain ⟨p, h1, h2⟩ := am_bind_some e
      rw [Nat.eq_of_beq_eq_true hq0]
      rw [Nat.eq_of_beq_eq_true hq1]
      exact ⟨some (.int p.1), p.2, am_Met.of rfl (Nat.le_of_ble_eq_true rfl) (s_nD_covers_16_1 G _ _ σ p _ h1 ⟨rfl, rfl⟩), h2⟩
    · cases e
  · cases e
noncomputable def g_nC_tells_16_1_30 (x5 : Int32) (σ : am_St) : Option (Int32 × am_St) :=
  (f_H_roomBehind_1 x5 σ).bind (fun p1 =>
    some ((p1.1, p1.2)))
noncomputable def f_nC_tells_16_1_30 (x5 : Int32) (σ : am_St) : Option (Int32 × am_St) := am_lk (g_nC_tells_16_1_30 x5 σ)
theorem eq_nC_tells_16_1_30 (x5 : Int32) (σ : am_St) : f_nC_tells_16_1_30 x5 σ = g_nC_tells_16_1_30 x5 σ := am_lk_eq _
set_option maxRecDepth 100000 in
set_option maxHeartbeats 4000000 in
theorem s_nC_tells_16_1_30 (G : am_G) (x5 : Int32) (σ : am_St) (r : Int32 × am_St) (Q : am_AQ) (e : f_nC_tells_16_1_30 x5 σ = some r) (hr : am_Pi r Q) : am_AW G M_nC_tells 30 [(5, .int x5), (1, .ref 1)] [] σ Q :=
  (show am_Snd G M_nC_tells 30 am_Pi _ from (sn_aload_n (pc := 30) (i := 1) dX2_tells_30 rfl (sn_iload (pc := 31) dX2_tells_31 (sn_callV (pc := 33) (N := M_H_roomBehind) dX2_tells_33 (cal_H_roomBehind_1 G) sh_1 rfl tw_768 tw_769 tw_770 tw_2 tw_771 dsc_X3_roomBehind rfl (sn_reti (pc := 36) (R := fun x τ => (some ((x, τ)))) dX2_tells_36 rfl (fun _ _ _ _ e h => by cases e; exact h)))))) _ _ _ _ _ ((eq_nC_tells_16_1_30 x5 σ).symm.trans e) hr
noncomputable def g_nC_tells_16_1 (x2 : Int32) (x3 : Int32) (x4 : Int32) (σ : am_St) : Option (Int32 × am_St) :=
  (f_H_placeOf_1 x3 x4 σ).bind (fun p1 =>
    (f_nD_covers_16_1 x2 x3 p1.2).bind (fun p2 =>
      if p2.1 = 0 then
        some ((p1.1, p2.2))
      else
        (f_H_isDeed_1 p1.1 x4 p2.2).bind (fun p3 =>
          if p3.1 = 0 then
            some ((p1.1, p3.2))
          else
            f_nC_tells_16_1_30 p1.1 p3.2)))
noncomputable def f_nC_tells_16_1 (x2 : Int32) (x3 : Int32) (x4 : Int32) (σ : am_St) : Option (Int32 × am_St) := am_lk (g_nC_tells_16_1 x2 x3 x4 σ)
theorem eq_nC_tells_16_1 (x2 : Int32) (x3 : Int32) (x4 : Int32) (σ : am_St) : f_nC_tells_16_1 x2 x3 x4 σ = g_nC_tells_16_1 x2 x3 x4 σ := am_lk_eq _
set_option maxRecDepth 100000 in
set_option maxHeartbeats 4000000 in
theorem s_nC_tells_16_1 (G : am_G) (x2 : Int32) (x3 : Int32) (x4 : Int32) (σ : am_St) (r : Int32 × am_St) (Q : am_AQ) (e : f_nC_tells_16_1 x2 x3 x4 σ = some r) (hr : am_Pi r Q) : am_AW G M_nC_tells 0 [(0, .ref 16), (1, .ref 1), (2, .int x2), (3, .int x3), (4, .int x4)] [] σ Q :=
  (show am_Snd G M_nC_tells 0 am_Pi _ from (sn_aload_n (pc := 0) (i := 1) dX2_tells_0 rfl (sn_iload_n (pc := 1) (i := 3) dX2_tells_1 rfl (sn_iload (pc := 2) dX2_tells_2 (sn_callV (pc := 4) (N := M_H_placeOf) dX2_tells_4 (cal_H_placeOf_1 G) sh_1 rfl tw_749 tw_522 tw_523 tw_2 tw_524 dsc_X3_placeOf rfl (sn_istore (pc := 7) dX2_tells_7 (Nat.le_of_ble_eq_true rfl) (sn_aload_n (pc := 9) (i := 0) dX2_tells_9 rfl (sn_aload_n (pc := 10) (i := 1) dX2_tells_10 rfl (sn_iload_n (pc := 11) (i := 2) dX2_tells_11 rfl (sn_iload_n (pc := 12) (i := 3) dX2_tells_12 rfl (sn_callO (pc := 13) (N := M_nD_covers) dX2_tells_13 (cal_nD_covers_16_1 G) sh_16 rfl tw_750 tw_753 tw_751 tw_763 tw_755 tw_754 tw_7 tw_756 dsc_X2_covers rfl (sn_if_eq (pc := 16) (tgt := 37) dX2_tells_16 rfl (sn_iload (pc := 37) dX2_tells_37 (sn_reti (pc := 39) (R := fun x τ => (some ((x, τ)))) dX2_tells_39 rfl (fun _ _ _ _ e h => by cases e; exact h))) (sn_aload_n (pc := 19) (i := 1) dX2_tells_19 rfl (sn_iload (pc := 20) dX2_tells_20 (sn_iload (pc := 22) dX2_tells_22 (sn_callV (pc := 24) (N := M_H_isDeed) dX2_tells_24 (cal_H_isDeed_1 G) sh_1 rfl tw_764 tw_765 tw_766 tw_2 tw_767 dsc_X3_isDeed rfl (sn_if_eq (pc := 27) (tgt := 37) dX2_tells_27 rfl (sn_iload (pc := 37) dX2_tells_37 (sn_reti (pc := 39) (R := fun x τ => (some ((x, τ)))) dX2_tells_39 rfl (fun _ _ _ _ e h => by cases e; exact h))) (sn_lf (pc := 30) (ln_a (i := 1) (q := 1) (ln_i (i := 5) (fun z0 => (ln_end (o := fun τ => f_nC_tells_16_1_30 z0 τ) (fun _ _ _ e h => s_nC_tells_16_1_30 G z0 _ _ _ e h))))))))))))))))))))))) _ _ _ _ _ ((eq_nC_tells_16_1 x2 x3 x4 σ).symm.trans e) hr
noncomputable def cF_nC_tells_16_1 : am_Fn := fun _ args σ K => match args with
  | [.ref q0, .ref q1, .int z2, .int z3, .int z4] => match Nat.beq q0 16, Nat.beq q1 1 with
    | true, true => (f_nC_tells_16_1 z2 z3 z4 σ).bind (fun p => K (some (.int p.1)) p.2)
    | _, _ => none
  | _ => none
theorem cal_nC_tells_16_1 (G : am_G) : am_Cal G M_nC_tells cF_nC_tells_16_1 := by
  intro ρ args σ K r e
  unfold cF_nC_tells_16_1 at e
  split at e
  · split at e
    · rename_i hq0 hq1
      obtain ⟨p, h1, h2⟩ := am_bind_some e
      rw [Nat.eq_of_beq_eq_true hq0]
      rw [Nat.eq_of_beq_eq_true hq1]
      exact ⟨some (.int p.1), p.2, am_Met.of rfl (Nat.le_of_ble_eq_true rfl) (s_nC_tells_16_1 G _ _ _ σ p _ h1 ⟨rfl, rfl⟩), h2⟩
    · cases e
  · cases e
abbrev M_nD_tells : am_MD := (yX0_tells, cX0_tells, 5, (some .int), 3, 69)
theorem dX0_tells_0 : decode cX0_tells 0 = .ok (.iload_n 3, 1) := by decide +kernel
theorem dX0_tells_1 : decode cX0_tells 1 = .ok (.iload_n 2, 1) := by decide +kernel
theorem dX0_tells_2 : decode cX0_tells 2 = .ok (.if_icmp .eq 27, 3) := by decide +kernel
theorem dX0_tells_5 : decode cX0_tells 5 = .ok (.iload 4, 2) := by decide +kernel
theorem dX0_tells_7 : decode cX0_tells 7 = .ok (.aload_n 1, 1) := by decide +kernel
theorem dX0_tells_8 : decode cX0_tells 8 = .ok (.getfield 15, 3) := by decide +kernel
theorem dX0_tells_11 : decode cX0_tells 11 = .ok (.if_icmp .ne 18, 3) := by decide +kernel
theorem dX0_tells_14 : decode cX0_tells 14 = .ok (.aload_n 1, 1) := by decide +kernel
theorem dX0_tells_15 : decode cX0_tells 15 = .ok (.iload_n 2, 1) := by decide +kernel
theorem dX0_tells_16 : decode cX0_tells 16 = .ok (.invokevirtual 21, 3) := by decide +kernel
theorem dX0_tells_19 : decode cX0_tells 19 = .ok (.iconst 2, 1) := by decide +kernel
theorem dX0_tells_20 : decode cX0_tells 20 = .ok (.irem, 1) := by decide +kernel
theorem dX0_tells_21 : decode cX0_tells 21 = .ok (.ifCond .eq 8, 3) := by decide +kernel
theorem dX0_tells_24 : decode cX0_tells 24 = .ok (.aload_n 1, 1) := by decide +kernel
theorem dX0_tells_25 : decode cX0_tells 25 = .ok (.getfield 24, 3) := by decide +kernel
theorem dX0_tells_28 : decode cX0_tells 28 = .ok (.ireturn, 1) := by decide +kernel
theorem dX0_tells_29 : decode cX0_tells 29 = .ok (.aload_n 0, 1) := by decide +kernel
theorem dX0_tells_30 : decode cX0_tells 30 = .ok (.aload_n 1, 1) := by decide +kernel
theorem dX0_tells_31 : decode cX0_tells 31 = .ok (.iload_n 2, 1) := by decide +kernel
theorem dX0_tells_32 : decode cX0_tells 32 = .ok (.iload_n 3, 1) := by decide +kernel
theorem dX0_tells_33 : decode cX0_tells 33 = .ok (.iload 4, 2) := by decide +kernel
theorem dX0_tells_35 : decode cX0_tells 35 = .ok (.invokespecial 27, 3) := by decide +kernel
theorem dX0_tells_38 : decode cX0_tells 38 = .ok (.ireturn, 1) := by decide +kernel
noncomputable def g_nD_tells_16_1_29 (x2 : Int32) (x3 : Int32) (x4 : Int32) (σ : am_St) : Option (Int32 × am_St) :=
  (f_nC_tells_16_1 x2 x3 x4 σ).bind (fun p1 =>
    some ((p1.1, p1.2)))
noncomputable def f_nD_tells_16_1_29 (x2 : Int32) (x3 : Int32) (x4 : Int32) (σ : am_St) : Option (Int32 × am_St) := am_lk (g_nD_tells_16_1_29 x2 x3 x4 σ)
theorem eq_nD_tells_16_1_29 (x2 : Int32) (x3 : Int32) (x4 : Int32) (σ : am_St) : f_nD_tells_16_1_29 x2 x3 x4 σ = g_nD_tells_16_1_29 x2 x3 x4 σ := am_lk_eq _
set_option maxRecDepth 100000 in
set_option maxHeartbeats 4000000 in
theorem s_nD_tells_16_1_29 (G : am_G) (x2 : Int32) (x3 : Int32) (x4 : Int32) (σ : am_St) (r : Int32 × am_St) (Q : am_AQ) (e : f_nD_tells_16_1_29 x2 x3 x4 σ = some r) (hr : am_Pi r Q) : am_AW G M_nD_tells 29 [(4, .int x4), (3, .int x3), (2, .int x2), (1, .ref 1), (0, .ref 16)] [] σ Q :=
  (show am_Snd G M_nD_tells 29 am_Pi _ from (sn_aload_n (pc := 29) (i := 0) dX0_tells_29 rfl (sn_aload_n (pc := 30) (i := 1) dX0_tells_30 rfl (sn_iload_n (pc := 31) (i := 2) dX0_tells_31 rfl (sn_iload_n (pc := 32) (i := 3) dX0_tells_32 rfl (sn_iload (pc := 33) dX0_tells_33 (sn_callU (pc := 35) (N := M_nC_tells) dX0_tells_35 (cal_nC_tells_16_1 G) sh_16 rfl tw_726 tw_721 tw_67 tw_719 tw_3 tw_748 ⟨by decide +kernel, dsc_X2_tells.2.2⟩ rfl (sn_reti (pc := 38) (R := fun x τ => (some ((x, τ)))) dX0_tells_38 rfl (fun _ _ _ _ e h => by cases e; exact h))))))))) _ _ _ _ _ ((eq_nD_tells_16_1_29 x2 x3 x4 σ).symm.trans e) hr
noncomputable def g_nD_tells_16_1 (x2 : Int32) (x3 : Int32) (x4 : Int32) (σ : am_St) : Option (Int32 × am_St) :=
  if x3 = x2 then
    f_nD_tells_16_1_29 x2 x3 x4 σ
  else
    if x4 = (σ.1 1 4) then
      (f_H_figureOf_1 x2 σ).bind (fun p1 =>
        if (am_rem p1.1 2) = 0 then
          f_nD_tells_16_1_29 x2 x3 x4 p1.2
        else
          some ((p1.2.1 1 3, p1.2)))
    else
      f_nD_tells_16_1_29 x2 x3 x4 σ
noncomputable def f_nD_tells_16_1 (x2 : Int32) (x3 : Int32) (x4 : Int32) (σ : am_St) : Option (Int32 × am_St) := am_lk (g_nD_tells_16_1 x2 x3 x4 σ)
theorem eq_nD_tells_16_1 (x2 : Int32) (x3 : Int32) (x4 : Int32) (σ : am_St) : f_nD_tells_16_1 x2 x3 x4 σ = g_nD_tells_16_1 x2 x3 x4 σ := am_lk_eq _
set_option maxRecDepth 100000 in
set_option maxHeartbeats 4000000 in
theorem s_nD_tells_16_1 (G : am_G) (x2 : Int32) (x3 : Int32) (x4 : Int32) (σ : am_St) (r : Int32 × am_St) (Q : am_AQ) (e : f_nD_tells_16_1 x2 x3 x4 σ = some r) (hr : am_Pi r Q) : am_AW G M_nD_tells 0 [(0, .ref 16), (1, .ref 1), (2, .int x2), (3, .int x3), (4, .int x4)] [] σ Q :=
  (show am_Snd G M_nD_tells 0 am_Pi _ from (sn_iload_n (pc := 0) (i := 3) dX0_tells_0 rfl (sn_iload_n (pc := 1) (i := 2) dX0_tells_1 rfl (sn_icmp_eq (pc := 2) (tgt := 29) dX0_tells_2 rfl (sn_lf (pc := 29) (ln_a (i := 0) (q := 16) (ln_a (i := 1) (q := 1) (ln_i (i := 2) (fun z0 => (ln_i (i := 3) (fun z1 => (ln_i (i := 4) (fun z2 => (ln_end (o := fun τ => f_nD_tells_16_1_29 z0 z1 z2 τ) (fun _ _ _ e h => s_nD_tells_16_1_29 G z0 z1 z2 _ _ _ e h))))))))))) (sn_iload (pc := 5) dX0_tells_5 (sn_aload_n (pc := 7) (i := 1) dX0_tells_7 rfl (sn_gI (pc := 8) (h := 1) (f := 4) dX0_tells_8 am_CL_3 sh_1 rfl (Nat.le_of_ble_eq_true rfl) tw_98 (sn_icmp_ne (pc := 11) (tgt := 29) dX0_tells_11 rfl (sn_lf (pc := 29) (ln_a (i := 0) (q := 16) (ln_a (i := 1) (q := 1) (ln_i (i := 2) (fun z0 => (ln_i (i := 3) (fun z1 => (ln_i (i := 4) (fun z2 => (ln_end (o := fun τ => f_nD_tells_16_1_29 z0 z1 z2 τ) (fun _ _ _ e h => s_nD_tells_16_1_29 G z0 z1 z2 _ _ _ e h))))))))))) (sn_aload_n (pc := 14) (i := 1) dX0_tells_14 rfl (sn_iload_n (pc := 15) (i := 2) dX0_tells_15 rfl (sn_callV (pc := 16) (N := M_H_figureOf) dX0_tells_16 (cal_H_figureOf_1 G) sh_1 rfl tw_725 tw_440 tw_441 tw_2 tw_442 dsc_X3_figureOf rfl (sn_iconst (pc := 19) (v := 2) dX0_tells_19 rfl (sn_irem (pc := 20) dX0_tells_20 (sn_if_eq (pc := 21) (tgt := 29) dX0_tells_21 rfl (sn_lf (pc := 29) (ln_a (i := 0) (q := 16) (ln_a (i := 1) (q := 1) (ln_i (i := 2) (fun z0 => (ln_i (i := 3) (fun z1 => (ln_i (i := 4) (fun z2 => (ln_end (o := fun τ => f_nD_tells_16_1_29 z0 z1 z2 τ) (fun _ _ _ e h => s_nD_tells_16_1_29 G z0 z1 z2 _ _ _ e h))))))))))) (sn_aload_n (pc := 24) (i := 1) dX0_tells_24 rfl (sn_gI (pc := 25) (h := 1) (f := 3) dX0_tells_25 am_CL_3 sh_1 rfl (Nat.le_of_ble_eq_true rfl) tw_91 (sn_reti (pc := 28) (R := fun x τ => (some ((x, τ)))) dX0_tells_28 rfl (fun _ _ _ _ e h => by cases e; exact h)))))))))))))))))) _ _ _ _ _ ((eq_nD_tells_16_1 x2 x3 x4 σ).symm.trans e) hr
noncomputable def cF_nD_tells_16_1 : am_Fn := fun _ args σ K => match args with
  | [.ref q0, .ref q1, .int z2, .int z3, .int z4] => match Nat.beq q0 16, Nat.beq q1 1 with
    | true, true => (f_nD_tells_16_1 z2 z3 z4 σ).bind (fun p => K (some (.int p.1)) p.2)
    | _, _ => none
  | _ => none
theorem cal_nD_tells_16_1 (G : am_G) : am_Cal G M_nD_tells cF_nD_tells_16_1 := by
  intro ρ args σ K r e
  unfold cF_nD_tells_16_1 at e
  split at e
  · split at e
    · rename_i hq0 hq1
      obtain ⟨p, h1, h2⟩ := am_bind_some e
      rw [Nat.eq_of_beq_eq_true hq0]
      rw [Nat.eq_of_beq_eq_true hq1]
      exact ⟨some (.int p.1), p.2, am_Met.of rfl (Nat.le_of_ble_eq_true rfl) (s_nD_tells_16_1 G _ _ _ σ p _ h1 ⟨rfl, rfl⟩), h2⟩
    · cases e
  · cases e
noncomputable def g_nS_covers_17_1 (x2 : Int32) (x3 : Int32) (σ : am_St) : Option (Int32 × am_St) :=
  some ((0, σ))
noncomputable def f_nS_covers_17_1 (x2 : Int32) (x3 : Int32) (σ : am_St) : Option (Int32 × am_St) := am_lk (g_nS_covers_17_1 x2 x3 σ)
theorem eq_nS_covers_17_1 (x2 : Int32) (x3 : Int32) (σ : am_St) : f_nS_covers_17_1 x2 x3 σ = g_nS_covers_17_1 x2 x3 σ := am_lk_eq _
set_option maxRecDepth 100000 in
set_option maxHeartbeats 4000000 in
theorem s_nS_covers_17_1 (G : am_G) (x2 : Int32) (x3 : Int32) (σ : am_St) (r : Int32 × am_St) (Q : am_AQ) (e : f_nS_covers_17_1 x2 x3 σ = some r) (hr : am_Pi r Q) : am_AW G M_nS_covers 0 [(0, .ref 17), (1, .ref 1), (2, .int x2), (3, .int x3)] [] σ Q :=
  (show am_Snd G M_nS_covers 0 am_Pi _ from (sn_iconst (pc := 0) (v := 0) dX9_covers_0 rfl (sn_retz (pc := 1) (R := fun x τ => (some ((x, τ)))) dX9_covers_1 rfl (fun _ _ _ _ e h => by cases e; exact h)))) _ _ _ _ _ ((eq_nS_covers_17_1 x2 x3 σ).symm.trans e) hr
noncomputable def cF_nS_covers_17_1 : am_Fn := fun _ args σ K => match args with
  | [.ref q0, .ref q1, .int z2, .int z3] => match Nat.beq q0 17, Nat.beq q1 1 with
    | true, true => (f_nS_covers_17_1 z2 z3 σ).bind (fun p => K (some (.int p.1)) p.2)
    | _, _ => none
  | _ => none
theorem cal_nS_covers_17_1 (G : am_G) : am_Cal G M_nS_covers cF_nS_covers_17_1 := by
  intro ρ args σ K r e
  unfold cF_nS_covers_17_1 at e
  split at e
  · split at e
    · rename_i hq0 hq1
      obtain ⟨p, h1, h2⟩ := am_bind_some e
      rw [Nat.eq_of_beq_eq_true hq0]
      rw [Nat.eq_of_beq_eq_true hq1]
      exact ⟨some (.int p.1), p.2, am_Met.of rfl (Nat.le_of_ble_eq_true rfl) (s_nS_covers_17_1 G _ _ σ p _ h1 ⟨rfl, rfl⟩), h2⟩
    · cases e
  · cases e
noncomputable def g_nC_tells_17_1_30 (x5 : Int32) (σ : am_St) : Option (Int32 × am_St) :=
  (f_H_roomBehind_1 x5 σ).bind (fun p1 =>
    some ((p1.1, p1.2)))
noncomputable def f_nC_tells_17_1_30 (x5 : Int32) (σ : am_St) : Option (Int32 × am_St) := am_lk (g_nC_tells_17_1_30 x5 σ)
theorem eq_nC_tells_17_1_30 (x5 : Int32) (σ : am_St) : f_nC_tells_17_1_30 x5 σ = g_nC_tells_17_1_30 x5 σ := am_lk_eq _
set_option maxRecDepth 100000 in
set_option maxHeartbeats 4000000 in
theorem s_nC_tells_17_1_30 (G : am_G) (x5 : Int32) (σ : am_St) (r : Int32 × am_St) (Q : am_AQ) (e : f_nC_tells_17_1_30 x5 σ = some r) (hr : am_Pi r Q) : am_AW G M_nC_tells 30 [(5, .int x5), (1, .ref 1)] [] σ Q :=
  (show am_Snd G M_nC_tells 30 am_Pi _ from (sn_aload_n (pc := 30) (i := 1) dX2_tells_30 rfl (sn_iload (pc := 31) dX2_tells_31 (sn_callV (pc := 33) (N := M_H_roomBehind) dX2_tells_33 (cal_H_roomBehind_1 G) sh_1 rfl tw_768 tw_769 tw_770 tw_2 tw_771 dsc_X3_roomBehind rfl (sn_reti (pc := 36) (R := fun x τ => (some ((x, τ)))) dX2_tells_36 rfl (fun _ _ _ _ e h => by cases e; exact h)))))) _ _ _ _ _ ((eq_nC_tells_17_1_30 x5 σ).symm.trans e) hr
noncomputable def g_nC_tells_17_1 (x2 : Int32) (x3 : Int32) (x4 : Int32) (σ : am_St) : Option (Int32 × am_St) :=
  (f_H_placeOf_1 x3 x4 σ).bind (fun p1 =>
    (f_nS_covers_17_1 x2 x3 p1.2).bind (fun p2 =>
      if p2.1 = 0 then
        some ((p1.1, p2.2))
      else
        (f_H_isDeed_1 p1.1 x4 p2.2).bind (fun p3 =>
          if p3.1 = 0 then
            some ((p1.1, p3.2))
          else
            f_nC_tells_17_1_30 p1.1 p3.2)))
noncomputable def f_nC_tells_17_1 (x2 : Int32) (x3 : Int32) (x4 : Int32) (σ : am_St) : Option (Int32 × am_St) := am_lk (g_nC_tells_17_1 x2 x3 x4 σ)
theorem eq_nC_tells_17_1 (x2 : Int32) (x3 : Int32) (x4 : Int32) (σ : am_St) : f_nC_tells_17_1 x2 x3 x4 σ = g_nC_tells_17_1 x2 x3 x4 σ := am_lk_eq _
set_option maxRecDepth 100000 in
set_option maxHeartbeats 4000000 in
theorem s_nC_tells_17_1 (G : am_G) (x2 : Int32) (x3 : Int32) (x4 : Int32) (σ : am_St) (r : Int32 × am_St) (Q : am_AQ) (e : f_nC_tells_17_1 x2 x3 x4 σ = some r) (hr : am_Pi r Q) : am_AW G M_nC_tells 0 [(0, .ref 17), (1, .ref 1), (2, .int x2), (3, .int x3), (4, .int x4)] [] σ Q :=
  (show am_Snd G M_nC_tells 0 am_Pi _ from (sn_aload_n (pc := 0) (i := 1) dX2_tells_0 rfl (sn_iload_n (pc := 1) (i := 3) dX2_tells_1 rfl (sn_iload (pc := 2) dX2_tells_2 (sn_callV (pc := 4) (N := M_H_placeOf) dX2_tells_4 (cal_H_placeOf_1 G) sh_1 rfl tw_749 tw_522 tw_523 tw_2 tw_524 dsc_X3_placeOf rfl (sn_istore (pc := 7) dX2_tells_7 (Nat.le_of_ble_eq_true rfl) (sn_aload_n (pc := 9) (i := 0) dX2_tells_9 rfl (sn_aload_n (pc := 10) (i := 1) dX2_tells_10 rfl (sn_iload_n (pc := 11) (i := 2) dX2_tells_11 rfl (sn_iload_n (pc := 12) (i := 3) dX2_tells_12 rfl (sn_callO (pc := 13) (N := M_nS_covers) dX2_tells_13 (cal_nS_covers_17_1 G) sh_17 rfl tw_750 tw_753 tw_751 tw_763 tw_760 tw_759 tw_4 tw_761 dsc_X2_covers rfl (sn_if_eq (pc := 16) (tgt := 37) dX2_tells_16 rfl (sn_iload (pc := 37) dX2_tells_37 (sn_reti (pc := 39) (R := fun x τ => (some ((x, τ)))) dX2_tells_39 rfl (fun _ _ _ _ e h => by cases e; exact h))) (sn_aload_n (pc := 19) (i := 1) dX2_tells_19 rfl (sn_iload (pc := 20) dX2_tells_20 (sn_iload (pc := 22) dX2_tells_22 (sn_callV (pc := 24) (N := M_H_isDeed) dX2_tells_24 (cal_H_isDeed_1 G) sh_1 rfl tw_764 tw_765 tw_766 tw_2 tw_767 dsc_X3_isDeed rfl (sn_if_eq (pc := 27) (tgt := 37) dX2_tells_27 rfl (sn_iload (pc := 37) dX2_tells_37 (sn_reti (pc := 39) (R := fun x τ => (some ((x, τ)))) dX2_tells_39 rfl (fun _ _ _ _ e h => by cases e; exact h))) (sn_lf (pc := 30) (ln_a (i := 1) (q := 1) (ln_i (i := 5) (fun z0 => (ln_end (o := fun τ => f_nC_tells_17_1_30 z0 τ) (fun _ _ _ e h => s_nC_tells_17_1_30 G z0 _ _ _ e h))))))))))))))))))))))) _ _ _ _ _ ((eq_nC_tells_17_1 x2 x3 x4 σ).symm.trans e) hr
noncomputable def cF_nC_tells_17_1 : am_Fn := fun _ args σ K => match args with
  | [.ref q0, .ref q1, .int z2, .int z3, .int z4] => match Nat.beq q0 17, Nat.beq q1 1 with
    | true, true => (f_nC_tells_17_1 z2 z3 z4 σ).bind (fun p => K (some (.int p.1)) p.2)
    | _, _ => none
  | _ => none
theorem cal_nC_tells_17_1 (G : am_G) : am_Cal G M_nC_tells cF_nC_tells_17_1 := by
  intro ρ args σ K r e
  unfold cF_nC_tells_17_1 at e
  split at e
  · split at e
    · rename_i hq0 hq1
      obtain ⟨p, h1, h2⟩ := am_bind_some e
      rw [Nat.eq_of_beq_eq_true hq0]
      rw [Nat.eq_of_beq_eq_true hq1]
      exact ⟨some (.int p.1), p.2, am_Met.of rfl (Nat.le_of_ble_eq_true rfl) (s_nC_tells_17_1 G _ _ _ σ p _ h1 ⟨rfl, rfl⟩), h2⟩
    · cases e
  · cases e
abbrev M_nI_tells : am_MD := (yX8_tells, cX8_tells, 5, (some .int), 3, 69)
theorem dX8_tells_0 : decode cX8_tells 0 = .ok (.iload 4, 2) := by decide +kernel
theorem dX8_tells_2 : decode cX8_tells 2 = .ok (.aload_n 1, 1) := by decide +kernel
theorem dX8_tells_3 : decode cX8_tells 3 = .ok (.getfield 13, 3) := by decide +kernel
theorem dX8_tells_6 : decode cX8_tells 6 = .ok (.if_icmp .ne 8, 3) := by decide +kernel
theorem dX8_tells_9 : decode cX8_tells 9 = .ok (.bipush (-9), 2) := by decide +kernel
theorem dX8_tells_11 : decode cX8_tells 11 = .ok (.goto 12, 3) := by decide +kernel
theorem dX8_tells_14 : decode cX8_tells 14 = .ok (.aload_n 0, 1) := by decide +kernel
theorem dX8_tells_15 : decode cX8_tells 15 = .ok (.aload_n 1, 1) := by decide +kernel
theorem dX8_tells_16 : decode cX8_tells 16 = .ok (.iload_n 2, 1) := by decide +kernel
theorem dX8_tells_17 : decode cX8_tells 17 = .ok (.iload_n 3, 1) := by decide +kernel
theorem dX8_tells_18 : decode cX8_tells 18 = .ok (.iload 4, 2) := by decide +kernel
theorem dX8_tells_20 : decode cX8_tells 20 = .ok (.invokespecial 19, 3) := by decide +kernel
theorem dX8_tells_23 : decode cX8_tells 23 = .ok (.ireturn, 1) := by decide +kernel
noncomputable def g_nI_tells_17_1 (x2 : Int32) (x3 : Int32) (x4 : Int32) (σ : am_St) : Option (Int32 × am_St) :=
  if x4 = (σ.1 1 4) then
    some (((-9), σ))
  else
    (f_nC_tells_17_1 x2 x3 x4 σ).bind (fun p1 =>
      some ((p1.1, p1.2)))
noncomputable def f_nI_tells_17_1 (x2 : Int32) (x3 : Int32) (x4 : Int32) (σ : am_St) : Option (Int32 × am_St) := am_lk (g_nI_tells_17_1 x2 x3 x4 σ)
theorem eq_nI_tells_17_1 (x2 : Int32) (x3 : Int32) (x4 : Int32) (σ : am_St) : f_nI_tells_17_1 x2 x3 x4 σ = g_nI_tells_17_1 x2 x3 x4 σ := am_lk_eq _
set_option maxRecDepth 100000 in
set_option maxHeartbeats 4000000 in
theorem s_nI_tells_17_1 (G : am_G) (x2 : Int32) (x3 : Int32) (x4 : Int32) (σ : am_St) (r : Int32 × am_St) (Q : am_AQ) (e : f_nI_tells_17_1 x2 x3 x4 σ = some r) (hr : am_Pi r Q) : am_AW G M_nI_tells 0 [(0, .ref 17), (1, .ref 1), (2, .int x2), (3, .int x3), (4, .int x4)] [] σ Q :=
  (show am_Snd G M_nI_tells 0 am_Pi _ from (sn_iload (pc := 0) dX8_tells_0 (sn_aload_n (pc := 2) (i := 1) dX8_tells_2 rfl (sn_gI (pc := 3) (h := 1) (f := 4) dX8_tells_3 am_CL_3 sh_1 rfl (Nat.le_of_ble_eq_true rfl) tw_97 (sn_icmp_ne (pc := 6) (tgt := 14) dX8_tells_6 rfl (sn_aload_n (pc := 14) (i := 0) dX8_tells_14 rfl (sn_aload_n (pc := 15) (i := 1) dX8_tells_15 rfl (sn_iload_n (pc := 16) (i := 2) dX8_tells_16 rfl (sn_iload_n (pc := 17) (i := 3) dX8_tells_17 rfl (sn_iload (pc := 18) dX8_tells_18 (sn_callU2 (pc := 20) (N := M_nC_tells) (x := ⟨"ItWasLikeThat$Small", "tells", "(LItWasLikeThat$House;III)I"⟩) dX8_tells_20 (cal_nC_tells_17_1 G) sh_17 rfl rfl tw_745 tw_746 tw_74 tw_46 tw_719 tw_3 tw_748 ⟨by decide +kernel, dsc_X2_tells.2.2⟩ rfl (sn_reti (pc := 23) (R := fun x τ => (some ((x, τ)))) dX8_tells_23 rfl (fun _ _ _ _ e h => by cases e; exact h)))))))) (sn_bipush (pc := 9) (v := (-9)) dX8_tells_9 (show (Int8.ofInt (-9)).toInt32 = (-9) by decide) (sn_goto (pc := 11) (tgt := 23) dX8_tells_11 rfl (sn_reti (pc := 23) (R := fun x τ => (some ((x, τ)))) dX8_tells_23 rfl (fun _ _ _ _ e h => by cases e; exact h))))))))) _ _ _ _ _ ((eq_nI_tells_17_1 x2 x3 x4 σ).symm.trans e) hr
noncomputable def cF_nI_tells_17_1 : am_Fn := fun _ args σ K => match args with
  | [.ref q0, .ref q1, .int z2, .int z3, .int z4] => match Nat.beq q0 17, Nat.beq q1 1 with
    | true, true => (f_nI_tells_17_1 z2 z3 z4 σ).bind (fun p => K (some (.int p.1)) p.2)
    | _, _ => none
  | _ => none
theorem cal_nI_tells_17_1 (G : am_G) : am_Cal G M_nI_tells cF_nI_tells_17_1 := by
  intro ρ args σ K r e
  unfold cF_nI_tells_17_1 at e
  split at e
  · split at e
    · rename_i hq0 hq1
      obtain ⟨p, h1, h2⟩ := am_bind_some e
      rw [Nat.eq_of_beq_eq_true hq0]
      rw [Nat.eq_of_beq_eq_true hq1]
      exact ⟨some (.int p.1), p.2, am_Met.of rfl (Nat.le_of_ble_eq_true rfl) (s_nI_tells_17_1 G _ _ _ σ p _ h1 ⟨rfl, rfl⟩), h2⟩
    · cases e
  · cases e
abbrev M_H_told : am_MD := (yX3_told, cX3_told, 4, (some .int), 4, 93)
theorem dX3_told_0 : decode cX3_told 0 = .ok (.aload_n 0, 1) := by decide +kernel
theorem dX3_told_1 : decode cX3_told 1 = .ok (.iload_n 1, 1) := by decide +kernel
theorem dX3_told_2 : decode cX3_told 2 = .ok (.invokevirtual 139, 3) := by decide +kernel
theorem dX3_told_5 : decode cX3_told 5 = .ok (.ifCond .eq 19, 3) := by decide +kernel
theorem dX3_told_8 : decode cX3_told 8 = .ok (.aload_n 0, 1) := by decide +kernel
theorem dX3_told_9 : decode cX3_told 9 = .ok (.iload_n 2, 1) := by decide +kernel
theorem dX3_told_10 : decode cX3_told 10 = .ok (.invokevirtual 139, 3) := by decide +kernel
theorem dX3_told_13 : decode cX3_told 13 = .ok (.ifCond .eq 11, 3) := by decide +kernel
theorem dX3_told_16 : decode cX3_told 16 = .ok (.aload_n 0, 1) := by decide +kernel
theorem dX3_told_17 : decode cX3_told 17 = .ok (.iload_n 3, 1) := by decide +kernel
theorem dX3_told_18 : decode cX3_told 18 = .ok (.invokevirtual 142, 3) := by decide +kernel
theorem dX3_told_21 : decode cX3_told 21 = .ok (.ifCond .ne 6, 3) := by decide +kernel
theorem dX3_told_24 : decode cX3_told 24 = .ok (.bipush (-9), 2) := by decide +kernel
theorem dX3_told_26 : decode cX3_told 26 = .ok (.ireturn, 1) := by decide +kernel
theorem dX3_told_27 : decode cX3_told 27 = .ok (.aload_n 0, 1) := by decide +kernel
theorem dX3_told_28 : decode cX3_told 28 = .ok (.iload_n 1, 1) := by decide +kernel
theorem dX3_told_29 : decode cX3_told 29 = .ok (.invokevirtual 116, 3) := by decide +kernel
theorem dX3_told_32 : decode cX3_told 32 = .ok (.aload_n 0, 1) := by decide +kernel
theorem dX3_told_33 : decode cX3_told 33 = .ok (.iload_n 1, 1) := by decide +kernel
theorem dX3_told_34 : decode cX3_told 34 = .ok (.iload_n 2, 1) := by decide +kernel
theorem dX3_told_35 : decode cX3_told 35 = .ok (.iload_n 3, 1) := by decide +kernel
theorem dX3_told_36 : decode cX3_told 36 = .ok (.invokevirtual 145, 3) := by decide +kernel
theorem dX3_told_39 : decode cX3_told 39 = .ok (.ireturn, 1) := by decide +kernel
noncomputable def g_H_told_1_27 (x1 : Int32) (x2 : Int32) (x3 : Int32) (σ : am_St) : Option (Int32 × am_St) :=
  (f_H_natureOf_1 x1 σ).bind (fun p1 =>
    if p1.1 = 12 then
      (f_nC_tells_12_1 x1 x2 x3 p1.2).bind (fun p2 =>
        some ((p2.1, p2.2)))
    else
    if p1.1 = 13 then
      (f_nC_tells_13_1 x1 x2 x3 p1.2).bind (fun p3 =>
        some ((p3.1, p3.2)))
    else
    if p1.1 = 14 then
      (f_nC_tells_14_1 x1 x2 x3 p1.2).bind (fun p4 =>
        some ((p4.1, p4.2)))
    else
    if p1.1 = 15 then
      (f_nB_tells_15_1 x1 x2 x3 p1.2).bind (fun p5 =>
        some ((p5.1, p5.2)))
    else
    if p1.1 = 16 then
      (f_nD_tells_16_1 x1 x2 x3 p1.2).bind (fun p6 =>
        some ((p6.1, p6.2)))
    else
    if p1.1 = 17 then
      (f_nI_tells_17_1 x1 x2 x3 p1.2).bind (fun p7 =>
        some ((p7.1, p7.2)))
    else
      none)
noncomputable def f_H_told_1_27 (x1 : Int32) (x2 : Int32) (x3 : Int32) (σ : am_St) : Option (Int32 × am_St) := am_lk (g_H_told_1_27 x1 x2 x3 σ)
theorem eq_H_told_1_27 (x1 : Int32) (x2 : Int32) (x3 : Int32) (σ : am_St) : f_H_told_1_27 x1 x2 x3 σ = g_H_told_1_27 x1 x2 x3 σ := am_lk_eq _
set_option maxRecDepth 100000 in
set_option maxHeartbeats 4000000 in
theorem s_H_told_1_27 (G : am_G) (x1 : Int32) (x2 : Int32) (x3 : Int32) (σ : am_St) (r : Int32 × am_St) (Q : am_AQ) (e : f_H_told_1_27 x1 x2 x3 σ = some r) (hr : am_Pi r Q) : am_AW G M_H_told 27 [(3, .int x3), (2, .int x2), (1, .int x1), (0, .ref 1)] [] σ Q :=
  (show am_Snd G M_H_told 27 am_Pi _ from (sn_aload_n (pc := 27) (i := 0) dX3_told_27 rfl (sn_iload_n (pc := 28) (i := 1) dX3_told_28 rfl (sn_callV (pc := 29) (N := M_H_natureOf) dX3_told_29 (cal_H_natureOf_1 G) sh_1 rfl tw_455 tw_457 tp_15 tw_2 tw_458 dsc_X3_natureOf rfl (sn_aload_n (pc := 32) (i := 0) dX3_told_32 rfl (sn_iload_n (pc := 33) (i := 1) dX3_told_33 rfl (sn_iload_n (pc := 34) (i := 2) dX3_told_34 rfl (sn_iload_n (pc := 35) (i := 3) dX3_told_35 rfl (sn_spl (n := 4) (c0 := 12) (sn_callV (pc := 36) (N := M_nC_tells) dX3_told_36 (cal_nC_tells_12_1 G) sh_12 rfl tw_718 tw_719 tw_720 tw_3 tw_748 dsc_X2_tells rfl (sn_reti (pc := 39) (R := fun x τ => (some ((x, τ)))) dX3_told_39 rfl (fun _ _ _ _ e h => by cases e; exact h))) (sn_spl (n := 4) (c0 := 13) (sn_callO (pc := 36) (N := M_nC_tells) dX3_told_36 (cal_nC_tells_13_1 G) sh_13 rfl tw_718 tw_721 tw_719 tw_748 tw_719 tw_747 tw_3 tw_748 dsc_X2_tells rfl (sn_reti (pc := 39) (R := fun x τ => (some ((x, τ)))) dX3_told_39 rfl (fun _ _ _ _ e h => by cases e; exact h))) (sn_spl (n := 4) (c0 := 14) (sn_callO (pc := 36) (N := M_nC_tells) dX3_told_36 (cal_nC_tells_14_1 G) sh_14 rfl tw_718 tw_721 tw_719 tw_748 tw_719 tw_741 tw_3 tw_748 dsc_X2_tells rfl (sn_reti (pc := 39) (R := fun x τ => (some ((x, τ)))) dX3_told_39 rfl (fun _ _ _ _ e h => by cases e; exact h))) (sn_spl (n := 4) (c0 := 15) (sn_callO (pc := 36) (N := M_nB_tells) dX3_told_36 (cal_nB_tells_15_1 G) sh_15 rfl tw_718 tw_721 tw_719 tw_748 tw_728 tw_727 tw_6 tw_729 dsc_X2_tells rfl (sn_reti (pc := 39) (R := fun x τ => (some ((x, τ)))) dX3_told_39 rfl (fun _ _ _ _ e h => by cases e; exact h))) (sn_spl (n := 4) (c0 := 16) (sn_callO (pc := 36) (N := M_nD_tells) dX3_told_36 (cal_nD_tells_16_1 G) sh_16 rfl tw_718 tw_721 tw_719 tw_748 tw_723 tw_722 tw_7 tw_724 dsc_X2_tells rfl (sn_reti (pc := 39) (R := fun x τ => (some ((x, τ)))) dX3_told_39 rfl (fun _ _ _ _ e h => by cases e; exact h))) (sn_spl (n := 4) (c0 := 17) (sn_callO (pc := 36) (N := M_nI_tells) dX3_told_36 (cal_nI_tells_17_1 G) sh_17 rfl tw_718 tw_721 tw_719 tw_748 tw_743 tw_742 tw_8 tw_744 dsc_X2_tells rfl (sn_reti (pc := 39) (R := fun x τ => (some ((x, τ)))) dX3_told_39 rfl (fun _ _ _ _ e h => by cases e; exact h))) sn_no)))))))))))))) _ _ _ _ _ ((eq_H_told_1_27 x1 x2 x3 σ).symm.trans e) hr
noncomputable def g_H_told_1 (x1 : Int32) (x2 : Int32) (x3 : Int32) (σ : am_St) : Option (Int32 × am_St) :=
  (f_H_hasChild_1 x1 σ).bind (fun p1 =>
    if p1.1 = 0 then
      some (((-9), p1.2))
    else
      (f_H_hasChild_1 x2 p1.2).bind (fun p2 =>
        if p2.1 = 0 then
          some (((-9), p2.2))
        else
          (f_H_hasMinute_1 x3 p2.2).bind (fun p3 =>
            if p3.1 = 0 then
              some (((-9), p3.2))
            else
              f_H_told_1_27 x1 x2 x3 p3.2)))
noncomputable def f_H_told_1 (x1 : Int32) (x2 : Int32) (x3 : Int32) (σ : am_St) : Option (Int32 × am_St) := am_lk (g_H_told_1 x1 x2 x3 σ)
theorem eq_H_told_1 (x1 : Int32) (x2 : Int32) (x3 : Int32) (σ : am_St) : f_H_told_1 x1 x2 x3 σ = g_H_told_1 x1 x2 x3 σ := am_lk_eq _
set_option maxRecDepth 100000 in
set_option maxHeartbeats 4000000 in
theorem s_H_told_1 (G : am_G) (x1 : Int32) (x2 : Int32) (x3 : Int32) (σ : am_St) (r : Int32 × am_St) (Q : am_AQ) (e : f_H_told_1 x1 x2 x3 σ = some r) (hr : am_Pi r Q) : am_AW G M_H_told 0 [(0, .ref 1), (1, .int x1), (2, .int x2), (3, .int x3)] [] σ Q :=
  (show am_Snd G M_H_told 0 am_Pi _ from (sn_aload_n (pc := 0) (i := 0) dX3_told_0 rfl (sn_iload_n (pc := 1) (i := 1) dX3_told_1 rfl (sn_callV (pc := 2) (N := M_H_hasChild) dX3_told_2 (cal_H_hasChild_1 G) sh_1 rfl tw_396 tw_385 tw_386 tw_2 tw_387 dsc_X3_hasChild rfl (sn_if_eq (pc := 5) (tgt := 24) dX3_told_5 rfl (sn_bipush (pc := 24) (v := (-9)) dX3_told_24 (show (Int8.ofInt (-9)).toInt32 = (-9) by decide) (sn_reti (pc := 26) (R := fun x τ => (some ((x, τ)))) dX3_told_26 rfl (fun _ _ _ _ e h => by cases e; exact h))) (sn_aload_n (pc := 8) (i := 0) dX3_told_8 rfl (sn_iload_n (pc := 9) (i := 2) dX3_told_9 rfl (sn_callV (pc := 10) (N := M_H_hasChild) dX3_told_10 (cal_H_hasChild_1 G) sh_1 rfl tw_396 tw_385 tw_386 tw_2 tw_387 dsc_X3_hasChild rfl (sn_if_eq (pc := 13) (tgt := 24) dX3_told_13 rfl (sn_bipush (pc := 24) (v := (-9)) dX3_told_24 (show (Int8.ofInt (-9)).toInt32 = (-9) by decide) (sn_reti (pc := 26) (R := fun x τ => (some ((x, τ)))) dX3_told_26 rfl (fun _ _ _ _ e h => by cases e; exact h))) (sn_aload_n (pc := 16) (i := 0) dX3_told_16 rfl (sn_iload_n (pc := 17) (i := 3) dX3_told_17 rfl (sn_callV (pc := 18) (N := M_H_hasMinute) dX3_told_18 (cal_H_hasMinute_1 G) sh_1 rfl tw_397 tw_398 tw_399 tw_2 tw_400 dsc_X3_hasMinute rfl (sn_if_ne (pc := 21) (tgt := 27) dX3_told_21 rfl (sn_lf (pc := 27) (ln_a (i := 0) (q := 1) (ln_i (i := 1) (fun z0 => (ln_i (i := 2) (fun z1 => (ln_i (i := 3) (fun z2 => (ln_end (o := fun τ => f_H_told_1_27 z0 z1 z2 τ) (fun _ _ _ e h => s_H_told_1_27 G z0 z1 z2 _ _ _ e h)))))))))) (sn_bipush (pc := 24) (v := (-9)) dX3_told_24 (show (Int8.ofInt (-9)).toInt32 = (-9) by decide) (sn_reti (pc := 26) (R := fun x τ => (some ((x, τ)))) dX3_told_26 rfl (fun _ _ _ _ e h => by cases e; exact h)))))))))))))))) _ _ _ _ _ ((eq_H_told_1 x1 x2 x3 σ).symm.trans e) hr
noncomputable def cF_H_told_1 : am_Fn := fun _ args σ K => match args with
  | [.ref q0, .int z1, .int z2, .int z3] => match Nat.beq q0 1 with
    | true => (f_H_told_1 z1 z2 z3 σ).bind (fun p => K (some (.int p.1)) p.2)
    | _ => none
  | _ => none
theorem cal_H_told_1 (G : am_G) : am_Cal G M_H_told cF_H_told_1 := by
  intro ρ args σ K r e
  unfold cF_H_told_1 at e
  split at e
  · split at e
    · rename_i hq0
      obtain ⟨p, h1, h2⟩ := am_bind_some e
      rw [Nat.eq_of_beq_eq_true hq0]
      exact ⟨some (.int p.1), p.2, am_Met.of rfl (Nat.le_of_ble_eq_true rfl) (s_H_told_1 G _ _ _ σ p _ h1 ⟨rfl, rfl⟩), h2⟩
    · cases e
  · cases e
abbrev M_X_ask : am_MD := (yX11_ask, cX11_ask, 6, (some .int), 5, 116)
theorem dX11_ask_0 : decode cX11_ask 0 = .ok (.aload_n 0, 1) := by decide +kernel
theorem dX11_ask_1 : decode cX11_ask 1 = .ok (.getfield 10, 3) := by decide +kernel
theorem dX11_ask_4 : decode cX11_ask 4 = .ok (.iload_n 1, 1) := by decide +kernel
theorem dX11_ask_5 : decode cX11_ask 5 = .ok (.invokevirtual 81, 3) := by decide +kernel
theorem dX11_ask_8 : decode cX11_ask 8 = .ok (.ifCond .eq 12, 3) := by decide +kernel
theorem dX11_ask_11 : decode cX11_ask 11 = .ok (.aload_n 0, 1) := by decide +kernel
theorem dX11_ask_12 : decode cX11_ask 12 = .ok (.iload_n 2, 1) := by decide +kernel
theorem dX11_ask_13 : decode cX11_ask 13 = .ok (.iload_n 3, 1) := by decide +kernel
theorem dX11_ask_14 : decode cX11_ask 14 = .ok (.invokevirtual 129, 3) := by decide +kernel
theorem dX11_ask_17 : decode cX11_ask 17 = .ok (.ifCond .ne 9, 3) := by decide +kernel
theorem dX11_ask_20 : decode cX11_ask 20 = .ok (.aload_n 0, 1) := by decide +kernel
theorem dX11_ask_21 : decode cX11_ask 21 = .ok (.iconst (-1), 1) := by decide +kernel
theorem dX11_ask_22 : decode cX11_ask 22 = .ok (.invokevirtual 55, 3) := by decide +kernel
theorem dX11_ask_25 : decode cX11_ask 25 = .ok (.ireturn, 1) := by decide +kernel
theorem dX11_ask_26 : decode cX11_ask 26 = .ok (.aload_n 0, 1) := by decide +kernel
theorem dX11_ask_27 : decode cX11_ask 27 = .ok (.getfield 10, 3) := by decide +kernel
theorem dX11_ask_30 : decode cX11_ask 30 = .ok (.iload_n 1, 1) := by decide +kernel
theorem dX11_ask_31 : decode cX11_ask 31 = .ok (.iload_n 2, 1) := by decide +kernel
theorem dX11_ask_32 : decode cX11_ask 32 = .ok (.iload_n 3, 1) := by decide +kernel
theorem dX11_ask_33 : decode cX11_ask 33 = .ok (.invokevirtual 221, 3) := by decide +kernel
theorem dX11_ask_36 : decode cX11_ask 36 = .ok (.istore 5, 2) := by decide +kernel
theorem dX11_ask_38 : decode cX11_ask 38 = .ok (.iload 4, 2) := by decide +kernel
theorem dX11_ask_40 : decode cX11_ask 40 = .ok (.tableswitch 95 0 2 #[28, 31, 54], 28) := by decide +kernel
theorem dX11_ask_68 : decode cX11_ask 68 = .ok (.iload 5, 2) := by decide +kernel
theorem dX11_ask_70 : decode cX11_ask 70 = .ok (.ireturn, 1) := by decide +kernel
theorem dX11_ask_71 : decode cX11_ask 71 = .ok (.iload 5, 2) := by decide +kernel
theorem dX11_ask_73 : decode cX11_ask 73 = .ok (.aload_n 0, 1) := by decide +kernel
theorem dX11_ask_74 : decode cX11_ask 74 = .ok (.getfield 10, 3) := by decide +kernel
theorem dX11_ask_77 : decode cX11_ask 77 = .ok (.iload_n 2, 1) := by decide +kernel
theorem dX11_ask_78 : decode cX11_ask 78 = .ok (.iload_n 3, 1) := by decide +kernel
theorem dX11_ask_79 : decode cX11_ask 79 = .ok (.invokevirtual 106, 3) := by decide +kernel
theorem dX11_ask_82 : decode cX11_ask 82 = .ok (.if_icmp .ne 7, 3) := by decide +kernel
theorem dX11_ask_85 : decode cX11_ask 85 = .ok (.iconst 1, 1) := by decide +kernel
theorem dX11_ask_86 : decode cX11_ask 86 = .ok (.goto 4, 3) := by decide +kernel
theorem dX11_ask_89 : decode cX11_ask 89 = .ok (.iconst 0, 1) := by decide +kernel
theorem dX11_ask_90 : decode cX11_ask 90 = .ok (.invokestatic 117, 3) := by decide +kernel
theorem dX11_ask_93 : decode cX11_ask 93 = .ok (.ireturn, 1) := by decide +kernel
theorem dX11_ask_94 : decode cX11_ask 94 = .ok (.aload_n 0, 1) := by decide +kernel
theorem dX11_ask_95 : decode cX11_ask 95 = .ok (.getfield 33, 3) := by decide +kernel
theorem dX11_ask_98 : decode cX11_ask 98 = .ok (.aload_n 0, 1) := by decide +kernel
theorem dX11_ask_99 : decode cX11_ask 99 = .ok (.getfield 10, 3) := by decide +kernel
theorem dX11_ask_102 : decode cX11_ask 102 = .ok (.iload_n 2, 1) := by decide +kernel
theorem dX11_ask_103 : decode cX11_ask 103 = .ok (.invokevirtual 155, 3) := by decide +kernel
theorem dX11_ask_106 : decode cX11_ask 106 = .ok (.iload 5, 2) := by decide +kernel
theorem dX11_ask_108 : decode cX11_ask 108 = .ok (.bipush (-9), 2) := by decide +kernel
theorem dX11_ask_110 : decode cX11_ask 110 = .ok (.if_icmp .eq 20, 3) := by decide +kernel
theorem dX11_ask_113 : decode cX11_ask 113 = .ok (.aload_n 0, 1) := by decide +kernel
theorem dX11_ask_114 : decode cX11_ask 114 = .ok (.getfield 33, 3) := by decide +kernel
theorem dX11_ask_117 : decode cX11_ask 117 = .ok (.iload_n 3, 1) := by decide +kernel
theorem dX11_ask_118 : decode cX11_ask 118 = .ok (.iload 5, 2) := by decide +kernel
theorem dX11_ask_120 : decode cX11_ask 120 = .ok (.invokevirtual 168, 3) := by decide +kernel
theorem dX11_ask_123 : decode cX11_ask 123 = .ok (.ifCond .ne 7, 3) := by decide +kernel
theorem dX11_ask_126 : decode cX11_ask 126 = .ok (.iconst 1, 1) := by decide +kernel
theorem dX11_ask_127 : decode cX11_ask 127 = .ok (.goto 4, 3) := by decide +kernel
theorem dX11_ask_130 : decode cX11_ask 130 = .ok (.iconst 0, 1) := by decide +kernel
theorem dX11_ask_131 : decode cX11_ask 131 = .ok (.invokestatic 117, 3) := by decide +kernel
theorem dX11_ask_134 : decode cX11_ask 134 = .ok (.ireturn, 1) := by decide +kernel
theorem dX11_ask_135 : decode cX11_ask 135 = .ok (.aload_n 0, 1) := by decide +kernel
theorem dX11_ask_136 : decode cX11_ask 136 = .ok (.bipush (-2), 2) := by decide +kernel
theorem dX11_ask_138 : decode cX11_ask 138 = .ok (.invokevirtual 55, 3) := by decide +kernel
theorem dX11_ask_141 : decode cX11_ask 141 = .ok (.ireturn, 1) := by decide +kernel
noncomputable def g_X_ask_20 (σ : am_St) : Option (Int32 × am_St) :=
  (f_X_refuse (-1) σ).bind (fun p1 =>
    some ((p1.1, p1.2)))
noncomputable def f_X_ask_20 (σ : am_St) : Option (Int32 × am_St) := am_lk (g_X_ask_20  σ)
theorem eq_X_ask_20 (σ : am_St) : f_X_ask_20  σ = g_X_ask_20  σ := am_lk_eq _
set_option maxRecDepth 100000 in
set_option maxHeartbeats 4000000 in
theorem s_X_ask_20 (G : am_G) (σ : am_St) (r : Int32 × am_St) (Q : am_AQ) (e : f_X_ask_20  σ = some r) (hr : am_Pi r Q) : am_AW G M_X_ask 20 [(0, .ref 0)] [] σ Q :=
  (show am_Snd G M_X_ask 20 am_Pi _ from (sn_aload_n (pc := 20) (i := 0) dX11_ask_20 rfl (sn_iconst (pc := 21) (v := (-1)) dX11_ask_21 (show Int32.ofInt (-1) = (-1) by decide) (sn_callV (pc := 22) (N := M_X_refuse) dX11_ask_22 (cal_X_refuse G) sh_0 rfl tw_251 tw_253 tp_0 tw_1 tw_254 dsc_X11_refuse rfl (sn_reti (pc := 25) (R := fun x τ => (some ((x, τ)))) dX11_ask_25 rfl (fun _ _ _ _ e h => by cases e; exact h)))))) _ _ _ _ _ ((eq_X_ask_20  σ).symm.trans e) hr
noncomputable def g_X_ask_90 (y0 : Int32) (σ : am_St) : Option (Int32 × am_St) :=
  (f_X_bit y0 σ).bind (fun p1 =>
    some ((p1.1, p1.2)))
noncomputable def f_X_ask_90 (y0 : Int32) (σ : am_St) : Option (Int32 × am_St) := am_lk (g_X_ask_90 y0 σ)
theorem eq_X_ask_90 (y0 : Int32) (σ : am_St) : f_X_ask_90 y0 σ = g_X_ask_90 y0 σ := am_lk_eq _
set_option maxRecDepth 100000 in
set_option maxHeartbeats 4000000 in
theorem s_X_ask_90 (G : am_G) (y0 : Int32) (σ : am_St) (r : Int32 × am_St) (Q : am_AQ) (e : f_X_ask_90 y0 σ = some r) (hr : am_Pi r Q) : am_AW G M_X_ask 90 [] [.int y0] σ Q :=
  (show am_Snd G M_X_ask 90 am_Pi _ from (sn_callS (pc := 90) (N := M_X_bit) dX11_ask_90 (cal_X_bit G) tw_531 tw_412 tw_1 tw_413 dsc_X11_bit rfl (sn_reti (pc := 93) (R := fun x τ => (some ((x, τ)))) dX11_ask_93 rfl (fun _ _ _ _ e h => by cases e; exact h)))) _ _ _ _ _ ((eq_X_ask_90 y0 σ).symm.trans e) hr
noncomputable def g_X_ask_131 (y0 : Int32) (σ : am_St) : Option (Int32 × am_St) :=
  (f_X_bit y0 σ).bind (fun p1 =>
    some ((p1.1, p1.2)))
noncomputable def f_X_ask_131 (y0 : Int32) (σ : am_St) : Option (Int32 × am_St) := am_lk (g_X_ask_131 y0 σ)
theorem eq_X_ask_131 (y0 : Int32) (σ : am_St) : f_X_ask_131 y0 σ = g_X_ask_131 y0 σ := am_lk_eq _
set_option maxRecDepth 100000 in
set_option maxHeartbeats 4000000 in
theorem s_X_ask_131 (G : am_G) (y0 : Int32) (σ : am_St) (r : Int32 × am_St) (Q : am_AQ) (e : f_X_ask_131 y0 σ = some r) (hr : am_Pi r Q) : am_AW G M_X_ask 131 [] [.int y0] σ Q :=
  (show am_Snd G M_X_ask 131 am_Pi _ from (sn_callS (pc := 131) (N := M_X_bit) dX11_ask_131 (cal_X_bit G) tw_531 tw_412 tw_1 tw_413 dsc_X11_bit rfl (sn_reti (pc := 134) (R := fun x τ => (some ((x, τ)))) dX11_ask_134 rfl (fun _ _ _ _ e h => by cases e; exact h)))) _ _ _ _ _ ((eq_X_ask_131 y0 σ).symm.trans e) hr
noncomputable def g_X_ask_126 (σ : am_St) : Option (Int32 × am_St) :=
  f_X_ask_131 1 σ
noncomputable def f_X_ask_126 (σ : am_St) : Option (Int32 × am_St) := am_lk (g_X_ask_126  σ)
theorem eq_X_ask_126 (σ : am_St) : f_X_ask_126  σ = g_X_ask_126  σ := am_lk_eq _
set_option maxRecDepth 100000 in
set_option maxHeartbeats 4000000 in
theorem s_X_ask_126 (G : am_G) (σ : am_St) (r : Int32 × am_St) (Q : am_AQ) (e : f_X_ask_126  σ = some r) (hr : am_Pi r Q) : am_AW G M_X_ask 126 [] [] σ Q :=
  (show am_Snd G M_X_ask 126 am_Pi _ from (sn_iconst (pc := 126) (v := 1) dX11_ask_126 rfl (sn_goto (pc := 127) (tgt := 131) dX11_ask_127 rfl (sn_lf (pc := 131) (ln_si (fun w0 => (ln_end (o := fun τ => f_X_ask_131 w0 τ) (fun _ _ _ e h => s_X_ask_131 G w0 _ _ _ e h)))))))) _ _ _ _ _ ((eq_X_ask_126  σ).symm.trans e) hr
noncomputable def g_X_ask_130 (σ : am_St) : Option (Int32 × am_St) :=
  f_X_ask_131 0 σ
noncomputable def f_X_ask_130 (σ : am_St) : Option (Int32 × am_St) := am_lk (g_X_ask_130  σ)
theorem eq_X_ask_130 (σ : am_St) : f_X_ask_130  σ = g_X_ask_130  σ := am_lk_eq _
set_option maxRecDepth 100000 in
set_option maxHeartbeats 4000000 in
theorem s_X_ask_130 (G : am_G) (σ : am_St) (r : Int32 × am_St) (Q : am_AQ) (e : f_X_ask_130  σ = some r) (hr : am_Pi r Q) : am_AW G M_X_ask 130 [] [] σ Q :=
  (show am_Snd G M_X_ask 130 am_Pi _ from (sn_iconst (pc := 130) (v := 0) dX11_ask_130 rfl (sn_lf (pc := 131) (ln_si (fun w0 => (ln_end (o := fun τ => f_X_ask_131 w0 τ) (fun _ _ _ e h => s_X_ask_131 G w0 _ _ _ e h))))))) _ _ _ _ _ ((eq_X_ask_130  σ).symm.trans e) hr
noncomputable def g_X_ask_38 (x2 : Int32) (x3 : Int32) (x4 : Int32) (x5 : Int32) (σ : am_St) : Option (Int32 × am_St) :=
  if x4 = 0 then
    some ((x5, σ))
  else
  if x4 = 1 then
    (f_H_placeOf_1 x2 x3 σ).bind (fun p1 =>
      if x5 = p1.1 then
        f_X_ask_90 1 p1.2
      else
        f_X_ask_90 0 p1.2)
  else
  if x4 = 2 then
    (f_W_look_1 x2 σ).bind (fun p2 =>
      if x5 = (-9) then
        f_X_ask_130 p2
      else
        (f_W_through x3 x5 p2).bind (fun p3 =>
          if p3.1 = 0 then
            f_X_ask_126 p3.2
          else
            f_X_ask_130 p3.2))
  else
  (f_X_refuse (-2) σ).bind (fun p4 =>
    some ((p4.1, p4.2)))
noncomputable def f_X_ask_38 (x2 : Int32) (x3 : Int32) (x4 : Int32) (x5 : Int32) (σ : am_St) : Option (Int32 × am_St) := am_lk (g_X_ask_38 x2 x3 x4 x5 σ)
theorem eq_X_ask_38 (x2 : Int32) (x3 : Int32) (x4 : Int32) (x5 : Int32) (σ : am_St) : f_X_ask_38 x2 x3 x4 x5 σ = g_X_ask_38 x2 x3 x4 x5 σ := am_lk_eq _
set_option maxRecDepth 100000 in
set_option maxHeartbeats 4000000 in
theorem s_X_ask_38 (G : am_G) (x2 : Int32) (x3 : Int32) (x4 : Int32) (x5 : Int32) (σ : am_St) (r : Int32 × am_St) (Q : am_AQ) (e : f_X_ask_38 x2 x3 x4 x5 σ = some r) (hr : am_Pi r Q) : am_AW G M_X_ask 38 [(5, .int x5), (4, .int x4), (3, .int x3), (2, .int x2), (0, .ref 0)] [] σ Q :=
  (show am_Snd G M_X_ask 38 am_Pi _ from (sn_iload (pc := 38) dX11_ask_38 (sn_tsw (pc := 40) (dt := 135) (vs := [0, 1, 2]) (ts := [68, 71, 94]) dX11_ask_40 (by decide +kernel) (sn_aload_n (pc := 135) (i := 0) dX11_ask_135 rfl (sn_bipush (pc := 136) (v := (-2)) dX11_ask_136 (show (Int8.ofInt (-2)).toInt32 = (-2) by decide) (sn_callV (pc := 138) (N := M_X_refuse) dX11_ask_138 (cal_X_refuse G) sh_0 rfl tw_251 tw_253 tp_0 tw_1 tw_254 dsc_X11_refuse rfl (sn_reti (pc := 141) (R := fun x τ => (some ((x, τ)))) dX11_ask_141 rfl (fun _ _ _ _ e h => by cases e; exact h))))) (am_all_cons (sn_iload (pc := 68) dX11_ask_68 (sn_reti (pc := 70) (R := fun x τ => (some ((x, τ)))) dX11_ask_70 rfl (fun _ _ _ _ e h => by cases e; exact h))) (am_all_cons (sn_iload (pc := 71) dX11_ask_71 (sn_aload_n (pc := 73) (i := 0) dX11_ask_73 rfl (sn_gR (r0 := 1) (pc := 74) (h := 0) (f := 0) dX11_ask_74 am_CL_10 sh_0 rfl (Nat.le_of_ble_eq_true rfl) tw_219 (sn_iload_n (pc := 77) (i := 2) dX11_ask_77 rfl (sn_iload_n (pc := 78) (i := 3) dX11_ask_78 rfl (sn_callV (pc := 79) (N := M_H_placeOf) dX11_ask_79 (cal_H_placeOf_1 G) sh_1 rfl tw_521 tw_522 tw_523 tw_2 tw_524 dsc_X3_placeOf rfl (sn_icmp_ne (pc := 82) (tgt := 89) dX11_ask_82 rfl (sn_iconst (pc := 89) (v := 0) dX11_ask_89 rfl (sn_lf (pc := 90) (ln_si (fun w0 => (ln_end (o := fun τ => f_X_ask_90 w0 τ) (fun _ _ _ e h => s_X_ask_90 G w0 _ _ _ e h)))))) (sn_iconst (pc := 85) (v := 1) dX11_ask_85 rfl (sn_goto (pc := 86) (tgt := 90) dX11_ask_86 rfl (sn_lf (pc := 90) (ln_si (fun w0 => (ln_end (o := fun τ => f_X_ask_90 w0 τ) (fun _ _ _ e h => s_X_ask_90 G w0 _ _ _ e h)))))))))))))) (am_all_cons (sn_aload_n (pc := 94) (i := 0) dX11_ask_94 rfl (sn_gR (r0 := 54) (pc := 95) (h := 0) (f := 4) dX11_ask_95 am_CL_10 sh_0 rfl (Nat.le_of_ble_eq_true rfl) tw_223 (sn_aload_n (pc := 98) (i := 0) dX11_ask_98 rfl (sn_gR (r0 := 1) (pc := 99) (h := 0) (f := 0) dX11_ask_99 am_CL_10 sh_0 rfl (Nat.le_of_ble_eq_true rfl) tw_219 (sn_iload_n (pc := 102) (i := 2) dX11_ask_102 rfl (sn_callV (pc := 103) (N := M_W_look) dX11_ask_103 (cal_W_look_1 G) sh_54 rfl tw_578 tw_579 tw_580 tw_10 tw_581 dsc_X10_look rfl (sn_iload (pc := 106) dX11_ask_106 (sn_bipush (pc := 108) (v := (-9)) dX11_ask_108 (show (Int8.ofInt (-9)).toInt32 = (-9) by decide) (sn_icmp_eq (pc := 110) (tgt := 130) dX11_ask_110 rfl (sn_lf (pc := 130) (ln_end (o := fun τ => f_X_ask_130 τ) (fun _ _ _ e h => s_X_ask_130 G  _ _ _ e h))) (sn_aload_n (pc := 113) (i := 0) dX11_ask_113 rfl (sn_gR (r0 := 54) (pc := 114) (h := 0) (f := 4) dX11_ask_114 am_CL_10 sh_0 rfl (Nat.le_of_ble_eq_true rfl) tw_223 (sn_iload_n (pc := 117) (i := 3) dX11_ask_117 rfl (sn_iload (pc := 118) dX11_ask_118 (sn_callV (pc := 120) (N := M_W_through) dX11_ask_120 (cal_W_through G) sh_54 rfl tw_583 tw_584 tw_585 tw_10 tw_586 dsc_X10_through rfl (sn_if_ne (pc := 123) (tgt := 130) dX11_ask_123 rfl (sn_lf (pc := 130) (ln_end (o := fun τ => f_X_ask_130 τ) (fun _ _ _ e h => s_X_ask_130 G  _ _ _ e h))) (sn_lf (pc := 126) (ln_end (o := fun τ => f_X_ask_126 τ) (fun _ _ _ e h => s_X_ask_126 G  _ _ _ e h)))))))))))))))))) am_all_nil)))))) _ _ _ _ _ ((eq_X_ask_38 x2 x3 x4 x5 σ).symm.trans e) hr
noncomputable def g_X_ask (x1 : Int32) (x2 : Int32) (x3 : Int32) (x4 : Int32) (σ : am_St) : Option (Int32 × am_St) :=
  (f_H_hasChild_1 x1 σ).bind (fun p1 =>
    if p1.1 = 0 then
      f_X_ask_20 p1.2
    else
      (f_X_isPoint x2 x3 p1.2).bind (fun p2 =>
        if p2.1 = 0 then
          f_X_ask_20 p2.2
        else
          (f_H_told_1 x1 x2 x3 p2.2).bind (fun p3 =>
            f_X_ask_38 x2 x3 x4 p3.1 p3.2)))
noncomputable def f_X_ask (x1 : Int32) (x2 : Int32) (x3 : Int32) (x4 : Int32) (σ : am_St) : Option (Int32 × am_St) := am_lk (g_X_ask x1 x2 x3 x4 σ)
theorem eq_X_ask (x1 : Int32) (x2 : Int32) (x3 : Int32) (x4 : Int32) (σ : am_St) : f_X_ask x1 x2 x3 x4 σ = g_X_ask x1 x2 x3 x4 σ := am_lk_eq _
set_option maxRecDepth 100000 in
set_option maxHeartbeats 4000000 in
theorem s_X_ask (G : am_G) (x1 : Int32) (x2 : Int32) (x3 : Int32) (x4 : Int32) (σ : am_St) (r : Int32 × am_St) (Q : am_AQ) (e : f_X_ask x1 x2 x3 x4 σ = some r) (hr : am_Pi r Q) : am_AW G M_X_ask 0 [(0, .ref 0), (1, .int x1), (2, .int x2), (3, .int x3), (4, .int x4)] [] σ Q :=
  (show am_Snd G M_X_ask 0 am_Pi _ from (sn_aload_n (pc := 0) (i := 0) dX11_ask_0 rfl (sn_gR (r0 := 1) (pc := 1) (h := 0) (f := 0) dX11_ask_1 am_CL_10 sh_0 rfl (Nat.le_of_ble_eq_true rfl) tw_219 (sn_iload_n (pc := 4) (i := 1) dX11_ask_4 rfl (sn_callV (pc := 5) (N := M_H_hasChild) dX11_ask_5 (cal_H_hasChild_1 G) sh_1 rfl tw_434 tw_385 tw_386 tw_2 tw_387 dsc_X3_hasChild rfl (sn_if_eq (pc := 8) (tgt := 20) dX11_ask_8 rfl (sn_lf (pc := 20) (ln_a (i := 0) (q := 0) (ln_end (o := fun τ => f_X_ask_20 τ) (fun _ _ _ e h => s_X_ask_20 G  _ _ _ e h)))) (sn_aload_n (pc := 11) (i := 0) dX11_ask_11 rfl (sn_iload_n (pc := 12) (i := 2) dX11_ask_12 rfl (sn_iload_n (pc := 13) (i := 3) dX11_ask_13 rfl (sn_callV (pc := 14) (N := M_X_isPoint) dX11_ask_14 (cal_X_isPoint G) sh_0 rfl tw_545 tw_547 tp_16 tw_1 tw_548 dsc_X11_isPoint rfl (sn_if_ne (pc := 17) (tgt := 26) dX11_ask_17 rfl (sn_aload_n (pc := 26) (i := 0) dX11_ask_26 rfl (sn_gR (r0 := 1) (pc := 27) (h := 0) (f := 0) dX11_ask_27 am_CL_10 sh_0 rfl (Nat.le_of_ble_eq_true rfl) tw_219 (sn_iload_n (pc := 30) (i := 1) dX11_ask_30 rfl (sn_iload_n (pc := 31) (i := 2) dX11_ask_31 rfl (sn_iload_n (pc := 32) (i := 3) dX11_ask_32 rfl (sn_callV (pc := 33) (N := M_H_told) dX11_ask_33 (cal_H_told_1 G) sh_1 rfl tw_714 tw_715 tw_716 tw_2 tw_717 dsc_X3_told rfl (sn_istore (pc := 36) dX11_ask_36 (Nat.le_of_ble_eq_true rfl) (sn_lf (pc := 38) (ln_a (i := 0) (q := 0) (ln_i (i := 2) (fun z0 => (ln_i (i := 3) (fun z1 => (ln_i (i := 4) (fun z2 => (ln_i (i := 5) (fun z3 => (ln_end (o := fun τ => f_X_ask_38 z0 z1 z2 z3 τ) (fun _ _ _ e h => s_X_ask_38 G z0 z1 z2 z3 _ _ _ e h))))))))))))))))))) (sn_lf (pc := 20) (ln_a (i := 0) (q := 0) (ln_end (o := fun τ => f_X_ask_20 τ) (fun _ _ _ e h => s_X_ask_20 G  _ _ _ e h))))))))))))))) _ _ _ _ _ ((eq_X_ask x1 x2 x3 x4 σ).symm.trans e) hr
noncomputable def cF_X_ask : am_Fn := fun _ args σ K => match args with
  | [.ref q0, .int z1, .int z2, .int z3, .int z4] => match Nat.beq q0 0 with
    | true => (f_X_ask z1 z2 z3 z4 σ).bind (fun p => K (some (.int p.1)) p.2)
    | _ => none
  | _ => none
theorem cal_X_ask (G : am_G) : am_Cal G M_X_ask cF_X_ask := by
  intro ρ args σ K r e
  unfold cF_X_ask at e
  split at e
  · split at e
    · rename_i hq0
      obtain ⟨p, h1, h2⟩ := am_bind_some e
      rw [Nat.eq_of_beq_eq_true hq0]
      exact ⟨some (.int p.1), p.2, am_Met.of rfl (Nat.le_of_ble_eq_true rfl) (s_X_ask G _ _ _ _ σ p _ h1 ⟨rfl, rfl⟩), h2⟩
    · cases e
  · cases e
abbrev M_W_mostLeftAt : am_MD := (yX10_mostLeftAt, cX10_mostLeftAt, 4, (some .int), 1, 23)
theorem dX10_mostLeftAt_0 : decode cX10_mostLeftAt 0 = .ok (.iconst 0, 1) := by decide +kernel
theorem dX10_mostLeftAt_1 : decode cX10_mostLeftAt 1 = .ok (.istore_n 2, 1) := by decide +kernel
theorem dX10_mostLeftAt_2 : decode cX10_mostLeftAt 2 = .ok (.iconst 0, 1) := by decide +kernel
theorem dX10_mostLeftAt_3 : decode cX10_mostLeftAt 3 = .ok (.istore_n 3, 1) := by decide +kernel
theorem dX10_mostLeftAt_4 : decode cX10_mostLeftAt 4 = .ok (.iload_n 3, 1) := by decide +kernel
theorem dX10_mostLeftAt_5 : decode cX10_mostLeftAt 5 = .ok (.aload_n 0, 1) := by decide +kernel
theorem dX10_mostLeftAt_6 : decode cX10_mostLeftAt 6 = .ok (.getfield 49, 3) := by decide +kernel
theorem dX10_mostLeftAt_9 : decode cX10_mostLeftAt 9 = .ok (.if_icmp .ge 20, 3) := by decide +kernel
theorem dX10_mostLeftAt_12 : decode cX10_mostLeftAt 12 = .ok (.iload_n 2, 1) := by decide +kernel
theorem dX10_mostLeftAt_13 : decode cX10_mostLeftAt 13 = .ok (.aload_n 0, 1) := by decide +kernel
theorem dX10_mostLeftAt_14 : decode cX10_mostLeftAt 14 = .ok (.iload_n 1, 1) := by decide +kernel
theorem dX10_mostLeftAt_15 : decode cX10_mostLeftAt 15 = .ok (.iload_n 3, 1) := by decide +kernel
theorem dX10_mostLeftAt_16 : decode cX10_mostLeftAt 16 = .ok (.invokevirtual 87, 3) := by decide +kernel
theorem dX10_mostLeftAt_19 : decode cX10_mostLeftAt 19 = .ok (.invokestatic 91, 3) := by decide +kernel
theorem dX10_mostLeftAt_22 : decode cX10_mostLeftAt 22 = .ok (.istore_n 2, 1) := by decide +kernel
theorem dX10_mostLeftAt_23 : decode cX10_mostLeftAt 23 = .ok (.iinc 3 1, 3) := by decide +kernel
theorem dX10_mostLeftAt_26 : decode cX10_mostLeftAt 26 = .ok (.goto (-22), 3) := by decide +kernel
theorem dX10_mostLeftAt_29 : decode cX10_mostLeftAt 29 = .ok (.iload_n 2, 1) := by decide +kernel
theorem dX10_mostLeftAt_30 : decode cX10_mostLeftAt 30 = .ok (.ireturn, 1) := by decide +kernel
abbrev Pl_W_mostLeftAt_4 (G : am_G) : ((Int32 × Int32 × Int32 × am_St) ⊕ (Int32 × am_St)) → am_AQ → Prop := am_PL G M_W_mostLeftAt 4 (fun s : Int32 × Int32 × Int32 × am_St => [(3, .int s.2.2.1), (2, .int s.2.1), (1, .int s.1), (0, .ref 54)]) (fun s => s.2.2.2) am_Pi
noncomputable def b_W_mostLeftAt_4 (x1 : Int32) (x2 : Int32) (x3 : Int32) (σ : am_St) : Option ((Int32 × Int32 × Int32 × am_St) ⊕ (Int32 × am_St)) :=
  if (σ.1 54 5) ≤ x3 then
    some (.inr ((x2, σ)))
  else
    (f_W_through x1 x3 σ).bind (fun p1 =>
      let v2 := am_mmax x2 p1.1
      let v3 := x3 + 1
      some (.inl (x1, v2, v3, p1.2)))
noncomputable def f_W_mostLeftAt_4 (x1 : Int32) (x2 : Int32) (x3 : Int32) (σ : am_St) : Option (Int32 × am_St) := am_lp (fun s : Int32 × Int32 × Int32 × am_St => b_W_mostLeftAt_4 s.1 s.2.1 s.2.2.1 s.2.2.2) (x1, x2, x3, σ)
set_option maxRecDepth 100000 in
set_option maxHeartbeats 4000000 in
theorem sb_W_mostLeftAt_4 (G : am_G) (x1 : Int32) (x2 : Int32) (x3 : Int32) (σ : am_St) (r : (Int32 × Int32 × Int32 × am_St) ⊕ (Int32 × am_St)) (Q : am_AQ) (e : b_W_mostLeftAt_4 x1 x2 x3 σ = some r) (hr : Pl_W_mostLeftAt_4 G r Q) : am_AW G M_W_mostLeftAt 4 [(3, .int x3), (2, .int x2), (1, .int x1), (0, .ref 54)] [] σ Q :=
  (show am_Snd G M_W_mostLeftAt 4 (Pl_W_mostLeftAt_4 G) _ from (sn_iload_n (pc := 4) (i := 3) dX10_mostLeftAt_4 rfl (sn_aload_n (pc := 5) (i := 0) dX10_mostLeftAt_5 rfl (sn_gI (pc := 6) (h := 54) (f := 5) dX10_mostLeftAt_6 am_CL_9 sh_54 rfl (Nat.le_of_ble_eq_true rfl) tw_181 (sn_icmp_ge (pc := 9) (tgt := 29) dX10_mostLeftAt_9 rfl (sn_iload_n (pc := 29) (i := 2) dX10_mostLeftAt_29 rfl (sn_reti (pc := 30) (R := fun x τ => (some (.inr ((x, τ))) : Option ((Int32 × Int32 × Int32 × am_St) ⊕ (Int32 × am_St)))) dX10_mostLeftAt_30 rfl (fun _ _ _ _ e h => by cases e; exact h))) (sn_iload_n (pc := 12) (i := 2) dX10_mostLeftAt_12 rfl (sn_aload_n (pc := 13) (i := 0) dX10_mostLeftAt_13 rfl (sn_iload_n (pc := 14) (i := 1) dX10_mostLeftAt_14 rfl (sn_iload_n (pc := 15) (i := 3) dX10_mostLeftAt_15 rfl (sn_callV (pc := 16) (N := M_W_through) dX10_mostLeftAt_16 (cal_W_through G) sh_54 rfl tw_659 tw_584 tw_585 tw_10 tw_586 dsc_X10_through rfl (sn_mmax (pc := 19) dX10_mostLeftAt_19 tw_780 tw_514 tw_14 tw_515 rfl (sn_istore_n (pc := 22) (i := 2) dX10_mostLeftAt_22 rfl (Nat.le_of_ble_eq_true rfl) (sn_iinc (pc := 23) (v := 1) dX10_mostLeftAt_23 rfl (Nat.le_of_ble_eq_true rfl) (sn_goto (pc := 26) (tgt := 4) dX10_mostLeftAt_26 rfl (sn_lf (pc := 4) (ln_a (i := 0) (q := 54) (ln_i (i := 1) (fun z0 => (ln_i (i := 2) (fun z1 => (ln_i (i := 3) (fun z2 => (ln_end (o := fun τ => (some (.inl (z0, z1, z2, τ)) : Option ((Int32 × Int32 × Int32 × am_St) ⊕ (Int32 × am_St)))) (fun _ _ _ e h => by cases e; exact h)))))))))))))))))))))))) _ _ _ _ _ e hr
theorem s_W_mostLeftAt_4 (G : am_G) (x1 : Int32) (x2 : Int32) (x3 : Int32) (σ : am_St) (r : Int32 × am_St) (Q : am_AQ) (e : f_W_mostLeftAt_4 x1 x2 x3 σ = some r) (hr : am_Pi r Q) : am_AW G M_W_mostLeftAt 4 [(3, .int x3), (2, .int x2), (1, .int x1), (0, .ref 54)] [] σ Q :=
  am_loop (P := am_Pi) (L := fun s : Int32 × Int32 × Int32 × am_St => [(3, .int s.2.2.1), (2, .int s.2.1), (1, .int s.1), (0, .ref 54)]) (g := fun s => s.2.2.2) (fun s o Q e hr => sb_W_mostLeftAt_4 G s.1 s.2.1 s.2.2.1 s.2.2.2 o Q e hr) (x1, x2, x3, σ) r Q e hr
noncomputable def g_W_mostLeftAt (x1 : Int32) (σ : am_St) : Option (Int32 × am_St) :=
  f_W_mostLeftAt_4 x1 0 0 σ
noncomputable def f_W_mostLeftAt (x1 : Int32) (σ : am_St) : Option (Int32 × am_St) := am_lk (g_W_mostLeftAt x1 σ)
theorem eq_W_mostLeftAt (x1 : Int32) (σ : am_St) : f_W_mostLeftAt x1 σ = g_W_mostLeftAt x1 σ := am_lk_eq _
set_option maxRecDepth 100000 in
set_option maxHeartbeats 4000000 in
theorem s_W_mostLeftAt (G : am_G) (x1 : Int32) (σ : am_St) (r : Int32 × am_St) (Q : am_AQ) (e : f_W_mostLeftAt x1 σ = some r) (hr : am_Pi r Q) : am_AW G M_W_mostLeftAt 0 [(0, .ref 54), (1, .int x1)] [] σ Q :=
  (show am_Snd G M_W_mostLeftAt 0 am_Pi _ from (sn_iconst (pc := 0) (v := 0) dX10_mostLeftAt_0 rfl (sn_istore_n (pc := 1) (i := 2) dX10_mostLeftAt_1 rfl (Nat.le_of_ble_eq_true rfl) (sn_iconst (pc := 2) (v := 0) dX10_mostLeftAt_2 rfl (sn_istore_n (pc := 3) (i := 3) dX10_mostLeftAt_3 rfl (Nat.le_of_ble_eq_true rfl) (sn_lf (pc := 4) (ln_a (i := 0) (q := 54) (ln_i (i := 1) (fun z0 => (ln_i (i := 2) (fun z1 => (ln_i (i := 3) (fun z2 => (ln_end (o := fun τ => f_W_mostLeftAt_4 z0 z1 z2 τ) (fun _ _ _ e h => s_W_mostLeftAt_4 G z0 z1 z2 _ _ _ e h))))))))))))))) _ _ _ _ _ ((eq_W_mostLeftAt x1 σ).symm.trans e) hr
noncomputable def cF_W_mostLeftAt : am_Fn := fun _ args σ K => match args with
  | [.ref q0, .int z1] => match Nat.beq q0 54 with
    | true => (f_W_mostLeftAt z1 σ).bind (fun p => K (some (.int p.1)) p.2)
    | _ => none
  | _ => none
theorem cal_W_mostLeftAt (G : am_G) : am_Cal G M_W_mostLeftAt cF_W_mostLeftAt := by
  intro ρ args σ K r e
  unfold cF_W_mostLeftAt at e
  split at e
  · split at e
    · rename_i hq0
      obtain ⟨p, h1, h2⟩ := am_bind_some e
      rw [Nat.eq_of_beq_eq_true hq0]
      exact ⟨some (.int p.1), p.2, am_Met.of rfl (Nat.le_of_ble_eq_true rfl) (s_W_mostLeftAt G _ σ p _ h1 ⟨rfl, rfl⟩), h2⟩
    · cases e
  · cases e
abbrev M_X_first : am_MD := (yX11_first, cX11_first, 8, (some .int), 3, 76)
theorem dX11_first_0 : decode cX11_first 0 = .ok (.bipush (-9), 2) := by decide +kernel
theorem dX11_first_2 : decode cX11_first 2 = .ok (.istore_n 1, 1) := by decide +kernel
theorem dX11_first_3 : decode cX11_first 3 = .ok (.iconst 0, 1) := by decide +kernel
theorem dX11_first_4 : decode cX11_first 4 = .ok (.istore_n 2, 1) := by decide +kernel
theorem dX11_first_5 : decode cX11_first 5 = .ok (.iconst 1, 1) := by decide +kernel
theorem dX11_first_6 : decode cX11_first 6 = .ok (.istore_n 3, 1) := by decide +kernel
theorem dX11_first_7 : decode cX11_first 7 = .ok (.iconst 0, 1) := by decide +kernel
theorem dX11_first_8 : decode cX11_first 8 = .ok (.istore 4, 2) := by decide +kernel
theorem dX11_first_10 : decode cX11_first 10 = .ok (.iload 4, 2) := by decide +kernel
theorem dX11_first_12 : decode cX11_first 12 = .ok (.aload_n 0, 1) := by decide +kernel
theorem dX11_first_13 : decode cX11_first 13 = .ok (.getfield 10, 3) := by decide +kernel
theorem dX11_first_16 : decode cX11_first 16 = .ok (.getfield 171, 3) := by decide +kernel
theorem dX11_first_19 : decode cX11_first 19 = .ok (.if_icmp .ge 95, 3) := by decide +kernel
theorem dX11_first_22 : decode cX11_first 22 = .ok (.aload_n 0, 1) := by decide +kernel
theorem dX11_first_23 : decode cX11_first 23 = .ok (.getfield 33, 3) := by decide +kernel
theorem dX11_first_26 : decode cX11_first 26 = .ok (.aload_n 0, 1) := by decide +kernel
theorem dX11_first_27 : decode cX11_first 27 = .ok (.getfield 10, 3) := by decide +kernel
theorem dX11_first_30 : decode cX11_first 30 = .ok (.iload 4, 2) := by decide +kernel
theorem dX11_first_32 : decode cX11_first 32 = .ok (.invokevirtual 155, 3) := by decide +kernel
theorem dX11_first_35 : decode cX11_first 35 = .ok (.aload_n 0, 1) := by decide +kernel
theorem dX11_first_36 : decode cX11_first 36 = .ok (.getfield 33, 3) := by decide +kernel
theorem dX11_first_39 : decode cX11_first 39 = .ok (.invokevirtual 159, 3) := by decide +kernel
theorem dX11_first_42 : decode cX11_first 42 = .ok (.istore 5, 2) := by decide +kernel
theorem dX11_first_44 : decode cX11_first 44 = .ok (.iconst 0, 1) := by decide +kernel
theorem dX11_first_45 : decode cX11_first 45 = .ok (.istore 6, 2) := by decide +kernel
theorem dX11_first_47 : decode cX11_first 47 = .ok (.iload 6, 2) := by decide +kernel
theorem dX11_first_49 : decode cX11_first 49 = .ok (.aload_n 0, 1) := by decide +kernel
theorem dX11_first_50 : decode cX11_first 50 = .ok (.getfield 10, 3) := by decide +kernel
theorem dX11_first_53 : decode cX11_first 53 = .ok (.getfield 225, 3) := by decide +kernel
theorem dX11_first_56 : decode cX11_first 56 = .ok (.if_icmp .ge 52, 3) := by decide +kernel
theorem dX11_first_59 : decode cX11_first 59 = .ok (.aload_n 0, 1) := by decide +kernel
theorem dX11_first_60 : decode cX11_first 60 = .ok (.getfield 33, 3) := by decide +kernel
theorem dX11_first_63 : decode cX11_first 63 = .ok (.iload 6, 2) := by decide +kernel
theorem dX11_first_65 : decode cX11_first 65 = .ok (.invokevirtual 228, 3) := by decide +kernel
theorem dX11_first_68 : decode cX11_first 68 = .ok (.istore 7, 2) := by decide +kernel
theorem dX11_first_70 : decode cX11_first 70 = .ok (.iload_n 1, 1) := by decide +kernel
theorem dX11_first_71 : decode cX11_first 71 = .ok (.bipush (-9), 2) := by decide +kernel
theorem dX11_first_73 : decode cX11_first 73 = .ok (.if_icmp .eq 14, 3) := by decide +kernel
theorem dX11_first_76 : decode cX11_first 76 = .ok (.iload 7, 2) := by decide +kernel
theorem dX11_first_78 : decode cX11_first 78 = .ok (.iload_n 3, 1) := by decide +kernel
theorem dX11_first_79 : decode cX11_first 79 = .ok (.imul, 1) := by decide +kernel
theorem dX11_first_80 : decode cX11_first 80 = .ok (.iload_n 2, 1) := by decide +kernel
theorem dX11_first_81 : decode cX11_first 81 = .ok (.iload 5, 2) := by decide +kernel
theorem dX11_first_83 : decode cX11_first 83 = .ok (.imul, 1) := by decide +kernel
theorem dX11_first_84 : decode cX11_first 84 = .ok (.if_icmp .ge 18, 3) := by decide +kernel
theorem dX11_first_87 : decode cX11_first 87 = .ok (.bipush 10, 2) := by decide +kernel
theorem dX11_first_89 : decode cX11_first 89 = .ok (.iload 4, 2) := by decide +kernel
theorem dX11_first_91 : decode cX11_first 91 = .ok (.imul, 1) := by decide +kernel
theorem dX11_first_92 : decode cX11_first 92 = .ok (.iload 6, 2) := by decide +kernel
theorem dX11_first_94 : decode cX11_first 94 = .ok (.iadd, 1) := by decide +kernel
theorem dX11_first_95 : decode cX11_first 95 = .ok (.istore_n 1, 1) := by decide +kernel
theorem dX11_first_96 : decode cX11_first 96 = .ok (.iload 7, 2) := by decide +kernel
theorem dX11_first_98 : decode cX11_first 98 = .ok (.istore_n 2, 1) := by decide +kernel
theorem dX11_first_99 : decode cX11_first 99 = .ok (.iload 5, 2) := by decide +kernel
theorem dX11_first_101 : decode cX11_first 101 = .ok (.istore_n 3, 1) := by decide +kernel
theorem dX11_first_102 : decode cX11_first 102 = .ok (.iinc 6 1, 3) := by decide +kernel
theorem dX11_first_105 : decode cX11_first 105 = .ok (.goto (-58), 3) := by decide +kernel
theorem dX11_first_108 : decode cX11_first 108 = .ok (.iinc 4 1, 3) := by decide +kernel
theorem dX11_first_111 : decode cX11_first 111 = .ok (.goto (-101), 3) := by decide +kernel
theorem dX11_first_114 : decode cX11_first 114 = .ok (.iload_n 1, 1) := by decide +kernel
theorem dX11_first_115 : decode cX11_first 115 = .ok (.ireturn, 1) := by decide +kernel
abbrev Pl_X_first_10 (G : am_G) : ((Int32 × Int32 × Int32 × Int32 × am_St) ⊕ (Int32 × am_St)) → am_AQ → Prop := am_PL G M_X_first 10 (fun s : Int32 × Int32 × Int32 × Int32 × am_St => [(4, .int s.2.2.2.1), (3, .int s.2.2.1), (2, .int s.2.1), (1, .int s.1), (0, .ref 0)]) (fun s => s.2.2.2.2) am_Pi
abbrev Pl_X_first_47 (G : am_G) : ((Int32 × Int32 × Int32 × Int32 × Int32 × Int32 × am_St) ⊕ ((Int32 × Int32 × Int32 × Int32 × am_St) ⊕ (Int32 × am_St))) → am_AQ → Prop := am_PL G M_X_first 47 (fun s : Int32 × Int32 × Int32 × Int32 × Int32 × Int32 × am_St => [(6, .int s.2.2.2.2.2.1), (5, .int s.2.2.2.2.1), (4, .int s.2.2.2.1), (3, .int s.2.2.1), (2, .int s.2.1), (1, .int s.1), (0, .ref 0)]) (fun s => s.2.2.2.2.2.2) (Pl_X_first_10 G)
noncomputable def g_X_first_102 (x1 : Int32) (x2 : Int32) (x3 : Int32) (x4 : Int32) (x5 : Int32) (x6 : Int32) (σ : am_St) : Option ((Int32 × Int32 × Int32 × Int32 × Int32 × Int32 × am_St) ⊕ ((Int32 × Int32 × Int32 × Int32 × am_St) ⊕ (Int32 × am_St))) :=
  let v1 := x6 + 1
  some (.inl (x1, x2, x3, x4, x5, v1, σ))
noncomputable def f_X_first_102 (x1 : Int32) (x2 : Int32) (x3 : Int32) (x4 : Int32) (x5 : Int32) (x6 : Int32) (σ : am_St) : Option ((Int32 × Int32 × Int32 × Int32 × Int32 × Int32 × am_St) ⊕ ((Int32 × Int32 × Int32 × Int32 × am_St) ⊕ (Int32 × am_St))) := am_lk (g_X_first_102 x1 x2 x3 x4 x5 x6 σ)
theorem eq_X_first_102 (x1 : Int32) (x2 : Int32) (x3 : Int32) (x4 : Int32) (x5 : Int32) (x6 : Int32) (σ : am_St) : f_X_first_102 x1 x2 x3 x4 x5 x6 σ = g_X_first_102 x1 x2 x3 x4 x5 x6 σ := am_lk_eq _
set_option maxRecDepth 100000 in
set_option maxHeartbeats 4000000 in
theorem s_X_first_102 (G : am_G) (x1 : Int32) (x2 : Int32) (x3 : Int32) (x4 : Int32) (x5 : Int32) (x6 : Int32) (σ : am_St) (r : (Int32 × Int32 × Int32 × Int32 × Int32 × Int32 × am_St) ⊕ ((Int32 × Int32 × Int32 × Int32 × am_St) ⊕ (Int32 × am_St))) (Q : am_AQ) (e : f_X_first_102 x1 x2 x3 x4 x5 x6 σ = some r) (hr : (Pl_X_first_47 G) r Q) : am_AW G M_X_first 102 [(6, .int x6), (5, .int x5), (4, .int x4), (3, .int x3), (2, .int x2), (1, .int x1), (0, .ref 0)] [] σ Q :=
  (show am_Snd G M_X_first 102 (Pl_X_first_47 G) _ from (sn_iinc (pc := 102) (v := 1) dX11_first_102 rfl (Nat.le_of_ble_eq_true rfl) (sn_goto (pc := 105) (tgt := 47) dX11_first_105 rfl (sn_lf (pc := 47) (ln_a (i := 0) (q := 0) (ln_i (i := 1) (fun z0 => (ln_i (i := 2) (fun z1 => (ln_i (i := 3) (fun z2 => (ln_i (i := 4) (fun z3 => (ln_i (i := 5) (fun z4 => (ln_i (i := 6) (fun z5 => (ln_end (o := fun τ => (some (.inl (z0, z1, z2, z3, z4, z5, τ)) : Option ((Int32 × Int32 × Int32 × Int32 × Int32 × Int32 × am_St) ⊕ ((Int32 × Int32 × Int32 × Int32 × am_St) ⊕ (Int32 × am_St))))) (fun _ _ _ e h => by cases e; exact h))))))))))))))))))) _ _ _ _ _ ((eq_X_first_102 x1 x2 x3 x4 x5 x6 σ).symm.trans e) hr
noncomputable def g_X_first_87 (x4 : Int32) (x5 : Int32) (x6 : Int32) (x7 : Int32) (σ : am_St) : Option ((Int32 × Int32 × Int32 × Int32 × Int32 × Int32 × am_St) ⊕ ((Int32 × Int32 × Int32 × Int32 × am_St) ⊕ (Int32 × am_St))) :=
  let v1 := (10 * x4) + x6
  f_X_first_102 v1 x7 x5 x4 x5 x6 σ
noncomputable def f_X_first_87 (x4 : Int32) (x5 : Int32) (x6 : Int32) (x7 : Int32) (σ : am_St) : Option ((Int32 × Int32 × Int32 × Int32 × Int32 × Int32 × am_St) ⊕ ((Int32 × Int32 × Int32 × Int32 × am_St) ⊕ (Int32 × am_St))) := am_lk (g_X_first_87 x4 x5 x6 x7 σ)
theorem eq_X_first_87 (x4 : Int32) (x5 : Int32) (x6 : Int32) (x7 : Int32) (σ : am_St) : f_X_first_87 x4 x5 x6 x7 σ = g_X_first_87 x4 x5 x6 x7 σ := am_lk_eq _
set_option maxRecDepth 100000 in
set_option maxHeartbeats 4000000 in
theorem s_X_first_87 (G : am_G) (x4 : Int32) (x5 : Int32) (x6 : Int32) (x7 : Int32) (σ : am_St) (r : (Int32 × Int32 × Int32 × Int32 × Int32 × Int32 × am_St) ⊕ ((Int32 × Int32 × Int32 × Int32 × am_St) ⊕ (Int32 × am_St))) (Q : am_AQ) (e : f_X_first_87 x4 x5 x6 x7 σ = some r) (hr : (Pl_X_first_47 G) r Q) : am_AW G M_X_first 87 [(7, .int x7), (6, .int x6), (5, .int x5), (4, .int x4), (0, .ref 0)] [] σ Q :=
  (show am_Snd G M_X_first 87 (Pl_X_first_47 G) _ from (sn_bipush (pc := 87) (v := 10) dX11_first_87 rfl (sn_iload (pc := 89) dX11_first_89 (sn_imul (pc := 91) dX11_first_91 (sn_iload (pc := 92) dX11_first_92 (sn_iadd (pc := 94) dX11_first_94 (sn_istore_n (pc := 95) (i := 1) dX11_first_95 rfl (Nat.le_of_ble_eq_true rfl) (sn_iload (pc := 96) dX11_first_96 (sn_istore_n (pc := 98) (i := 2) dX11_first_98 rfl (Nat.le_of_ble_eq_true rfl) (sn_iload (pc := 99) dX11_first_99 (sn_istore_n (pc := 101) (i := 3) dX11_first_101 rfl (Nat.le_of_ble_eq_true rfl) (sn_lf (pc := 102) (ln_a (i := 0) (q := 0) (ln_i (i := 1) (fun z0 => (ln_i (i := 2) (fun z1 => (ln_i (i := 3) (fun z2 => (ln_i (i := 4) (fun z3 => (ln_i (i := 5) (fun z4 => (ln_i (i := 6) (fun z5 => (ln_end (o := fun τ => f_X_first_102 z0 z1 z2 z3 z4 z5 τ) (fun _ _ _ e h => s_X_first_102 G z0 z1 z2 z3 z4 z5 _ _ _ e h))))))))))))))))))))))))))) _ _ _ _ _ ((eq_X_first_87 x4 x5 x6 x7 σ).symm.trans e) hr
noncomputable def b_X_first_47 (x1 : Int32) (x2 : Int32) (x3 : Int32) (x4 : Int32) (x5 : Int32) (x6 : Int32) (σ : am_St) : Option ((Int32 × Int32 × Int32 × Int32 × Int32 × Int32 × am_St) ⊕ ((Int32 × Int32 × Int32 × Int32 × am_St) ⊕ (Int32 × am_St))) :=
  if (σ.1 1 1) ≤ x6 then
    let v1 := x4 + 1
    some (.inr (.inl (x1, x2, x3, v1, σ)))
  else
    (f_W_mostLeftAt x6 σ).bind (fun p2 =>
      if x1 = (-9) then
        f_X_first_87 x4 x5 x6 p2.1 p2.2
      else
        if (x2 * x5) ≤ (p2.1 * x3) then
          f_X_first_102 x1 x2 x3 x4 x5 x6 p2.2
        else
          f_X_first_87 x4 x5 x6 p2.1 p2.2)
noncomputable def f_X_first_47 (x1 : Int32) (x2 : Int32) (x3 : Int32) (x4 : Int32) (x5 : Int32) (x6 : Int32) (σ : am_St) : Option ((Int32 × Int32 × Int32 × Int32 × am_St) ⊕ (Int32 × am_St)) := am_lp (fun s : Int32 × Int32 × Int32 × Int32 × Int32 × Int32 × am_St => b_X_first_47 s.1 s.2.1 s.2.2.1 s.2.2.2.1 s.2.2.2.2.1 s.2.2.2.2.2.1 s.2.2.2.2.2.2) (x1, x2, x3, x4, x5, x6, σ)
set_option maxRecDepth 100000 in
set_option maxHeartbeats 4000000 in
theorem sb_X_first_47 (G : am_G) (x1 : Int32) (x2 : Int32) (x3 : Int32) (x4 : Int32) (x5 : Int32) (x6 : Int32) (σ : am_St) (r : (Int32 × Int32 × Int32 × Int32 × Int32 × Int32 × am_St) ⊕ ((Int32 × Int32 × Int32 × Int32 × am_St) ⊕ (Int32 × am_St))) (Q : am_AQ) (e : b_X_first_47 x1 x2 x3 x4 x5 x6 σ = some r) (hr : Pl_X_first_47 G r Q) : am_AW G M_X_first 47 [(6, .int x6), (5, .int x5), (4, .int x4), (3, .int x3), (2, .int x2), (1, .int x1), (0, .ref 0)] [] σ Q :=
  (show am_Snd G M_X_first 47 (Pl_X_first_47 G) _ from (sn_iload (pc := 47) dX11_first_47 (sn_aload_n (pc := 49) (i := 0) dX11_first_49 rfl (sn_gR (r0 := 1) (pc := 50) (h := 0) (f := 0) dX11_first_50 am_CL_10 sh_0 rfl (Nat.le_of_ble_eq_true rfl) tw_219 (sn_gI (pc := 53) (h := 1) (f := 1) dX11_first_53 am_CL_3 sh_1 rfl (Nat.le_of_ble_eq_true rfl) tw_82 (sn_icmp_ge (pc := 56) (tgt := 108) dX11_first_56 rfl (sn_iinc (pc := 108) (v := 1) dX11_first_108 rfl (Nat.le_of_ble_eq_true rfl) (sn_goto (pc := 111) (tgt := 10) dX11_first_111 rfl (sn_lf (pc := 10) (ln_a (i := 0) (q := 0) (ln_i (i := 1) (fun z0 => (ln_i (i := 2) (fun z1 => (ln_i (i := 3) (fun z2 => (ln_i (i := 4) (fun z3 => (ln_end (o := fun τ => (some (.inr (.inl (z0, z1, z2, z3, τ))) : Option ((Int32 × Int32 × Int32 × Int32 × Int32 × Int32 × am_St) ⊕ ((Int32 × Int32 × Int32 × Int32 × am_St) ⊕ (Int32 × am_St))))) (fun _ _ _ e h => by cases e; exact h)))))))))))))) (sn_aload_n (pc := 59) (i := 0) dX11_first_59 rfl (sn_gR (r0 := 54) (pc := 60) (h := 0) (f := 4) dX11_first_60 am_CL_10 sh_0 rfl (Nat.le_of_ble_eq_true rfl) tw_223 (sn_iload (pc := 63) dX11_first_63 (sn_callV (pc := 65) (N := M_W_mostLeftAt) dX11_first_65 (cal_W_mostLeftAt G) sh_54 rfl tw_776 tw_777 tw_778 tw_10 tw_779 dsc_X10_mostLeftAt rfl (sn_istore (pc := 68) dX11_first_68 (Nat.le_of_ble_eq_true rfl) (sn_iload_n (pc := 70) (i := 1) dX11_first_70 rfl (sn_bipush (pc := 71) (v := (-9)) dX11_first_71 (show (Int8.ofInt (-9)).toInt32 = (-9) by decide) (sn_icmp_eq (pc := 73) (tgt := 87) dX11_first_73 rfl (sn_lf (pc := 87) (ln_a (i := 0) (q := 0) (ln_i (i := 4) (fun z0 => (ln_i (i := 5) (fun z1 => (ln_i (i := 6) (fun z2 => (ln_i (i := 7) (fun z3 => (ln_end (o := fun τ => f_X_first_87 z0 z1 z2 z3 τ) (fun _ _ _ e h => s_X_first_87 G z0 z1 z2 z3 _ _ _ e h)))))))))))) (sn_iload (pc := 76) dX11_first_76 (sn_iload_n (pc := 78) (i := 3) dX11_first_78 rfl (sn_imul (pc := 79) dX11_first_79 (sn_iload_n (pc := 80) (i := 2) dX11_first_80 rfl (sn_iload (pc := 81) dX11_first_81 (sn_imul (pc := 83) dX11_first_83 (sn_icmp_ge (pc := 84) (tgt := 102) dX11_first_84 rfl (sn_lf (pc := 102) (ln_a (i := 0) (q := 0) (ln_i (i := 1) (fun z0 => (ln_i (i := 2) (fun z1 => (ln_i (i := 3) (fun z2 => (ln_i (i := 4) (fun z3 => (ln_i (i := 5) (fun z4 => (ln_i (i := 6) (fun z5 => (ln_end (o := fun τ => f_X_first_102 z0 z1 z2 z3 z4 z5 τ) (fun _ _ _ e h => s_X_first_102 G z0 z1 z2 z3 z4 z5 _ _ _ e h)))))))))))))))) (sn_lf (pc := 87) (ln_a (i := 0) (q := 0) (ln_i (i := 4) (fun z0 => (ln_i (i := 5) (fun z1 => (ln_i (i := 6) (fun z2 => (ln_i (i := 7) (fun z3 => (ln_end (o := fun τ => f_X_first_87 z0 z1 z2 z3 τ) (fun _ _ _ e h => s_X_first_87 G z0 z1 z2 z3 _ _ _ e h))))))))))))))))))))))))))))))))) _ _ _ _ _ e hr
theorem s_X_first_47 (G : am_G) (x1 : Int32) (x2 : Int32) (x3 : Int32) (x4 : Int32) (x5 : Int32) (x6 : Int32) (σ : am_St) (r : (Int32 × Int32 × Int32 × Int32 × am_St) ⊕ (Int32 × am_St)) (Q : am_AQ) (e : f_X_first_47 x1 x2 x3 x4 x5 x6 σ = some r) (hr : (Pl_X_first_10 G) r Q) : am_AW G M_X_first 47 [(6, .int x6), (5, .int x5), (4, .int x4), (3, .int x3), (2, .int x2), (1, .int x1), (0, .ref 0)] [] σ Q :=
  am_loop (P := (Pl_X_first_10 G)) (L := fun s : Int32 × Int32 × Int32 × Int32 × Int32 × Int32 × am_St => [(6, .int s.2.2.2.2.2.1), (5, .int s.2.2.2.2.1), (4, .int s.2.2.2.1), (3, .int s.2.2.1), (2, .int s.2.1), (1, .int s.1), (0, .ref 0)]) (g := fun s => s.2.2.2.2.2.2) (fun s o Q e hr => sb_X_first_47 G s.1 s.2.1 s.2.2.1 s.2.2.2.1 s.2.2.2.2.1 s.2.2.2.2.2.1 s.2.2.2.2.2.2 o Q e hr) (x1, x2, x3, x4, x5, x6, σ) r Q e hr
noncomputable def g_X_first_44 (x1 : Int32) (x2 : Int32) (x3 : Int32) (x4 : Int32) (x5 : Int32) (σ : am_St) : Option ((Int32 × Int32 × Int32 × Int32 × am_St) ⊕ (Int32 × am_St)) :=
  f_X_first_47 x1 x2 x3 x4 x5 0 σ
noncomputable def f_X_first_44 (x1 : Int32) (x2 : Int32) (x3 : Int32) (x4 : Int32) (x5 : Int32) (σ : am_St) : Option ((Int32 × Int32 × Int32 × Int32 × am_St) ⊕ (Int32 × am_St)) := am_lk (g_X_first_44 x1 x2 x3 x4 x5 σ)
theorem eq_X_first_44 (x1 : Int32) (x2 : Int32) (x3 : Int32) (x4 : Int32) (x5 : Int32) (σ : am_St) : f_X_first_44 x1 x2 x3 x4 x5 σ = g_X_first_44 x1 x2 x3 x4 x5 σ := am_lk_eq _
set_option maxRecDepth 100000 in
set_option maxHeartbeats 4000000 in
theorem s_X_first_44 (G : am_G) (x1 : Int32) (x2 : Int32) (x3 : Int32) (x4 : Int32) (x5 : Int32) (σ : am_St) (r : (Int32 × Int32 × Int32 × Int32 × am_St) ⊕ (Int32 × am_St)) (Q : am_AQ) (e : f_X_first_44 x1 x2 x3 x4 x5 σ = some r) (hr : (Pl_X_first_10 G) r Q) : am_AW G M_X_first 44 [(5, .int x5), (4, .int x4), (3, .int x3), (2, .int x2), (1, .int x1), (0, .ref 0)] [] σ Q :=
  (show am_Snd G M_X_first 44 (Pl_X_first_10 G) _ from (sn_iconst (pc := 44) (v := 0) dX11_first_44 rfl (sn_istore (pc := 45) dX11_first_45 (Nat.le_of_ble_eq_true rfl) (sn_lf (pc := 47) (ln_a (i := 0) (q := 0) (ln_i (i := 1) (fun z0 => (ln_i (i := 2) (fun z1 => (ln_i (i := 3) (fun z2 => (ln_i (i := 4) (fun z3 => (ln_i (i := 5) (fun z4 => (ln_i (i := 6) (fun z5 => (ln_end (o := fun τ => f_X_first_47 z0 z1 z2 z3 z4 z5 τ) (fun _ _ _ e h => s_X_first_47 G z0 z1 z2 z3 z4 z5 _ _ _ e h))))))))))))))))))) _ _ _ _ _ ((eq_X_first_44 x1 x2 x3 x4 x5 σ).symm.trans e) hr
noncomputable def b_X_first_10 (x1 : Int32) (x2 : Int32) (x3 : Int32) (x4 : Int32) (σ : am_St) : Option ((Int32 × Int32 × Int32 × Int32 × am_St) ⊕ (Int32 × am_St)) :=
  if (σ.1 1 2) ≤ x4 then
    some (.inr ((x1, σ)))
  else
    (f_W_look_1 x4 σ).bind (fun p1 =>
      (f_W_all p1).bind (fun p2 =>
        f_X_first_44 x1 x2 x3 x4 p2.1 p2.2))
noncomputable def f_X_first_10 (x1 : Int32) (x2 : Int32) (x3 : Int32) (x4 : Int32) (σ : am_St) : Option (Int32 × am_St) := am_lp (fun s : Int32 × Int32 × Int32 × Int32 × am_St => b_X_first_10 s.1 s.2.1 s.2.2.1 s.2.2.2.1 s.2.2.2.2) (x1, x2, x3, x4, σ)
set_option maxRecDepth 100000 in
set_option maxHeartbeats 4000000 in
theorem sb_X_first_10 (G : am_G) (x1 : Int32) (x2 : Int32) (x3 : Int32) (x4 : Int32) (σ : am_St) (r : (Int32 × Int32 × Int32 × Int32 × am_St) ⊕ (Int32 × am_St)) (Q : am_AQ) (e : b_X_first_10 x1 x2 x3 x4 σ = some r) (hr : Pl_X_first_10 G r Q) : am_AW G M_X_first 10 [(4, .int x4), (3, .int x3), (2, .int x2), (1, .int x1), (0, .ref 0)] [] σ Q :=
  (show am_Snd G M_X_first 10 (Pl_X_first_10 G) _ from (sn_iload (pc := 10) dX11_first_10 (sn_aload_n (pc := 12) (i := 0) dX11_first_12 rfl (sn_gR (r0 := 1) (pc := 13) (h := 0) (f := 0) dX11_first_13 am_CL_10 sh_0 rfl (Nat.le_of_ble_eq_true rfl) tw_219 (sn_gI (pc := 16) (h := 1) (f := 2) dX11_first_16 am_CL_3 sh_1 rfl (Nat.le_of_ble_eq_true rfl) tw_85 (sn_icmp_ge (pc := 19) (tgt := 114) dX11_first_19 rfl (sn_iload_n (pc := 114) (i := 1) dX11_first_114 rfl (sn_reti (pc := 115) (R := fun x τ => (some (.inr ((x, τ))) : Option ((Int32 × Int32 × Int32 × Int32 × am_St) ⊕ (Int32 × am_St)))) dX11_first_115 rfl (fun _ _ _ _ e h => by cases e; exact h))) (sn_aload_n (pc := 22) (i := 0) dX11_first_22 rfl (sn_gR (r0 := 54) (pc := 23) (h := 0) (f := 4) dX11_first_23 am_CL_10 sh_0 rfl (Nat.le_of_ble_eq_true rfl) tw_223 (sn_aload_n (pc := 26) (i := 0) dX11_first_26 rfl (sn_gR (r0 := 1) (pc := 27) (h := 0) (f := 0) dX11_first_27 am_CL_10 sh_0 rfl (Nat.le_of_ble_eq_true rfl) tw_219 (sn_iload (pc := 30) dX11_first_30 (sn_callV (pc := 32) (N := M_W_look) dX11_first_32 (cal_W_look_1 G) sh_54 rfl tw_578 tw_579 tw_580 tw_10 tw_581 dsc_X10_look rfl (sn_aload_n (pc := 35) (i := 0) dX11_first_35 rfl (sn_gR (r0 := 54) (pc := 36) (h := 0) (f := 4) dX11_first_36 am_CL_10 sh_0 rfl (Nat.le_of_ble_eq_true rfl) tw_223 (sn_callV (pc := 39) (N := M_W_all) dX11_first_39 (cal_W_all G) sh_54 rfl tw_582 tw_373 tw_374 tw_10 tw_375 dsc_X10_all rfl (sn_istore (pc := 42) dX11_first_42 (Nat.le_of_ble_eq_true rfl) (sn_lf (pc := 44) (ln_a (i := 0) (q := 0) (ln_i (i := 1) (fun z0 => (ln_i (i := 2) (fun z1 => (ln_i (i := 3) (fun z2 => (ln_i (i := 4) (fun z3 => (ln_i (i := 5) (fun z4 => (ln_end (o := fun τ => f_X_first_44 z0 z1 z2 z3 z4 τ) (fun _ _ _ e h => s_X_first_44 G z0 z1 z2 z3 z4 _ _ _ e h)))))))))))))))))))))))))))))) _ _ _ _ _ e hr
theorem s_X_first_10 (G : am_G) (x1 : Int32) (x2 : Int32) (x3 : Int32) (x4 : Int32) (σ : am_St) (r : Int32 × am_St) (Q : am_AQ) (e : f_X_first_10 x1 x2 x3 x4 σ = some r) (hr : am_Pi r Q) : am_AW G M_X_first 10 [(4, .int x4), (3, .int x3), (2, .int x2), (1, .int x1), (0, .ref 0)] [] σ Q :=
  am_loop (P := am_Pi) (L := fun s : Int32 × Int32 × Int32 × Int32 × am_St => [(4, .int s.2.2.2.1), (3, .int s.2.2.1), (2, .int s.2.1), (1, .int s.1), (0, .ref 0)]) (g := fun s => s.2.2.2.2) (fun s o Q e hr => sb_X_first_10 G s.1 s.2.1 s.2.2.1 s.2.2.2.1 s.2.2.2.2 o Q e hr) (x1, x2, x3, x4, σ) r Q e hr
noncomputable def g_X_first (σ : am_St) : Option (Int32 × am_St) :=
  f_X_first_10 ((-9)) 0 1 0 σ
noncomputable def f_X_first (σ : am_St) : Option (Int32 × am_St) := am_lk (g_X_first  σ)
theorem eq_X_first (σ : am_St) : f_X_first  σ = g_X_first  σ := am_lk_eq _
set_option maxRecDepth 100000 in
set_option maxHeartbeats 4000000 in
theorem s_X_first (G : am_G) (σ : am_St) (r : Int32 × am_St) (Q : am_AQ) (e : f_X_first  σ = some r) (hr : am_Pi r Q) : am_AW G M_X_first 0 [(0, .ref 0)] [] σ Q :=
  (show am_Snd G M_X_first 0 am_Pi _ from (sn_bipush (pc := 0) (v := (-9)) dX11_first_0 (show (Int8.ofInt (-9)).toInt32 = (-9) by decide) (sn_istore_n (pc := 2) (i := 1) dX11_first_2 rfl (Nat.le_of_ble_eq_true rfl) (sn_iconst (pc := 3) (v := 0) dX11_first_3 rfl (sn_istore_n (pc := 4) (i := 2) dX11_first_4 rfl (Nat.le_of_ble_eq_true rfl) (sn_iconst (pc := 5) (v := 1) dX11_first_5 rfl (sn_istore_n (pc := 6) (i := 3) dX11_first_6 rfl (Nat.le_of_ble_eq_true rfl) (sn_iconst (pc := 7) (v := 0) dX11_first_7 rfl (sn_istore (pc := 8) dX11_first_8 (Nat.le_of_ble_eq_true rfl) (sn_lf (pc := 10) (ln_a (i := 0) (q := 0) (ln_i (i := 1) (fun z0 => (ln_i (i := 2) (fun z1 => (ln_i (i := 3) (fun z2 => (ln_i (i := 4) (fun z3 => (ln_end (o := fun τ => f_X_first_10 z0 z1 z2 z3 τ) (fun _ _ _ e h => s_X_first_10 G z0 z1 z2 z3 _ _ _ e h))))))))))))))))))))) _ _ _ _ _ ((eq_X_first  σ).symm.trans e) hr
noncomputable def cF_X_first : am_Fn := fun _ args σ K => match args with
  | [.ref q0] => match Nat.beq q0 0 with
    | true => (f_X_first σ).bind (fun p => K (some (.int p.1)) p.2)
    | _ => none
  | _ => none
theorem cal_X_first (G : am_G) : am_Cal G M_X_first cF_X_first := by
  intro ρ args σ K r e
  unfold cF_X_first at e
  split at e
  · split at e
    · rename_i hq0
      obtain ⟨p, h1, h2⟩ := am_bind_some e
      rw [Nat.eq_of_beq_eq_true hq0]
      exact ⟨some (.int p.1), p.2, am_Met.of rfl (Nat.le_of_ble_eq_true rfl) (s_X_first G  σ p _ h1 ⟨rfl, rfl⟩), h2⟩
    · cases e
  · cases e
abbrev M_P_agreed : am_MD := (yX7_agreed, cX7_agreed, 9, (some .int), 0, 0)
theorem dX7_agreed_0 : decode cX7_agreed 0 = .ok (.iload_n 1, 1) := by decide +kernel
theorem dX7_agreed_1 : decode cX7_agreed 1 = .ok (.istore_n 3, 1) := by decide +kernel
theorem dX7_agreed_2 : decode cX7_agreed 2 = .ok (.iconst 0, 1) := by decide +kernel
theorem dX7_agreed_3 : decode cX7_agreed 3 = .ok (.istore 4, 2) := by decide +kernel
theorem dX7_agreed_5 : decode cX7_agreed 5 = .ok (.iconst (-1), 1) := by decide +kernel
theorem dX7_agreed_6 : decode cX7_agreed 6 = .ok (.istore 5, 2) := by decide +kernel
theorem dX7_agreed_8 : decode cX7_agreed 8 = .ok (.iload 5, 2) := by decide +kernel
theorem dX7_agreed_10 : decode cX7_agreed 10 = .ok (.aload_n 0, 1) := by decide +kernel
theorem dX7_agreed_11 : decode cX7_agreed 11 = .ok (.getfield 9, 3) := by decide +kernel
theorem dX7_agreed_14 : decode cX7_agreed 14 = .ok (.if_icmp .ge 112, 3) := by decide +kernel
theorem dX7_agreed_17 : decode cX7_agreed 17 = .ok (.iload 5, 2) := by decide +kernel
theorem dX7_agreed_19 : decode cX7_agreed 19 = .ok (.ifCond .ge 7, 3) := by decide +kernel
theorem dX7_agreed_22 : decode cX7_agreed 22 = .ok (.iconst 1, 1) := by decide +kernel
theorem dX7_agreed_23 : decode cX7_agreed 23 = .ok (.goto 4, 3) := by decide +kernel
theorem dX7_agreed_26 : decode cX7_agreed 26 = .ok (.iconst 0, 1) := by decide +kernel
theorem dX7_agreed_27 : decode cX7_agreed 27 = .ok (.istore 6, 2) := by decide +kernel
theorem dX7_agreed_29 : decode cX7_agreed 29 = .ok (.iload 6, 2) := by decide +kernel
theorem dX7_agreed_31 : decode cX7_agreed 31 = .ok (.ifCond .ne 15, 3) := by decide +kernel
theorem dX7_agreed_34 : decode cX7_agreed 34 = .ok (.iload 5, 2) := by decide +kernel
theorem dX7_agreed_36 : decode cX7_agreed 36 = .ok (.aload_n 0, 1) := by decide +kernel
theorem dX7_agreed_37 : decode cX7_agreed 37 = .ok (.getfield 15, 3) := by decide +kernel
theorem dX7_agreed_40 : decode cX7_agreed 40 = .ok (.if_icmp .ne 6, 3) := by decide +kernel
theorem dX7_agreed_43 : decode cX7_agreed 43 = .ok (.goto 77, 3) := by decide +kernel
theorem dX7_agreed_46 : decode cX7_agreed 46 = .ok (.iload 6, 2) := by decide +kernel
theorem dX7_agreed_48 : decode cX7_agreed 48 = .ok (.ifCond .eq 7, 3) := by decide +kernel
theorem dX7_agreed_51 : decode cX7_agreed 51 = .ok (.iconst 5, 1) := by decide +kernel
theorem dX7_agreed_52 : decode cX7_agreed 52 = .ok (.goto 4, 3) := by decide +kernel
theorem dX7_agreed_55 : decode cX7_agreed 55 = .ok (.iconst 2, 1) := by decide +kernel
theorem dX7_agreed_56 : decode cX7_agreed 56 = .ok (.istore 7, 2) := by decide +kernel
theorem dX7_agreed_58 : decode cX7_agreed 58 = .ok (.iconst 0, 1) := by decide +kernel
theorem dX7_agreed_59 : decode cX7_agreed 59 = .ok (.istore 8, 2) := by decide +kernel
theorem dX7_agreed_61 : decode cX7_agreed 61 = .ok (.iload 8, 2) := by decide +kernel
theorem dX7_agreed_63 : decode cX7_agreed 63 = .ok (.aload_n 0, 1) := by decide +kernel
theorem dX7_agreed_64 : decode cX7_agreed 64 = .ok (.getfield 18, 3) := by decide +kernel
theorem dX7_agreed_67 : decode cX7_agreed 67 = .ok (.if_icmp .ge 53, 3) := by decide +kernel
theorem dX7_agreed_70 : decode cX7_agreed 70 = .ok (.iload_n 3, 1) := by decide +kernel
theorem dX7_agreed_71 : decode cX7_agreed 71 = .ok (.iload 7, 2) := by decide +kernel
theorem dX7_agreed_73 : decode cX7_agreed 73 = .ok (.if_icmp .ge 33, 3) := by decide +kernel
theorem dX7_agreed_76 : decode cX7_agreed 76 = .ok (.iload_n 2, 1) := by decide +kernel
theorem dX7_agreed_77 : decode cX7_agreed 77 = .ok (.ifCond .ne 8, 3) := by decide +kernel
theorem dX7_agreed_80 : decode cX7_agreed 80 = .ok (.iload 4, 2) := by decide +kernel
theorem dX7_agreed_82 : decode cX7_agreed 82 = .ok (.goto 23, 3) := by decide +kernel
theorem dX7_agreed_85 : decode cX7_agreed 85 = .ok (.bipush 10, 2) := by decide +kernel
theorem dX7_agreed_87 : decode cX7_agreed 87 = .ok (.iload 8, 2) := by decide +kernel
theorem dX7_agreed_89 : decode cX7_agreed 89 = .ok (.imul, 1) := by decide +kernel
theorem dX7_agreed_90 : decode cX7_agreed 90 = .ok (.iload 6, 2) := by decide +kernel
theorem dX7_agreed_92 : decode cX7_agreed 92 = .ok (.ifCond .eq 10, 3) := by decide +kernel
theorem dX7_agreed_95 : decode cX7_agreed 95 = .ok (.aload_n 0, 1) := by decide +kernel
theorem dX7_agreed_96 : decode cX7_agreed 96 = .ok (.getfield 15, 3) := by decide +kernel
theorem dX7_agreed_99 : decode cX7_agreed 99 = .ok (.goto 5, 3) := by decide +kernel
theorem dX7_agreed_102 : decode cX7_agreed 102 = .ok (.iload 5, 2) := by decide +kernel
theorem dX7_agreed_104 : decode cX7_agreed 104 = .ok (.iadd, 1) := by decide +kernel
theorem dX7_agreed_105 : decode cX7_agreed 105 = .ok (.ireturn, 1) := by decide +kernel
theorem dX7_agreed_106 : decode cX7_agreed 106 = .ok (.iload_n 3, 1) := by decide +kernel
theorem dX7_agreed_107 : decode cX7_agreed 107 = .ok (.iload 7, 2) := by decide +kernel
theorem dX7_agreed_109 : decode cX7_agreed 109 = .ok (.isub, 1) := by decide +kernel
theorem dX7_agreed_110 : decode cX7_agreed 110 = .ok (.istore_n 3, 1) := by decide +kernel
theorem dX7_agreed_111 : decode cX7_agreed 111 = .ok (.iinc 4 1, 3) := by decide +kernel
theorem dX7_agreed_114 : decode cX7_agreed 114 = .ok (.iinc 8 1, 3) := by decide +kernel
theorem dX7_agreed_117 : decode cX7_agreed 117 = .ok (.goto (-56), 3) := by decide +kernel
theorem dX7_agreed_120 : decode cX7_agreed 120 = .ok (.iinc 5 1, 3) := by decide +kernel
theorem dX7_agreed_123 : decode cX7_agreed 123 = .ok (.goto (-115), 3) := by decide +kernel
theorem dX7_agreed_126 : decode cX7_agreed 126 = .ok (.iload_n 2, 1) := by decide +kernel
theorem dX7_agreed_127 : decode cX7_agreed 127 = .ok (.ifCond .ne 8, 3) := by decide +kernel
theorem dX7_agreed_130 : decode cX7_agreed 130 = .ok (.iload 4, 2) := by decide +kernel
theorem dX7_agreed_132 : decode cX7_agreed 132 = .ok (.goto 5, 3) := by decide +kernel
theorem dX7_agreed_135 : decode cX7_agreed 135 = .ok (.bipush (-9), 2) := by decide +kernel
theorem dX7_agreed_137 : decode cX7_agreed 137 = .ok (.ireturn, 1) := by decide +kernel
abbrev Pl_P_agreed_1_8 (G : am_G) : ((Int32 × Int32 × Int32 × Int32 × am_St) ⊕ (Int32 × am_St)) → am_AQ → Prop := am_PL G M_P_agreed 8 (fun s : Int32 × Int32 × Int32 × Int32 × am_St => [(5, .int s.2.2.2.1), (4, .int s.2.2.1), (3, .int s.2.1), (2, .int s.1), (0, .ref 1)]) (fun s => s.2.2.2.2) am_Pi
abbrev Pl_P_agreed_1_61 (G : am_G) : ((Int32 × Int32 × Int32 × Int32 × Int32 × Int32 × Int32 × am_St) ⊕ ((Int32 × Int32 × Int32 × Int32 × am_St) ⊕ (Int32 × am_St))) → am_AQ → Prop := am_PL G M_P_agreed 61 (fun s : Int32 × Int32 × Int32 × Int32 × Int32 × Int32 × Int32 × am_St => [(8, .int s.2.2.2.2.2.2.1), (7, .int s.2.2.2.2.2.1), (6, .int s.2.2.2.2.1), (5, .int s.2.2.2.1), (4, .int s.2.2.1), (3, .int s.2.1), (2, .int s.1), (0, .ref 1)]) (fun s => s.2.2.2.2.2.2.2) (Pl_P_agreed_1_8 G)
noncomputable def g_P_agreed_1_104 (y0 : Int32) (y1 : Int32) (σ : am_St) : Option (Int32 × am_St) :=
  some ((y0 + y1, σ))
noncomputable def f_P_agreed_1_104 (y0 : Int32) (y1 : Int32) (σ : am_St) : Option (Int32 × am_St) := am_lk (g_P_agreed_1_104 y0 y1 σ)
theorem eq_P_agreed_1_104 (y0 : Int32) (y1 : Int32) (σ : am_St) : f_P_agreed_1_104 y0 y1 σ = g_P_agreed_1_104 y0 y1 σ := am_lk_eq _
set_option maxRecDepth 100000 in
set_option maxHeartbeats 4000000 in
theorem s_P_agreed_1_104 (G : am_G) (y0 : Int32) (y1 : Int32) (σ : am_St) (r : Int32 × am_St) (Q : am_AQ) (e : f_P_agreed_1_104 y0 y1 σ = some r) (hr : am_Pi r Q) : am_AW G M_P_agreed 104 [] [.int y1, .int y0] σ Q :=
  (show am_Snd G M_P_agreed 104 am_Pi _ from (sn_iadd (pc := 104) dX7_agreed_104 (sn_reti (pc := 105) (R := fun x τ => (some ((x, τ)))) dX7_agreed_105 rfl (fun _ _ _ _ e h => by cases e; exact h)))) _ _ _ _ _ ((eq_P_agreed_1_104 y0 y1 σ).symm.trans e) hr
noncomputable def g_P_agreed_1_120 (x2 : Int32) (x3 : Int32) (x4 : Int32) (x5 : Int32) (σ : am_St) : Option ((Int32 × Int32 × Int32 × Int32 × am_St) ⊕ (Int32 × am_St)) :=
  let v1 := x5 + 1
  some (.inl (x2, x3, x4, v1, σ))
noncomputable def f_P_agreed_1_120 (x2 : Int32) (x3 : Int32) (x4 : Int32) (x5 : Int32) (σ : am_St) : Option ((Int32 × Int32 × Int32 × Int32 × am_St) ⊕ (Int32 × am_St)) := am_lk (g_P_agreed_1_120 x2 x3 x4 x5 σ)
theorem eq_P_agreed_1_120 (x2 : Int32) (x3 : Int32) (x4 : Int32) (x5 : Int32) (σ : am_St) : f_P_agreed_1_120 x2 x3 x4 x5 σ = g_P_agreed_1_120 x2 x3 x4 x5 σ := am_lk_eq _
set_option maxRecDepth 100000 in
set_option maxHeartbeats 4000000 in
theorem s_P_agreed_1_120 (G : am_G) (x2 : Int32) (x3 : Int32) (x4 : Int32) (x5 : Int32) (σ : am_St) (r : (Int32 × Int32 × Int32 × Int32 × am_St) ⊕ (Int32 × am_St)) (Q : am_AQ) (e : f_P_agreed_1_120 x2 x3 x4 x5 σ = some r) (hr : (Pl_P_agreed_1_8 G) r Q) : am_AW G M_P_agreed 120 [(5, .int x5), (4, .int x4), (3, .int x3), (2, .int x2), (0, .ref 1)] [] σ Q :=
  (show am_Snd G M_P_agreed 120 (Pl_P_agreed_1_8 G) _ from (sn_iinc (pc := 120) (v := 1) dX7_agreed_120 rfl (Nat.le_of_ble_eq_true rfl) (sn_goto (pc := 123) (tgt := 8) dX7_agreed_123 rfl (sn_lf (pc := 8) (ln_a (i := 0) (q := 1) (ln_i (i := 2) (fun z0 => (ln_i (i := 3) (fun z1 => (ln_i (i := 4) (fun z2 => (ln_i (i := 5) (fun z3 => (ln_end (o := fun τ => (some (.inl (z0, z1, z2, z3, τ)) : Option ((Int32 × Int32 × Int32 × Int32 × am_St) ⊕ (Int32 × am_St)))) (fun _ _ _ e h => by cases e; exact h))))))))))))))) _ _ _ _ _ ((eq_P_agreed_1_120 x2 x3 x4 x5 σ).symm.trans e) hr
noncomputable def b_P_agreed_1_61 (x2 : Int32) (x3 : Int32) (x4 : Int32) (x5 : Int32) (x6 : Int32) (x7 : Int32) (x8 : Int32) (σ : am_St) : Option ((Int32 × Int32 × Int32 × Int32 × Int32 × Int32 × Int32 × am_St) ⊕ ((Int32 × Int32 × Int32 × Int32 × am_St) ⊕ (Int32 × am_St))) :=
  if (σ.1 1 2) ≤ x8 then
    (f_P_agreed_1_120 x2 x3 x4 x5 σ).map (fun r => .inr r)
  else
    if x7 ≤ x3 then
      let v1 := x3 - x7
      let v2 := x4 + 1
      let v3 := x8 + 1
      some (.inl (x2, v1, v2, x5, x6, x7, v3, σ))
    else
      if x2 = 0 then
        some (.inr (.inr ((x4, σ))))
      else
        if x6 = 0 then
          (f_P_agreed_1_104 (10 * x8) x5 σ).map (fun r => .inr (.inr r))
        else
          (f_P_agreed_1_104 (10 * x8) (σ.1 1 4) σ).map (fun r => .inr (.inr r))
noncomputable def f_P_agreed_1_61 (x2 : Int32) (x3 : Int32) (x4 : Int32) (x5 : Int32) (x6 : Int32) (x7 : Int32) (x8 : Int32) (σ : am_St) : Option ((Int32 × Int32 × Int32 × Int32 × am_St) ⊕ (Int32 × am_St)) := am_lp (fun s : Int32 × Int32 × Int32 × Int32 × Int32 × Int32 × Int32 × am_St => b_P_agreed_1_61 s.1 s.2.1 s.2.2.1 s.2.2.2.1 s.2.2.2.2.1 s.2.2.2.2.2.1 s.2.2.2.2.2.2.1 s.2.2.2.2.2.2.2) (x2, x3, x4, x5, x6, x7, x8, σ)
set_option maxRecDepth 100000 in
set_option maxHeartbeats 4000000 in
theorem sb_P_agreed_1_61 (G : am_G) (x2 : Int32) (x3 : Int32) (x4 : Int32) (x5 : Int32) (x6 : Int32) (x7 : Int32) (x8 : Int32) (σ : am_St) (r : (Int32 × Int32 × Int32 × Int32 × Int32 × Int32 × Int32 × am_St) ⊕ ((Int32 × Int32 × Int32 × Int32 × am_St) ⊕ (Int32 × am_St))) (Q : am_AQ) (e : b_P_agreed_1_61 x2 x3 x4 x5 x6 x7 x8 σ = some r) (hr : Pl_P_agreed_1_61 G r Q) : am_AW G M_P_agreed 61 [(8, .int x8), (7, .int x7), (6, .int x6), (5, .int x5), (4, .int x4), (3, .int x3), (2, .int x2), (0, .ref 1)] [] σ Q :=
  (show am_Snd G M_P_agreed 61 (Pl_P_agreed_1_61 G) _ from (sn_iload (pc := 61) dX7_agreed_61 (sn_aload_n (pc := 63) (i := 0) dX7_agreed_63 rfl (sn_gI (pc := 64) (h := 1) (f := 2) dX7_agreed_64 am_CL_3 sh_1 rfl (Nat.le_of_ble_eq_true rfl) tw_84 (sn_icmp_ge (pc := 67) (tgt := 120) dX7_agreed_67 rfl (sn_lf (pc := 120) (ln_a (i := 0) (q := 1) (ln_i (i := 2) (fun z0 => (ln_i (i := 3) (fun z1 => (ln_i (i := 4) (fun z2 => (ln_i (i := 5) (fun z3 => (ln_end (o := fun τ => ((f_P_agreed_1_120 z0 z1 z2 z3 τ).map (fun r => .inr r) : Option ((Int32 × Int32 × Int32 × Int32 × Int32 × Int32 × Int32 × am_St) ⊕ ((Int32 × Int32 × Int32 × Int32 × am_St) ⊕ (Int32 × am_St))))) (fun _ _ _ e h => by obtain ⟨r9, e9, rfl⟩ := am_map_some e; exact s_P_agreed_1_120 G z0 z1 z2 z3 _ _ _ e9 h)))))))))))) (sn_iload_n (pc := 70) (i := 3) dX7_agreed_70 rfl (sn_iload (pc := 71) dX7_agreed_71 (sn_icmp_ge (pc := 73) (tgt := 106) dX7_agreed_73 rfl (sn_iload_n (pc := 106) (i := 3) dX7_agreed_106 rfl (sn_iload (pc := 107) dX7_agreed_107 (sn_isub (pc := 109) dX7_agreed_109 (sn_istore_n (pc := 110) (i := 3) dX7_agreed_110 rfl (Nat.le_of_ble_eq_true rfl) (sn_iinc (pc := 111) (v := 1) dX7_agreed_111 rfl (Nat.le_of_ble_eq_true rfl) (sn_iinc (pc := 114) (v := 1) dX7_agreed_114 rfl (Nat.le_of_ble_eq_true rfl) (sn_goto (pc := 117) (tgt := 61) dX7_agreed_117 rfl (sn_lf (pc := 61) (ln_a (i := 0) (q := 1) (ln_i (i := 2) (fun z0 => (ln_i (i := 3) (fun z1 => (ln_i (i := 4) (fun z2 => (ln_i (i := 5) (fun z3 => (ln_i (i := 6) (fun z4 => (ln_i (i := 7) (fun z5 => (ln_i (i := 8) (fun z6 => (ln_end (o := fun τ => (some (.inl (z0, z1, z2, z3, z4, z5, z6, τ)) : Option ((Int32 × Int32 × Int32 × Int32 × Int32 × Int32 × Int32 × am_St) ⊕ ((Int32 × Int32 × Int32 × Int32 × am_St) ⊕ (Int32 × am_St))))) (fun _ _ _ e h => by cases e; exact h))))))))))))))))))))))))) (sn_iload_n (pc := 76) (i := 2) dX7_agreed_76 rfl (sn_if_ne (pc := 77) (tgt := 85) dX7_agreed_77 rfl (sn_bipush (pc := 85) (v := 10) dX7_agreed_85 rfl (sn_iload (pc := 87) dX7_agreed_87 (sn_imul (pc := 89) dX7_agreed_89 (sn_iload (pc := 90) dX7_agreed_90 (sn_if_eq (pc := 92) (tgt := 102) dX7_agreed_92 rfl (sn_iload (pc := 102) dX7_agreed_102 (sn_lf (pc := 104) (ln_si (fun w1 => (ln_si (fun w0 => (ln_end (o := fun τ => ((f_P_agreed_1_104 w0 w1 τ).map (fun r => .inr (.inr r)) : Option ((Int32 × Int32 × Int32 × Int32 × Int32 × Int32 × Int32 × am_St) ⊕ ((Int32 × Int32 × Int32 × Int32 × am_St) ⊕ (Int32 × am_St))))) (fun _ _ _ e h => by obtain ⟨r9, e9, rfl⟩ := am_map_some e; exact s_P_agreed_1_104 G w0 w1 _ _ _ e9 h)))))))) (sn_aload_n (pc := 95) (i := 0) dX7_agreed_95 rfl (sn_gI (pc := 96) (h := 1) (f := 4) dX7_agreed_96 am_CL_3 sh_1 rfl (Nat.le_of_ble_eq_true rfl) tw_93 (sn_goto (pc := 99) (tgt := 104) dX7_agreed_99 rfl (sn_lf (pc := 104) (ln_si (fun w1 => (ln_si (fun w0 => (ln_end (o := fun τ => ((f_P_agreed_1_104 w0 w1 τ).map (fun r => .inr (.inr r)) : Option ((Int32 × Int32 × Int32 × Int32 × Int32 × Int32 × Int32 × am_St) ⊕ ((Int32 × Int32 × Int32 × Int32 × am_St) ⊕ (Int32 × am_St))))) (fun _ _ _ e h => by obtain ⟨r9, e9, rfl⟩ := am_map_some e; exact s_P_agreed_1_104 G w0 w1 _ _ _ e9 h))))))))))))))) (sn_iload (pc := 80) dX7_agreed_80 (sn_goto (pc := 82) (tgt := 105) dX7_agreed_82 rfl (sn_reti (pc := 105) (R := fun x τ => (some (.inr (.inr ((x, τ)))) : Option ((Int32 × Int32 × Int32 × Int32 × Int32 × Int32 × Int32 × am_St) ⊕ ((Int32 × Int32 × Int32 × Int32 × am_St) ⊕ (Int32 × am_St))))) dX7_agreed_105 rfl (fun _ _ _ _ e h => by cases e; exact h)))))))))))))) _ _ _ _ _ e hr
theorem s_P_agreed_1_61 (G : am_G) (x2 : Int32) (x3 : Int32) (x4 : Int32) (x5 : Int32) (x6 : Int32) (x7 : Int32) (x8 : Int32) (σ : am_St) (r : (Int32 × Int32 × Int32 × Int32 × am_St) ⊕ (Int32 × am_St)) (Q : am_AQ) (e : f_P_agreed_1_61 x2 x3 x4 x5 x6 x7 x8 σ = some r) (hr : (Pl_P_agreed_1_8 G) r Q) : am_AW G M_P_agreed 61 [(8, .int x8), (7, .int x7), (6, .int x6), (5, .int x5), (4, .int x4), (3, .int x3), (2, .int x2), (0, .ref 1)] [] σ Q :=
  am_loop (P := (Pl_P_agreed_1_8 G)) (L := fun s : Int32 × Int32 × Int32 × Int32 × Int32 × Int32 × Int32 × am_St => [(8, .int s.2.2.2.2.2.2.1), (7, .int s.2.2.2.2.2.1), (6, .int s.2.2.2.2.1), (5, .int s.2.2.2.1), (4, .int s.2.2.1), (3, .int s.2.1), (2, .int s.1), (0, .ref 1)]) (g := fun s => s.2.2.2.2.2.2.2) (fun s o Q e hr => sb_P_agreed_1_61 G s.1 s.2.1 s.2.2.1 s.2.2.2.1 s.2.2.2.2.1 s.2.2.2.2.2.1 s.2.2.2.2.2.2.1 s.2.2.2.2.2.2.2 o Q e hr) (x2, x3, x4, x5, x6, x7, x8, σ) r Q e hr
noncomputable def g_P_agreed_1_56 (x2 : Int32) (x3 : Int32) (x4 : Int32) (x5 : Int32) (x6 : Int32) (y0 : Int32) (σ : am_St) : Option ((Int32 × Int32 × Int32 × Int32 × am_St) ⊕ (Int32 × am_St)) :=
  f_P_agreed_1_61 x2 x3 x4 x5 x6 y0 0 σ
noncomputable def f_P_agreed_1_56 (x2 : Int32) (x3 : Int32) (x4 : Int32) (x5 : Int32) (x6 : Int32) (y0 : Int32) (σ : am_St) : Option ((Int32 × Int32 × Int32 × Int32 × am_St) ⊕ (Int32 × am_St)) := am_lk (g_P_agreed_1_56 x2 x3 x4 x5 x6 y0 σ)
theorem eq_P_agreed_1_56 (x2 : Int32) (x3 : Int32) (x4 : Int32) (x5 : Int32) (x6 : Int32) (y0 : Int32) (σ : am_St) : f_P_agreed_1_56 x2 x3 x4 x5 x6 y0 σ = g_P_agreed_1_56 x2 x3 x4 x5 x6 y0 σ := am_lk_eq _
set_option maxRecDepth 100000 in
set_option maxHeartbeats 4000000 in
theorem s_P_agreed_1_56 (G : am_G) (x2 : Int32) (x3 : Int32) (x4 : Int32) (x5 : Int32) (x6 : Int32) (y0 : Int32) (σ : am_St) (r : (Int32 × Int32 × Int32 × Int32 × am_St) ⊕ (Int32 × am_St)) (Q : am_AQ) (e : f_P_agreed_1_56 x2 x3 x4 x5 x6 y0 σ = some r) (hr : (Pl_P_agreed_1_8 G) r Q) : am_AW G M_P_agreed 56 [(6, .int x6), (5, .int x5), (4, .int x4), (3, .int x3), (2, .int x2), (0, .ref 1)] [.int y0] σ Q :=
  (show am_Snd G M_P_agreed 56 (Pl_P_agreed_1_8 G) _ from (sn_istore (pc := 56) dX7_agreed_56 (Nat.le_of_ble_eq_true rfl) (sn_iconst (pc := 58) (v := 0) dX7_agreed_58 rfl (sn_istore (pc := 59) dX7_agreed_59 (Nat.le_of_ble_eq_true rfl) (sn_lf (pc := 61) (ln_a (i := 0) (q := 1) (ln_i (i := 2) (fun z0 => (ln_i (i := 3) (fun z1 => (ln_i (i := 4) (fun z2 => (ln_i (i := 5) (fun z3 => (ln_i (i := 6) (fun z4 => (ln_i (i := 7) (fun z5 => (ln_i (i := 8) (fun z6 => (ln_end (o := fun τ => f_P_agreed_1_61 z0 z1 z2 z3 z4 z5 z6 τ) (fun _ _ _ e h => s_P_agreed_1_61 G z0 z1 z2 z3 z4 z5 z6 _ _ _ e h)))))))))))))))))))))) _ _ _ _ _ ((eq_P_agreed_1_56 x2 x3 x4 x5 x6 y0 σ).symm.trans e) hr
noncomputable def g_P_agreed_1_46 (x2 : Int32) (x3 : Int32) (x4 : Int32) (x5 : Int32) (x6 : Int32) (σ : am_St) : Option ((Int32 × Int32 × Int32 × Int32 × am_St) ⊕ (Int32 × am_St)) :=
  if x6 = 0 then
    f_P_agreed_1_56 x2 x3 x4 x5 x6 2 σ
  else
    f_P_agreed_1_56 x2 x3 x4 x5 x6 5 σ
noncomputable def f_P_agreed_1_46 (x2 : Int32) (x3 : Int32) (x4 : Int32) (x5 : Int32) (x6 : Int32) (σ : am_St) : Option ((Int32 × Int32 × Int32 × Int32 × am_St) ⊕ (Int32 × am_St)) := am_lk (g_P_agreed_1_46 x2 x3 x4 x5 x6 σ)
theorem eq_P_agreed_1_46 (x2 : Int32) (x3 : Int32) (x4 : Int32) (x5 : Int32) (x6 : Int32) (σ : am_St) : f_P_agreed_1_46 x2 x3 x4 x5 x6 σ = g_P_agreed_1_46 x2 x3 x4 x5 x6 σ := am_lk_eq _
set_option maxRecDepth 100000 in
set_option maxHeartbeats 4000000 in
theorem s_P_agreed_1_46 (G : am_G) (x2 : Int32) (x3 : Int32) (x4 : Int32) (x5 : Int32) (x6 : Int32) (σ : am_St) (r : (Int32 × Int32 × Int32 × Int32 × am_St) ⊕ (Int32 × am_St)) (Q : am_AQ) (e : f_P_agreed_1_46 x2 x3 x4 x5 x6 σ = some r) (hr : (Pl_P_agreed_1_8 G) r Q) : am_AW G M_P_agreed 46 [(6, .int x6), (5, .int x5), (4, .int x4), (3, .int x3), (2, .int x2), (0, .ref 1)] [] σ Q :=
  (show am_Snd G M_P_agreed 46 (Pl_P_agreed_1_8 G) _ from (sn_iload (pc := 46) dX7_agreed_46 (sn_if_eq (pc := 48) (tgt := 55) dX7_agreed_48 rfl (sn_iconst (pc := 55) (v := 2) dX7_agreed_55 rfl (sn_lf (pc := 56) (ln_a (i := 0) (q := 1) (ln_i (i := 2) (fun z0 => (ln_i (i := 3) (fun z1 => (ln_i (i := 4) (fun z2 => (ln_i (i := 5) (fun z3 => (ln_i (i := 6) (fun z4 => (ln_si (fun w0 => (ln_end (o := fun τ => f_P_agreed_1_56 z0 z1 z2 z3 z4 w0 τ) (fun _ _ _ e h => s_P_agreed_1_56 G z0 z1 z2 z3 z4 w0 _ _ _ e h))))))))))))))))) (sn_iconst (pc := 51) (v := 5) dX7_agreed_51 rfl (sn_goto (pc := 52) (tgt := 56) dX7_agreed_52 rfl (sn_lf (pc := 56) (ln_a (i := 0) (q := 1) (ln_i (i := 2) (fun z0 => (ln_i (i := 3) (fun z1 => (ln_i (i := 4) (fun z2 => (ln_i (i := 5) (fun z3 => (ln_i (i := 6) (fun z4 => (ln_si (fun w0 => (ln_end (o := fun τ => f_P_agreed_1_56 z0 z1 z2 z3 z4 w0 τ) (fun _ _ _ e h => s_P_agreed_1_56 G z0 z1 z2 z3 z4 w0 _ _ _ e h))))))))))))))))))))) _ _ _ _ _ ((eq_P_agreed_1_46 x2 x3 x4 x5 x6 σ).symm.trans e) hr
noncomputable def g_P_agreed_1_27 (x2 : Int32) (x3 : Int32) (x4 : Int32) (x5 : Int32) (y0 : Int32) (σ : am_St) : Option ((Int32 × Int32 × Int32 × Int32 × am_St) ⊕ (Int32 × am_St)) :=
  if y0 = 0 then
    if x5 = (σ.1 1 4) then
      f_P_agreed_1_120 x2 x3 x4 x5 σ
    else
      f_P_agreed_1_46 x2 x3 x4 x5 y0 σ
  else
    f_P_agreed_1_46 x2 x3 x4 x5 y0 σ
noncomputable def f_P_agreed_1_27 (x2 : Int32) (x3 : Int32) (x4 : Int32) (x5 : Int32) (y0 : Int32) (σ : am_St) : Option ((Int32 × Int32 × Int32 × Int32 × am_St) ⊕ (Int32 × am_St)) := am_lk (g_P_agreed_1_27 x2 x3 x4 x5 y0 σ)
theorem eq_P_agreed_1_27 (x2 : Int32) (x3 : Int32) (x4 : Int32) (x5 : Int32) (y0 : Int32) (σ : am_St) : f_P_agreed_1_27 x2 x3 x4 x5 y0 σ = g_P_agreed_1_27 x2 x3 x4 x5 y0 σ := am_lk_eq _
set_option maxRecDepth 100000 in
set_option maxHeartbeats 4000000 in
theorem s_P_agreed_1_27 (G : am_G) (x2 : Int32) (x3 : Int32) (x4 : Int32) (x5 : Int32) (y0 : Int32) (σ : am_St) (r : (Int32 × Int32 × Int32 × Int32 × am_St) ⊕ (Int32 × am_St)) (Q : am_AQ) (e : f_P_agreed_1_27 x2 x3 x4 x5 y0 σ = some r) (hr : (Pl_P_agreed_1_8 G) r Q) : am_AW G M_P_agreed 27 [(5, .int x5), (4, .int x4), (3, .int x3), (2, .int x2), (0, .ref 1)] [.int y0] σ Q :=
  (show am_Snd G M_P_agreed 27 (Pl_P_agreed_1_8 G) _ from (sn_istore (pc := 27) dX7_agreed_27 (Nat.le_of_ble_eq_true rfl) (sn_iload (pc := 29) dX7_agreed_29 (sn_if_ne (pc := 31) (tgt := 46) dX7_agreed_31 rfl (sn_lf (pc := 46) (ln_a (i := 0) (q := 1) (ln_i (i := 2) (fun z0 => (ln_i (i := 3) (fun z1 => (ln_i (i := 4) (fun z2 => (ln_i (i := 5) (fun z3 => (ln_i (i := 6) (fun z4 => (ln_end (o := fun τ => f_P_agreed_1_46 z0 z1 z2 z3 z4 τ) (fun _ _ _ e h => s_P_agreed_1_46 G z0 z1 z2 z3 z4 _ _ _ e h)))))))))))))) (sn_iload (pc := 34) dX7_agreed_34 (sn_aload_n (pc := 36) (i := 0) dX7_agreed_36 rfl (sn_gI (pc := 37) (h := 1) (f := 4) dX7_agreed_37 am_CL_3 sh_1 rfl (Nat.le_of_ble_eq_true rfl) tw_93 (sn_icmp_ne (pc := 40) (tgt := 46) dX7_agreed_40 rfl (sn_lf (pc := 46) (ln_a (i := 0) (q := 1) (ln_i (i := 2) (fun z0 => (ln_i (i := 3) (fun z1 => (ln_i (i := 4) (fun z2 => (ln_i (i := 5) (fun z3 => (ln_i (i := 6) (fun z4 => (ln_end (o := fun τ => f_P_agreed_1_46 z0 z1 z2 z3 z4 τ) (fun _ _ _ e h => s_P_agreed_1_46 G z0 z1 z2 z3 z4 _ _ _ e h)))))))))))))) (sn_goto (pc := 43) (tgt := 120) dX7_agreed_43 rfl (sn_lf (pc := 120) (ln_a (i := 0) (q := 1) (ln_i (i := 2) (fun z0 => (ln_i (i := 3) (fun z1 => (ln_i (i := 4) (fun z2 => (ln_i (i := 5) (fun z3 => (ln_end (o := fun τ => f_P_agreed_1_120 z0 z1 z2 z3 τ) (fun _ _ _ e h => s_P_agreed_1_120 G z0 z1 z2 z3 _ _ _ e h))))))))))))))))))))) _ _ _ _ _ ((eq_P_agreed_1_27 x2 x3 x4 x5 y0 σ).symm.trans e) hr
noncomputable def b_P_agreed_1_8 (x2 : Int32) (x3 : Int32) (x4 : Int32) (x5 : Int32) (σ : am_St) : Option ((Int32 × Int32 × Int32 × Int32 × am_St) ⊕ (Int32 × am_St)) :=
  if (σ.1 1 1) ≤ x5 then
    if x2 = 0 then
      some (.inr ((x4, σ)))
    else
      some (.inr (((-9), σ)))
  else
    if 0 ≤ x5 then
      f_P_agreed_1_27 x2 x3 x4 x5 0 σ
    else
      f_P_agreed_1_27 x2 x3 x4 x5 1 σ
noncomputable def f_P_agreed_1_8 (x2 : Int32) (x3 : Int32) (x4 : Int32) (x5 : Int32) (σ : am_St) : Option (Int32 × am_St) := am_lp (fun s : Int32 × Int32 × Int32 × Int32 × am_St => b_P_agreed_1_8 s.1 s.2.1 s.2.2.1 s.2.2.2.1 s.2.2.2.2) (x2, x3, x4, x5, σ)
set_option maxRecDepth 100000 in
set_option maxHeartbeats 4000000 in
theorem sb_P_agreed_1_8 (G : am_G) (x2 : Int32) (x3 : Int32) (x4 : Int32) (x5 : Int32) (σ : am_St) (r : (Int32 × Int32 × Int32 × Int32 × am_St) ⊕ (Int32 × am_St)) (Q : am_AQ) (e : b_P_agreed_1_8 x2 x3 x4 x5 σ = some r) (hr : Pl_P_agreed_1_8 G r Q) : am_AW G M_P_agreed 8 [(5, .int x5), (4, .int x4), (3, .int x3), (2, .int x2), (0, .ref 1)] [] σ Q :=
  (show am_Snd G M_P_agreed 8 (Pl_P_agreed_1_8 G) _ from (sn_iload (pc := 8) dX7_agreed_8 (sn_aload_n (pc := 10) (i := 0) dX7_agreed_10 rfl (sn_gI (pc := 11) (h := 1) (f := 1) dX7_agreed_11 am_CL_3 sh_1 rfl (Nat.le_of_ble_eq_true rfl) tw_79 (sn_icmp_ge (pc := 14) (tgt := 126) dX7_agreed_14 rfl (sn_iload_n (pc := 126) (i := 2) dX7_agreed_126 rfl (sn_if_ne (pc := 127) (tgt := 135) dX7_agreed_127 rfl (sn_bipush (pc := 135) (v := (-9)) dX7_agreed_135 (show (Int8.ofInt (-9)).toInt32 = (-9) by decide) (sn_reti (pc := 137) (R := fun x τ => (some (.inr ((x, τ))) : Option ((Int32 × Int32 × Int32 × Int32 × am_St) ⊕ (Int32 × am_St)))) dX7_agreed_137 rfl (fun _ _ _ _ e h => by cases e; exact h))) (sn_iload (pc := 130) dX7_agreed_130 (sn_goto (pc := 132) (tgt := 137) dX7_agreed_132 rfl (sn_reti (pc := 137) (R := fun x τ => (some (.inr ((x, τ))) : Option ((Int32 × Int32 × Int32 × Int32 × am_St) ⊕ (Int32 × am_St)))) dX7_agreed_137 rfl (fun _ _ _ _ e h => by cases e; exact h)))))) (sn_iload (pc := 17) dX7_agreed_17 (sn_if_ge (pc := 19) (tgt := 26) dX7_agreed_19 rfl (sn_iconst (pc := 26) (v := 0) dX7_agreed_26 rfl (sn_lf (pc := 27) (ln_a (i := 0) (q := 1) (ln_i (i := 2) (fun z0 => (ln_i (i := 3) (fun z1 => (ln_i (i := 4) (fun z2 => (ln_i (i := 5) (fun z3 => (ln_si (fun w0 => (ln_end (o := fun τ => f_P_agreed_1_27 z0 z1 z2 z3 w0 τ) (fun _ _ _ e h => s_P_agreed_1_27 G z0 z1 z2 z3 w0 _ _ _ e h))))))))))))))) (sn_iconst (pc := 22) (v := 1) dX7_agreed_22 rfl (sn_goto (pc := 23) (tgt := 27) dX7_agreed_23 rfl (sn_lf (pc := 27) (ln_a (i := 0) (q := 1) (ln_i (i := 2) (fun z0 => (ln_i (i := 3) (fun z1 => (ln_i (i := 4) (fun z2 => (ln_i (i := 5) (fun z3 => (ln_si (fun w0 => (ln_end (o := fun τ => f_P_agreed_1_27 z0 z1 z2 z3 w0 τ) (fun _ _ _ e h => s_P_agreed_1_27 G z0 z1 z2 z3 w0 _ _ _ e h))))))))))))))))))))))) _ _ _ _ _ e hr
theorem s_P_agreed_1_8 (G : am_G) (x2 : Int32) (x3 : Int32) (x4 : Int32) (x5 : Int32) (σ : am_St) (r : Int32 × am_St) (Q : am_AQ) (e : f_P_agreed_1_8 x2 x3 x4 x5 σ = some r) (hr : am_Pi r Q) : am_AW G M_P_agreed 8 [(5, .int x5), (4, .int x4), (3, .int x3), (2, .int x2), (0, .ref 1)] [] σ Q :=
  am_loop (P := am_Pi) (L := fun s : Int32 × Int32 × Int32 × Int32 × am_St => [(5, .int s.2.2.2.1), (4, .int s.2.2.1), (3, .int s.2.1), (2, .int s.1), (0, .ref 1)]) (g := fun s => s.2.2.2.2) (fun s o Q e hr => sb_P_agreed_1_8 G s.1 s.2.1 s.2.2.1 s.2.2.2.1 s.2.2.2.2 o Q e hr) (x2, x3, x4, x5, σ) r Q e hr
noncomputable def g_P_agreed_1 (x1 : Int32) (x2 : Int32) (σ : am_St) : Option (Int32 × am_St) :=
  f_P_agreed_1_8 x2 x1 0 ((-1)) σ
noncomputable def f_P_agreed_1 (x1 : Int32) (x2 : Int32) (σ : am_St) : Option (Int32 × am_St) := am_lk (g_P_agreed_1 x1 x2 σ)
theorem eq_P_agreed_1 (x1 : Int32) (x2 : Int32) (σ : am_St) : f_P_agreed_1 x1 x2 σ = g_P_agreed_1 x1 x2 σ := am_lk_eq _
set_option maxRecDepth 100000 in
set_option maxHeartbeats 4000000 in
theorem s_P_agreed_1 (G : am_G) (x1 : Int32) (x2 : Int32) (σ : am_St) (r : Int32 × am_St) (Q : am_AQ) (e : f_P_agreed_1 x1 x2 σ = some r) (hr : am_Pi r Q) : am_AW G M_P_agreed 0 [(0, .ref 1), (1, .int x1), (2, .int x2)] [] σ Q :=
  (show am_Snd G M_P_agreed 0 am_Pi _ from (sn_iload_n (pc := 0) (i := 1) dX7_agreed_0 rfl (sn_istore_n (pc := 1) (i := 3) dX7_agreed_1 rfl (Nat.le_of_ble_eq_true rfl) (sn_iconst (pc := 2) (v := 0) dX7_agreed_2 rfl (sn_istore (pc := 3) dX7_agreed_3 (Nat.le_of_ble_eq_true rfl) (sn_iconst (pc := 5) (v := (-1)) dX7_agreed_5 (show Int32.ofInt (-1) = (-1) by decide) (sn_istore (pc := 6) dX7_agreed_6 (Nat.le_of_ble_eq_true rfl) (sn_lf (pc := 8) (ln_a (i := 0) (q := 1) (ln_i (i := 2) (fun z0 => (ln_i (i := 3) (fun z1 => (ln_i (i := 4) (fun z2 => (ln_i (i := 5) (fun z3 => (ln_end (o := fun τ => f_P_agreed_1_8 z0 z1 z2 z3 τ) (fun _ _ _ e h => s_P_agreed_1_8 G z0 z1 z2 z3 _ _ _ e h))))))))))))))))))) _ _ _ _ _ ((eq_P_agreed_1 x1 x2 σ).symm.trans e) hr
noncomputable def cF_P_agreed_1 : am_Fn := fun _ args σ K => match args with
  | [.ref q0, .int z1, .int z2] => match Nat.beq q0 1 with
    | true => (f_P_agreed_1 z1 z2 σ).bind (fun p => K (some (.int p.1)) p.2)
    | _ => none
  | _ => none
theorem cal_P_agreed_1 (G : am_G) : am_Cal G M_P_agreed cF_P_agreed_1 := by
  intro ρ args σ K r e
  unfold cF_P_agreed_1 at e
  split at e
  · split at e
    · rename_i hq0
      obtain ⟨p, h1, h2⟩ := am_bind_some e
      rw [Nat.eq_of_beq_eq_true hq0]
      exact ⟨some (.int p.1), p.2, am_Met.of rfl (Nat.le_of_ble_eq_true rfl) (s_P_agreed_1 G _ _ σ p _ h1 ⟨rfl, rfl⟩), h2⟩
    · cases e
  · cases e
abbrev M_X_tale : am_MD := (yX11_tale, cX11_tale, 3, (some .int), 1, 28)
theorem dX11_tale_0 : decode cX11_tale 0 = .ok (.iload_n 1, 1) := by decide +kernel
theorem dX11_tale_1 : decode cX11_tale 1 = .ok (.ifCond .ge 10, 3) := by decide +kernel
theorem dX11_tale_4 : decode cX11_tale 4 = .ok (.aload_n 0, 1) := by decide +kernel
theorem dX11_tale_5 : decode cX11_tale 5 = .ok (.bipush (-4), 2) := by decide +kernel
theorem dX11_tale_7 : decode cX11_tale 7 = .ok (.invokevirtual 55, 3) := by decide +kernel
theorem dX11_tale_10 : decode cX11_tale 10 = .ok (.ireturn, 1) := by decide +kernel
theorem dX11_tale_11 : decode cX11_tale 11 = .ok (.iload_n 1, 1) := by decide +kernel
theorem dX11_tale_12 : decode cX11_tale 12 = .ok (.bipush 99, 2) := by decide +kernel
theorem dX11_tale_14 : decode cX11_tale 14 = .ok (.if_icmp .le 10, 3) := by decide +kernel
theorem dX11_tale_17 : decode cX11_tale 17 = .ok (.aload_n 0, 1) := by decide +kernel
theorem dX11_tale_18 : decode cX11_tale 18 = .ok (.bipush (-6), 2) := by decide +kernel
theorem dX11_tale_20 : decode cX11_tale 20 = .ok (.invokevirtual 55, 3) := by decide +kernel
theorem dX11_tale_23 : decode cX11_tale 23 = .ok (.ireturn, 1) := by decide +kernel
theorem dX11_tale_24 : decode cX11_tale 24 = .ok (.iload_n 2, 1) := by decide +kernel
theorem dX11_tale_25 : decode cX11_tale 25 = .ok (.invokestatic 132, 3) := by decide +kernel
theorem dX11_tale_28 : decode cX11_tale 28 = .ok (.ifCond .ne 10, 3) := by decide +kernel
theorem dX11_tale_31 : decode cX11_tale 31 = .ok (.aload_n 0, 1) := by decide +kernel
theorem dX11_tale_32 : decode cX11_tale 32 = .ok (.bipush (-2), 2) := by decide +kernel
theorem dX11_tale_34 : decode cX11_tale 34 = .ok (.invokevirtual 55, 3) := by decide +kernel
theorem dX11_tale_37 : decode cX11_tale 37 = .ok (.ireturn, 1) := by decide +kernel
theorem dX11_tale_38 : decode cX11_tale 38 = .ok (.aload_n 0, 1) := by decide +kernel
theorem dX11_tale_39 : decode cX11_tale 39 = .ok (.getfield 10, 3) := by decide +kernel
theorem dX11_tale_42 : decode cX11_tale 42 = .ok (.iload_n 1, 1) := by decide +kernel
theorem dX11_tale_43 : decode cX11_tale 43 = .ok (.iload_n 2, 1) := by decide +kernel
theorem dX11_tale_44 : decode cX11_tale 44 = .ok (.invokestatic 231, 3) := by decide +kernel
theorem dX11_tale_47 : decode cX11_tale 47 = .ok (.ireturn, 1) := by decide +kernel
noncomputable def g_X_tale (x1 : Int32) (x2 : Int32) (σ : am_St) : Option (Int32 × am_St) :=
  if 0 ≤ x1 then
    if x1 ≤ 99 then
      (f_X_isZeroOrOne x2 σ).bind (fun p1 =>
        if p1.1 = 0 then
          (f_X_refuse (-2) p1.2).bind (fun p3 =>
            some ((p3.1, p3.2)))
        else
          (f_P_agreed_1 x1 x2 p1.2).bind (fun p2 =>
            some ((p2.1, p2.2))))
    else
      (f_X_refuse (-6) σ).bind (fun p4 =>
        some ((p4.1, p4.2)))
  else
    (f_X_refuse (-4) σ).bind (fun p5 =>
      some ((p5.1, p5.2)))
noncomputable def f_X_tale (x1 : Int32) (x2 : Int32) (σ : am_St) : Option (Int32 × am_St) := am_lk (g_X_tale x1 x2 σ)
theorem eq_X_tale (x1 : Int32) (x2 : Int32) (σ : am_St) : f_X_tale x1 x2 σ = g_X_tale x1 x2 σ := am_lk_eq _
set_option maxRecDepth 100000 in
set_option maxHeartbeats 4000000 in
theorem s_X_tale (G : am_G) (x1 : Int32) (x2 : Int32) (σ : am_St) (r : Int32 × am_St) (Q : am_AQ) (e : f_X_tale x1 x2 σ = some r) (hr : am_Pi r Q) : am_AW G M_X_tale 0 [(0, .ref 0), (1, .int x1), (2, .int x2)] [] σ Q :=
  (show am_Snd G M_X_tale 0 am_Pi _ from (sn_iload_n (pc := 0) (i := 1) dX11_tale_0 rfl (sn_if_ge (pc := 1) (tgt := 11) dX11_tale_1 rfl (sn_iload_n (pc := 11) (i := 1) dX11_tale_11 rfl (sn_bipush (pc := 12) (v := 99) dX11_tale_12 rfl (sn_icmp_le (pc := 14) (tgt := 24) dX11_tale_14 rfl (sn_iload_n (pc := 24) (i := 2) dX11_tale_24 rfl (sn_callS (pc := 25) (N := M_X_isZeroOrOne) dX11_tale_25 (cal_X_isZeroOrOne G) tw_549 tw_550 tw_1 tw_551 dsc_X11_isZeroOrOne rfl (sn_if_ne (pc := 28) (tgt := 38) dX11_tale_28 rfl (sn_aload_n (pc := 38) (i := 0) dX11_tale_38 rfl (sn_gR (r0 := 1) (pc := 39) (h := 0) (f := 0) dX11_tale_39 am_CL_10 sh_0 rfl (Nat.le_of_ble_eq_true rfl) tw_219 (sn_iload_n (pc := 42) (i := 1) dX11_tale_42 rfl (sn_iload_n (pc := 43) (i := 2) dX11_tale_43 rfl (sn_callS (pc := 44) (N := M_P_agreed) dX11_tale_44 (cal_P_agreed_1 G) tw_785 tw_786 tw_16 tw_787 dsc_X7_agreed rfl (sn_reti (pc := 47) (R := fun x τ => (some ((x, τ)))) dX11_tale_47 rfl (fun _ _ _ _ e h => by cases e; exact h))))))) (sn_aload_n (pc := 31) (i := 0) dX11_tale_31 rfl (sn_bipush (pc := 32) (v := (-2)) dX11_tale_32 (show (Int8.ofInt (-2)).toInt32 = (-2) by decide) (sn_callV (pc := 34) (N := M_X_refuse) dX11_tale_34 (cal_X_refuse G) sh_0 rfl tw_251 tw_253 tp_0 tw_1 tw_254 dsc_X11_refuse rfl (sn_reti (pc := 37) (R := fun x τ => (some ((x, τ)))) dX11_tale_37 rfl (fun _ _ _ _ e h => by cases e; exact h)))))))) (sn_aload_n (pc := 17) (i := 0) dX11_tale_17 rfl (sn_bipush (pc := 18) (v := (-6)) dX11_tale_18 (show (Int8.ofInt (-6)).toInt32 = (-6) by decide) (sn_callV (pc := 20) (N := M_X_refuse) dX11_tale_20 (cal_X_refuse G) sh_0 rfl tw_251 tw_253 tp_0 tw_1 tw_254 dsc_X11_refuse rfl (sn_reti (pc := 23) (R := fun x τ => (some ((x, τ)))) dX11_tale_23 rfl (fun _ _ _ _ e h => by cases e; exact h)))))))) (sn_aload_n (pc := 4) (i := 0) dX11_tale_4 rfl (sn_bipush (pc := 5) (v := (-4)) dX11_tale_5 (show (Int8.ofInt (-4)).toInt32 = (-4) by decide) (sn_callV (pc := 7) (N := M_X_refuse) dX11_tale_7 (cal_X_refuse G) sh_0 rfl tw_251 tw_253 tp_0 tw_1 tw_254 dsc_X11_refuse rfl (sn_reti (pc := 10) (R := fun x τ => (some ((x, τ)))) dX11_tale_10 rfl (fun _ _ _ _ e h => by cases e; exact h)))))))) _ _ _ _ _ ((eq_X_tale x1 x2 σ).symm.trans e) hr
noncomputable def cF_X_tale : am_Fn := fun _ args σ K => match args with
  | [.ref q0, .int z1, .int z2] => match Nat.beq q0 0 with
    | true => (f_X_tale z1 z2 σ).bind (fun p => K (some (.int p.1)) p.2)
    | _ => none
  | _ => none
theorem cal_X_tale (G : am_G) : am_Cal G M_X_tale cF_X_tale := by
  intro ρ args σ K r e
  unfold cF_X_tale at e
  split at e
  · split at e
    · rename_i hq0
      obtain ⟨p, h1, h2⟩ := am_bind_some e
      rw [Nat.eq_of_beq_eq_true hq0]
      exact ⟨some (.int p.1), p.2, am_Met.of rfl (Nat.le_of_ble_eq_true rfl) (s_X_tale G _ _ σ p _ h1 ⟨rfl, rfl⟩), h2⟩
    · cases e
  · cases e
