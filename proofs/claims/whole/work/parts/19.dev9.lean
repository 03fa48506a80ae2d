abbrev M_X_missed : am_MD := (yX11_missed, cX11_missed, 3, (some .long), 5, 113)
theorem dX11_missed_0 : decode cX11_missed 0 = .ok (.iload_n 1, 1) := by decide +kernel
theorem dX11_missed_1 : decode cX11_missed 1 = .ok (.ifCond .ge 10, 3) := by decide +kernel
theorem dX11_missed_4 : decode cX11_missed 4 = .ok (.aload_n 0, 1) := by decide +kernel
theorem dX11_missed_5 : decode cX11_missed 5 = .ok (.bipush (-4), 2) := by decide +kernel
theorem dX11_missed_7 : decode cX11_missed 7 = .ok (.invokevirtual 177, 3) := by decide +kernel
theorem dX11_missed_10 : decode cX11_missed 10 = .ok (.lreturn, 1) := by decide +kernel
theorem dX11_missed_11 : decode cX11_missed 11 = .ok (.iload_n 1, 1) := by decide +kernel
theorem dX11_missed_12 : decode cX11_missed 12 = .ok (.bipush 10, 2) := by decide +kernel
theorem dX11_missed_14 : decode cX11_missed 14 = .ok (.if_icmp .le 10, 3) := by decide +kernel
theorem dX11_missed_17 : decode cX11_missed 17 = .ok (.aload_n 0, 1) := by decide +kernel
theorem dX11_missed_18 : decode cX11_missed 18 = .ok (.bipush (-6), 2) := by decide +kernel
theorem dX11_missed_20 : decode cX11_missed 20 = .ok (.invokevirtual 177, 3) := by decide +kernel
theorem dX11_missed_23 : decode cX11_missed 23 = .ok (.lreturn, 1) := by decide +kernel
theorem dX11_missed_24 : decode cX11_missed 24 = .ok (.iload_n 2, 1) := by decide +kernel
theorem dX11_missed_25 : decode cX11_missed 25 = .ok (.invokestatic 132, 3) := by decide +kernel
theorem dX11_missed_28 : decode cX11_missed 28 = .ok (.ifCond .ne 10, 3) := by decide +kernel
theorem dX11_missed_31 : decode cX11_missed 31 = .ok (.aload_n 0, 1) := by decide +kernel
theorem dX11_missed_32 : decode cX11_missed 32 = .ok (.bipush (-2), 2) := by decide +kernel
theorem dX11_missed_34 : decode cX11_missed 34 = .ok (.invokevirtual 177, 3) := by decide +kernel
theorem dX11_missed_37 : decode cX11_missed 37 = .ok (.lreturn, 1) := by decide +kernel
theorem dX11_missed_38 : decode cX11_missed 38 = .ok (.aload_n 0, 1) := by decide +kernel
theorem dX11_missed_39 : decode cX11_missed 39 = .ok (.getfield 40, 3) := by decide +kernel
theorem dX11_missed_42 : decode cX11_missed 42 = .ok (.aload_n 0, 1) := by decide +kernel
theorem dX11_missed_43 : decode cX11_missed 43 = .ok (.getfield 10, 3) := by decide +kernel
theorem dX11_missed_46 : decode cX11_missed 46 = .ok (.aload_n 0, 1) := by decide +kernel
theorem dX11_missed_47 : decode cX11_missed 47 = .ok (.getfield 33, 3) := by decide +kernel
theorem dX11_missed_50 : decode cX11_missed 50 = .ok (.invokevirtual 181, 3) := by decide +kernel
theorem dX11_missed_53 : decode cX11_missed 53 = .ok (.aload_n 0, 1) := by decide +kernel
theorem dX11_missed_54 : decode cX11_missed 54 = .ok (.getfield 40, 3) := by decide +kernel
theorem dX11_missed_57 : decode cX11_missed 57 = .ok (.aload_n 0, 1) := by decide +kernel
theorem dX11_missed_58 : decode cX11_missed 58 = .ok (.getfield 40, 3) := by decide +kernel
theorem dX11_missed_61 : decode cX11_missed 61 = .ok (.iload_n 1, 1) := by decide +kernel
theorem dX11_missed_62 : decode cX11_missed 62 = .ok (.aload_n 0, 1) := by decide +kernel
theorem dX11_missed_63 : decode cX11_missed 63 = .ok (.getfield 10, 3) := by decide +kernel
theorem dX11_missed_66 : decode cX11_missed 66 = .ok (.getfield 171, 3) := by decide +kernel
theorem dX11_missed_69 : decode cX11_missed 69 = .ok (.invokevirtual 268, 3) := by decide +kernel
theorem dX11_missed_72 : decode cX11_missed 72 = .ok (.iload_n 2, 1) := by decide +kernel
theorem dX11_missed_73 : decode cX11_missed 73 = .ok (.invokevirtual 271, 3) := by decide +kernel
theorem dX11_missed_76 : decode cX11_missed 76 = .ok (.lreturn, 1) := by decide +kernel
noncomputable def g_X_missed_53 (x1 : Int32) (x2 : Int32) (σ : am_St) : Option (Int64 × am_St) :=
  (f_O_punishedFrom x1 (σ.1 1 2) σ).bind (fun p1 =>
    (f_O_shareBeside p1.1 x2 p1.2).bind (fun p2 =>
      some ((p2.1, p2.2))))
noncomputable def f_X_missed_53 (x1 : Int32) (x2 : Int32) (σ : am_St) : Option (Int64 × am_St) := am_lk (g_X_missed_53 x1 x2 σ)
theorem eq_X_missed_53 (x1 : Int32) (x2 : Int32) (σ : am_St) : f_X_missed_53 x1 x2 σ = g_X_missed_53 x1 x2 σ := am_lk_eq _
set_option maxRecDepth 100000 in
set_option maxHeartbeats 4000000 in
theorem s_X_missed_53 (G : am_G) (x1 : Int32) (x2 : Int32) (σ : am_St) (r : Int64 × am_St) (Q : am_AQ) (e : f_X_missed_53 x1 x2 σ = some r) (hr : am_Pl r Q) : am_AW G M_X_missed 53 [(2, .int x2), (1, .int x1), (0, .ref 0)] [] σ Q :=
  (show am_Snd G M_X_missed 53 am_Pl _ from (sn_aload_n (pc := 53) (i := 0) dX11_missed_53 rfl (sn_gR (r0 := 60) (pc := 54) (h := 0) (f := 5) dX11_missed_54 am_CL_10 sh_0 rfl (Nat.le_of_ble_eq_true rfl) tw_224 (sn_aload_n (pc := 57) (i := 0) dX11_missed_57 rfl (sn_gR (r0 := 60) (pc := 58) (h := 0) (f := 5) dX11_missed_58 am_CL_10 sh_0 rfl (Nat.le_of_ble_eq_true rfl) tw_224 (sn_iload_n (pc := 61) (i := 1) dX11_missed_61 rfl (sn_aload_n (pc := 62) (i := 0) dX11_missed_62 rfl (sn_gR (r0 := 1) (pc := 63) (h := 0) (f := 0) dX11_missed_63 am_CL_10 sh_0 rfl (Nat.le_of_ble_eq_true rfl) tw_219 (sn_gI (pc := 66) (h := 1) (f := 2) dX11_missed_66 am_CL_3 sh_1 rfl (Nat.le_of_ble_eq_true rfl) tw_85 (sn_callV (pc := 69) (N := M_O_punishedFrom) dX11_missed_69 (cal_O_punishedFrom G) sh_60 rfl tw_848 tw_849 tw_850 tw_11 tw_851 dsc_X6_punishedFrom rfl (sn_iload_n (pc := 72) (i := 2) dX11_missed_72 rfl (sn_callV (pc := 73) (N := M_O_shareBeside) dX11_missed_73 (cal_O_shareBeside G) sh_60 rfl tw_860 tw_861 tw_862 tw_11 tw_863 dsc_X6_shareBeside rfl (sn_retl (pc := 76) (R := fun x τ => (some ((x, τ)))) dX11_missed_76 rfl (fun _ _ _ _ e h => by cases e; exact h)))))))))))))) _ _ _ _ _ ((eq_X_missed_53 x1 x2 σ).symm.trans e) hr
noncomputable def g_X_missed (x1 : Int32) (x2 : Int32) (σ : am_St) : Option (Int64 × am_St) :=
  if 0 ≤ x1 then
    if x1 ≤ 10 then
      (f_X_isZeroOrOne x2 σ).bind (fun p1 =>
        if p1.1 = 0 then
          (f_X_refuseLong (-2) p1.2).bind (fun p3 =>
            some ((p3.1, p3.2)))
        else
          (f_O_weigh_1 p1.2).bind (fun p2 =>
            f_X_missed_53 x1 x2 p2))
    else
      (f_X_refuseLong (-6) σ).bind (fun p4 =>
        some ((p4.1, p4.2)))
  else
    (f_X_refuseLong (-4) σ).bind (fun p5 =>
      some ((p5.1, p5.2)))
noncomputable def f_X_missed (x1 : Int32) (x2 : Int32) (σ : am_St) : Option (Int64 × am_St) := am_lk (g_X_missed x1 x2 σ)
theorem eq_X_missed (x1 : Int32) (x2 : Int32) (σ : am_St) : f_X_missed x1 x2 σ = g_X_missed x1 x2 σ := am_lk_eq _
set_option maxRecDepth 100000 in
set_option maxHeartbeats 4000000 in
theorem s_X_missed (G : am_G) (x1 : Int32) (x2 : Int32) (σ : am_St) (r : Int64 × am_St) (Q : am_AQ) (e : f_X_missed x1 x2 σ = some r) (hr : am_Pl r Q) : am_AW G M_X_missed 0 [(0, .ref 0), (1, .int x1), (2, .int x2)] [] σ Q :=
  (show am_Snd G M_X_missed 0 am_Pl _ from (sn_iload_n (pc := 0) (i := 1) dX11_missed_0 rfl (sn_if_ge (pc := 1) (tgt := 11) dX11_missed_1 rfl (sn_iload_n (pc := 11) (i := 1) dX11_missed_11 rfl (sn_bipush (pc := 12) (v := 10) dX11_missed_12 rfl (sn_icmp_le (pc := 14) (tgt := 24) dX11_missed_14 rfl (sn_iload_n (pc := 24) (i := 2) dX11_missed_24 rfl (sn_callS (pc := 25) (N := M_X_isZeroOrOne) dX11_missed_25 (cal_X_isZeroOrOne G) tw_549 tw_550 tw_1 tw_551 dsc_X11_isZeroOrOne rfl (sn_if_ne (pc := 28) (tgt := 38) dX11_missed_28 rfl (sn_aload_n (pc := 38) (i := 0) dX11_missed_38 rfl (sn_gR (r0 := 60) (pc := 39) (h := 0) (f := 5) dX11_missed_39 am_CL_10 sh_0 rfl (Nat.le_of_ble_eq_true rfl) tw_224 (sn_aload_n (pc := 42) (i := 0) dX11_missed_42 rfl (sn_gR (r0 := 1) (pc := 43) (h := 0) (f := 0) dX11_missed_43 am_CL_10 sh_0 rfl (Nat.le_of_ble_eq_true rfl) tw_219 (sn_aload_n (pc := 46) (i := 0) dX11_missed_46 rfl (sn_gR (r0 := 54) (pc := 47) (h := 0) (f := 4) dX11_missed_47 am_CL_10 sh_0 rfl (Nat.le_of_ble_eq_true rfl) tw_223 (sn_callV (pc := 50) (N := M_O_weigh) dX11_missed_50 (cal_O_weigh_1 G) sh_60 rfl tw_604 tw_605 tw_606 tw_11 tw_607 dsc_X6_weigh rfl (sn_lf (pc := 53) (ln_a (i := 0) (q := 0) (ln_i (i := 1) (fun z0 => (ln_i (i := 2) (fun z1 => (ln_end (o := fun τ => f_X_missed_53 z0 z1 τ) (fun _ _ _ e h => s_X_missed_53 G z0 z1 _ _ _ e h))))))))))))))) (sn_aload_n (pc := 31) (i := 0) dX11_missed_31 rfl (sn_bipush (pc := 32) (v := (-2)) dX11_missed_32 (show (Int8.ofInt (-2)).toInt32 = (-2) by decide) (sn_callV (pc := 34) (N := M_X_refuseLong) dX11_missed_34 (cal_X_refuseLong G) sh_0 rfl tw_599 tw_601 tp_17 tw_1 tw_602 dsc_X11_refuseLong rfl (sn_retl (pc := 37) (R := fun x τ => (some ((x, τ)))) dX11_missed_37 rfl (fun _ _ _ _ e h => by cases e; exact h)))))))) (sn_aload_n (pc := 17) (i := 0) dX11_missed_17 rfl (sn_bipush (pc := 18) (v := (-6)) dX11_missed_18 (show (Int8.ofInt (-6)).toInt32 = (-6) by decide) (sn_callV (pc := 20) (N := M_X_refuseLong) dX11_missed_20 (cal_X_refuseLong G) sh_0 rfl tw_599 tw_601 tp_17 tw_1 tw_602 dsc_X11_refuseLong rfl (sn_retl (pc := 23) (R := fun x τ => (some ((x, τ)))) dX11_missed_23 rfl (fun _ _ _ _ e h => by cases e; exact h)))))))) (sn_aload_n (pc := 4) (i := 0) dX11_missed_4 rfl (sn_bipush (pc := 5) (v := (-4)) dX11_missed_5 (show (Int8.ofInt (-4)).toInt32 = (-4) by decide) (sn_callV (pc := 7) (N := M_X_refuseLong) dX11_missed_7 (cal_X_refuseLong G) sh_0 rfl tw_599 tw_601 tp_17 tw_1 tw_602 dsc_X11_refuseLong rfl (sn_retl (pc := 10) (R := fun x τ => (some ((x, τ)))) dX11_missed_10 rfl (fun _ _ _ _ e h => by cases e; exact h)))))))) _ _ _ _ _ ((eq_X_missed x1 x2 σ).symm.trans e) hr
noncomputable def cF_X_missed : am_Fn := fun _ args σ K => match args with
  | [.ref q0, .int z1, .int z2] => match Nat.beq q0 0 with
    | true => (f_X_missed z1 z2 σ).bind (fun p => K (some (.long p.1)) p.2)
    | _ => none
  | _ => none
theorem cal_X_missed (G : am_G) : am_Cal G M_X_missed cF_X_missed := by
  intro ρ args σ K r e
  unfold cF_X_missed at e
  split at e
  · split at e
    · rename_i hq0
      obtain ⟨p, h1, h2⟩ := am_bind_some e
      rw [Nat.eq_of_beq_eq_true hq0]
      exact ⟨some (.long p.1), p.2, am_Met.of rfl (Nat.le_of_ble_eq_true rfl) (s_X_missed G _ _ σ p _ h1 ⟨rfl, rfl⟩), h2⟩
    · cases e
  · cases e
abbrev M_P_skillBehind : am_MD := (yX7_skillBehind, cX7_skillBehind, 5, (some .int), 1, 21)
theorem dX7_skillBehind_0 : decode cX7_skillBehind 0 = .ok (.iload_n 1, 1) := by decide +kernel
theorem dX7_skillBehind_1 : decode cX7_skillBehind 1 = .ok (.istore_n 3, 1) := by decide +kernel
theorem dX7_skillBehind_2 : decode cX7_skillBehind 2 = .ok (.iconst 0, 1) := by decide +kernel
theorem dX7_skillBehind_3 : decode cX7_skillBehind 3 = .ok (.istore 4, 2) := by decide +kernel
theorem dX7_skillBehind_5 : decode cX7_skillBehind 5 = .ok (.iload 4, 2) := by decide +kernel
theorem dX7_skillBehind_7 : decode cX7_skillBehind 7 = .ok (.iload_n 0, 1) := by decide +kernel
theorem dX7_skillBehind_8 : decode cX7_skillBehind 8 = .ok (.if_icmp .ge 32, 3) := by decide +kernel
theorem dX7_skillBehind_11 : decode cX7_skillBehind 11 = .ok (.iload_n 2, 1) := by decide +kernel
theorem dX7_skillBehind_12 : decode cX7_skillBehind 12 = .ok (.ifCond .eq 13, 3) := by decide +kernel
theorem dX7_skillBehind_15 : decode cX7_skillBehind 15 = .ok (.iconst 0, 1) := by decide +kernel
theorem dX7_skillBehind_16 : decode cX7_skillBehind 16 = .ok (.iload_n 3, 1) := by decide +kernel
theorem dX7_skillBehind_17 : decode cX7_skillBehind 17 = .ok (.iconst 1, 1) := by decide +kernel
theorem dX7_skillBehind_18 : decode cX7_skillBehind 18 = .ok (.isub, 1) := by decide +kernel
theorem dX7_skillBehind_19 : decode cX7_skillBehind 19 = .ok (.invokestatic 50, 3) := by decide +kernel
theorem dX7_skillBehind_22 : decode cX7_skillBehind 22 = .ok (.goto 11, 3) := by decide +kernel
theorem dX7_skillBehind_25 : decode cX7_skillBehind 25 = .ok (.bipush 9, 2) := by decide +kernel
theorem dX7_skillBehind_27 : decode cX7_skillBehind 27 = .ok (.iload_n 3, 1) := by decide +kernel
theorem dX7_skillBehind_28 : decode cX7_skillBehind 28 = .ok (.iconst 1, 1) := by decide +kernel
theorem dX7_skillBehind_29 : decode cX7_skillBehind 29 = .ok (.iadd, 1) := by decide +kernel
theorem dX7_skillBehind_30 : decode cX7_skillBehind 30 = .ok (.invokestatic 55, 3) := by decide +kernel
theorem dX7_skillBehind_33 : decode cX7_skillBehind 33 = .ok (.istore_n 3, 1) := by decide +kernel
theorem dX7_skillBehind_34 : decode cX7_skillBehind 34 = .ok (.iinc 4 1, 3) := by decide +kernel
theorem dX7_skillBehind_37 : decode cX7_skillBehind 37 = .ok (.goto (-32), 3) := by decide +kernel
theorem dX7_skillBehind_40 : decode cX7_skillBehind 40 = .ok (.iload_n 3, 1) := by decide +kernel
theorem dX7_skillBehind_41 : decode cX7_skillBehind 41 = .ok (.ireturn, 1) := by decide +kernel
abbrev Pl_P_skillBehind_5 (G : am_G) : ((Int32 × Int32 × Int32 × Int32 × am_St) ⊕ (Int32 × am_St)) → am_AQ → Prop := am_PL G M_P_skillBehind 5 (fun s : Int32 × Int32 × Int32 × Int32 × am_St => [(4, .int s.2.2.2.1), (3, .int s.2.2.1), (2, .int s.2.1), (0, .int s.1)]) (fun s => s.2.2.2.2) am_Pi
noncomputable def g_P_skillBehind_33 (x0 : Int32) (x2 : Int32) (x4 : Int32) (y0 : Int32) (σ : am_St) : Option ((Int32 × Int32 × Int32 × Int32 × am_St) ⊕ (Int32 × am_St)) :=
  let v1 := x4 + 1
  some (.inl (x0, x2, y0, v1, σ))
noncomputable def f_P_skillBehind_33 (x0 : Int32) (x2 : Int32) (x4 : Int32) (y0 : Int32) (σ : am_St) : Option ((Int32 × Int32 × Int32 × Int32 × am_St) ⊕ (Int32 × am_St)) := am_lk (g_P_skillBehind_33 x0 x2 x4 y0 σ)
theorem eq_P_skillBehind_33 (x0 : Int32) (x2 : Int32) (x4 : Int32) (y0 : Int32) (σ : am_St) : f_P_skillBehind_33 x0 x2 x4 y0 σ = g_P_skillBehind_33 x0 x2 x4 y0 σ := am_lk_eq _
set_option maxRecDepth 100000 in
set_option maxHeartbeats 4000000 in
theorem s_P_skillBehind_33 (G : am_G) (x0 : Int32) (x2 : Int32) (x4 : Int32) (y0 : Int32) (σ : am_St) (r : (Int32 × Int32 × Int32 × Int32 × am_St) ⊕ (Int32 × am_St)) (Q : am_AQ) (e : f_P_skillBehind_33 x0 x2 x4 y0 σ = some r) (hr : (Pl_P_skillBehind_5 G) r Q) : am_AW G M_P_skillBehind 33 [(4, .int x4), (2, .int x2), (0, .int x0)] [.int y0] σ Q :=
  (show am_Snd G M_P_skillBehind 33 (Pl_P_skillBehind_5 G) _ from (sn_istore_n (pc := 33) (i := 3) dX7_skillBehind_33 rfl (Nat.le_of_ble_eq_true rfl) (sn_iinc (pc := 34) (v := 1) dX7_skillBehind_34 rfl (Nat.le_of_ble_eq_true rfl) (sn_goto (pc := 37) (tgt := 5) dX7_skillBehind_37 rfl (sn_lf (pc := 5) (ln_i (i := 0) (fun z0 => (ln_i (i := 2) (fun z1 => (ln_i (i := 3) (fun z2 => (ln_i (i := 4) (fun z3 => (ln_end (o := fun τ => (some (.inl (z0, z1, z2, z3, τ)) : Option ((Int32 × Int32 × Int32 × Int32 × am_St) ⊕ (Int32 × am_St)))) (fun _ _ _ e h => by cases e; exact h))))))))))))))) _ _ _ _ _ ((eq_P_skillBehind_33 x0 x2 x4 y0 σ).symm.trans e) hr
noncomputable def b_P_skillBehind_5 (x0 : Int32) (x2 : Int32) (x3 : Int32) (x4 : Int32) (σ : am_St) : Option ((Int32 × Int32 × Int32 × Int32 × am_St) ⊕ (Int32 × am_St)) :=
  if x0 ≤ x4 then
    some (.inr ((x3, σ)))
  else
    if x2 = 0 then
      f_P_skillBehind_33 x0 x2 x4 (am_mmin 9 (x3 + 1)) σ
    else
      f_P_skillBehind_33 x0 x2 x4 (am_mmax 0 (x3 - 1)) σ
noncomputable def f_P_skillBehind_5 (x0 : Int32) (x2 : Int32) (x3 : Int32) (x4 : Int32) (σ : am_St) : Option (Int32 × am_St) := am_lp (fun s : Int32 × Int32 × Int32 × Int32 × am_St => b_P_skillBehind_5 s.1 s.2.1 s.2.2.1 s.2.2.2.1 s.2.2.2.2) (x0, x2, x3, x4, σ)
set_option maxRecDepth 100000 in
set_option maxHeartbeats 4000000 in
theorem sb_P_skillBehind_5 (G : am_G) (x0 : Int32) (x2 : Int32) (x3 : Int32) (x4 : Int32) (σ : am_St) (r : (Int32 × Int32 × Int32 × Int32 × am_St) ⊕ (Int32 × am_St)) (Q : am_AQ) (e : b_P_skillBehind_5 x0 x2 x3 x4 σ = some r) (hr : Pl_P_skillBehind_5 G r Q) : am_AW G M_P_skillBehind 5 [(4, .int x4), (3, .int x3), (2, .int x2), (0, .int x0)] [] σ Q :=
  (show am_Snd G M_P_skillBehind 5 (Pl_P_skillBehind_5 G) _ from (sn_iload (pc := 5) dX7_skillBehind_5 (sn_iload_n (pc := 7) (i := 0) dX7_skillBehind_7 rfl (sn_icmp_ge (pc := 8) (tgt := 40) dX7_skillBehind_8 rfl (sn_iload_n (pc := 40) (i := 3) dX7_skillBehind_40 rfl (sn_reti (pc := 41) (R := fun x τ => (some (.inr ((x, τ))) : Option ((Int32 × Int32 × Int32 × Int32 × am_St) ⊕ (Int32 × am_St)))) dX7_skillBehind_41 rfl (fun _ _ _ _ e h => by cases e; exact h))) (sn_iload_n (pc := 11) (i := 2) dX7_skillBehind_11 rfl (sn_if_eq (pc := 12) (tgt := 25) dX7_skillBehind_12 rfl (sn_bipush (pc := 25) (v := 9) dX7_skillBehind_25 rfl (sn_iload_n (pc := 27) (i := 3) dX7_skillBehind_27 rfl (sn_iconst (pc := 28) (v := 1) dX7_skillBehind_28 rfl (sn_iadd (pc := 29) dX7_skillBehind_29 (sn_mmin (pc := 30) dX7_skillBehind_30 tw_872 tw_511 tw_14 tw_512 rfl (sn_lf (pc := 33) (ln_i (i := 0) (fun z0 => (ln_i (i := 2) (fun z1 => (ln_i (i := 4) (fun z2 => (ln_si (fun w0 => (ln_end (o := fun τ => f_P_skillBehind_33 z0 z1 z2 w0 τ) (fun _ _ _ e h => s_P_skillBehind_33 G z0 z1 z2 w0 _ _ _ e h)))))))))))))))) (sn_iconst (pc := 15) (v := 0) dX7_skillBehind_15 rfl (sn_iload_n (pc := 16) (i := 3) dX7_skillBehind_16 rfl (sn_iconst (pc := 17) (v := 1) dX7_skillBehind_17 rfl (sn_isub (pc := 18) dX7_skillBehind_18 (sn_mmax (pc := 19) dX7_skillBehind_19 tw_871 tw_514 tw_14 tw_515 rfl (sn_goto (pc := 22) (tgt := 33) dX7_skillBehind_22 rfl (sn_lf (pc := 33) (ln_i (i := 0) (fun z0 => (ln_i (i := 2) (fun z1 => (ln_i (i := 4) (fun z2 => (ln_si (fun w0 => (ln_end (o := fun τ => f_P_skillBehind_33 z0 z1 z2 w0 τ) (fun _ _ _ e h => s_P_skillBehind_33 G z0 z1 z2 w0 _ _ _ e h))))))))))))))))))))))) _ _ _ _ _ e hr
theorem s_P_skillBehind_5 (G : am_G) (x0 : Int32) (x2 : Int32) (x3 : Int32) (x4 : Int32) (σ : am_St) (r : Int32 × am_St) (Q : am_AQ) (e : f_P_skillBehind_5 x0 x2 x3 x4 σ = some r) (hr : am_Pi r Q) : am_AW G M_P_skillBehind 5 [(4, .int x4), (3, .int x3), (2, .int x2), (0, .int x0)] [] σ Q :=
  am_loop (P := am_Pi) (L := fun s : Int32 × Int32 × Int32 × Int32 × am_St => [(4, .int s.2.2.2.1), (3, .int s.2.2.1), (2, .int s.2.1), (0, .int s.1)]) (g := fun s => s.2.2.2.2) (fun s o Q e hr => sb_P_skillBehind_5 G s.1 s.2.1 s.2.2.1 s.2.2.2.1 s.2.2.2.2 o Q e hr) (x0, x2, x3, x4, σ) r Q e hr
noncomputable def g_P_skillBehind (x0 : Int32) (x1 : Int32) (x2 : Int32) (σ : am_St) : Option (Int32 × am_St) :=
  f_P_skillBehind_5 x0 x2 x1 0 σ
noncomputable def f_P_skillBehind (x0 : Int32) (x1 : Int32) (x2 : Int32) (σ : am_St) : Option (Int32 × am_St) := am_lk (g_P_skillBehind x0 x1 x2 σ)
theorem eq_P_skillBehind (x0 : Int32) (x1 : Int32) (x2 : Int32) (σ : am_St) : f_P_skillBehind x0 x1 x2 σ = g_P_skillBehind x0 x1 x2 σ := am_lk_eq _
set_option maxRecDepth 100000 in
set_option maxHeartbeats 4000000 in
theorem s_P_skillBehind (G : am_G) (x0 : Int32) (x1 : Int32) (x2 : Int32) (σ : am_St) (r : Int32 × am_St) (Q : am_AQ) (e : f_P_skillBehind x0 x1 x2 σ = some r) (hr : am_Pi r Q) : am_AW G M_P_skillBehind 0 [(0, .int x0), (1, .int x1), (2, .int x2)] [] σ Q :=
  (show am_Snd G M_P_skillBehind 0 am_Pi _ from (sn_iload_n (pc := 0) (i := 1) dX7_skillBehind_0 rfl (sn_istore_n (pc := 1) (i := 3) dX7_skillBehind_1 rfl (Nat.le_of_ble_eq_true rfl) (sn_iconst (pc := 2) (v := 0) dX7_skillBehind_2 rfl (sn_istore (pc := 3) dX7_skillBehind_3 (Nat.le_of_ble_eq_true rfl) (sn_lf (pc := 5) (ln_i (i := 0) (fun z0 => (ln_i (i := 2) (fun z1 => (ln_i (i := 3) (fun z2 => (ln_i (i := 4) (fun z3 => (ln_end (o := fun τ => f_P_skillBehind_5 z0 z1 z2 z3 τ) (fun _ _ _ e h => s_P_skillBehind_5 G z0 z1 z2 z3 _ _ _ e h)))))))))))))))) _ _ _ _ _ ((eq_P_skillBehind x0 x1 x2 σ).symm.trans e) hr
noncomputable def cF_P_skillBehind : am_Fn := fun _ args σ K => match args with
  | [.int z0, .int z1, .int z2] => (f_P_skillBehind z0 z1 z2 σ).bind (fun p => K (some (.int p.1)) p.2)
  | _ => none
theorem cal_P_skillBehind (G : am_G) : am_Cal G M_P_skillBehind cF_P_skillBehind := by
  intro ρ args σ K r e
  unfold cF_P_skillBehind at e
  split at e
  · obtain ⟨p, h1, h2⟩ := am_bind_some e
    exact ⟨some (.int p.1), p.2, am_Met.of rfl (Nat.le_of_ble_eq_true rfl) (s_P_skillBehind G _ _ _ σ p _ h1 ⟨rfl, rfl⟩), h2⟩
  · cases e
abbrev M_X_learn : am_MD := (yX11_learn, cX11_learn, 7, (some .int), 6, 139)
theorem dX11_learn_0 : decode cX11_learn 0 = .ok (.iload_n 1, 1) := by decide +kernel
theorem dX11_learn_1 : decode cX11_learn 1 = .ok (.iconst 1, 1) := by decide +kernel
theorem dX11_learn_2 : decode cX11_learn 2 = .ok (.if_icmp .lt 7, 3) := by decide +kernel
theorem dX11_learn_5 : decode cX11_learn 5 = .ok (.iload_n 3, 1) := by decide +kernel
theorem dX11_learn_6 : decode cX11_learn 6 = .ok (.ifCond .ge 10, 3) := by decide +kernel
theorem dX11_learn_9 : decode cX11_learn 9 = .ok (.aload_n 0, 1) := by decide +kernel
theorem dX11_learn_10 : decode cX11_learn 10 = .ok (.bipush (-4), 2) := by decide +kernel
theorem dX11_learn_12 : decode cX11_learn 12 = .ok (.invokevirtual 55, 3) := by decide +kernel
theorem dX11_learn_15 : decode cX11_learn 15 = .ok (.ireturn, 1) := by decide +kernel
theorem dX11_learn_16 : decode cX11_learn 16 = .ok (.iload_n 1, 1) := by decide +kernel
theorem dX11_learn_17 : decode cX11_learn 17 = .ok (.bipush 20, 2) := by decide +kernel
theorem dX11_learn_19 : decode cX11_learn 19 = .ok (.if_icmp .gt 9, 3) := by decide +kernel
theorem dX11_learn_22 : decode cX11_learn 22 = .ok (.iload_n 3, 1) := by decide +kernel
theorem dX11_learn_23 : decode cX11_learn 23 = .ok (.bipush 99, 2) := by decide +kernel
theorem dX11_learn_25 : decode cX11_learn 25 = .ok (.if_icmp .le 10, 3) := by decide +kernel
theorem dX11_learn_28 : decode cX11_learn 28 = .ok (.aload_n 0, 1) := by decide +kernel
theorem dX11_learn_29 : decode cX11_learn 29 = .ok (.bipush (-6), 2) := by decide +kernel
theorem dX11_learn_31 : decode cX11_learn 31 = .ok (.invokevirtual 55, 3) := by decide +kernel
theorem dX11_learn_34 : decode cX11_learn 34 = .ok (.ireturn, 1) := by decide +kernel
theorem dX11_learn_35 : decode cX11_learn 35 = .ok (.iload_n 2, 1) := by decide +kernel
theorem dX11_learn_36 : decode cX11_learn 36 = .ok (.invokestatic 244, 3) := by decide +kernel
theorem dX11_learn_39 : decode cX11_learn 39 = .ok (.ifCond .ne 10, 3) := by decide +kernel
theorem dX11_learn_42 : decode cX11_learn 42 = .ok (.aload_n 0, 1) := by decide +kernel
theorem dX11_learn_43 : decode cX11_learn 43 = .ok (.bipush (-2), 2) := by decide +kernel
theorem dX11_learn_45 : decode cX11_learn 45 = .ok (.invokevirtual 55, 3) := by decide +kernel
theorem dX11_learn_48 : decode cX11_learn 48 = .ok (.ireturn, 1) := by decide +kernel
theorem dX11_learn_49 : decode cX11_learn 49 = .ok (.iconst 0, 1) := by decide +kernel
theorem dX11_learn_50 : decode cX11_learn 50 = .ok (.istore 4, 2) := by decide +kernel
theorem dX11_learn_52 : decode cX11_learn 52 = .ok (.iconst 0, 1) := by decide +kernel
theorem dX11_learn_53 : decode cX11_learn 53 = .ok (.istore 5, 2) := by decide +kernel
theorem dX11_learn_55 : decode cX11_learn 55 = .ok (.iload 5, 2) := by decide +kernel
theorem dX11_learn_57 : decode cX11_learn 57 = .ok (.aload_n 0, 1) := by decide +kernel
theorem dX11_learn_58 : decode cX11_learn 58 = .ok (.getfield 10, 3) := by decide +kernel
theorem dX11_learn_61 : decode cX11_learn 61 = .ok (.getfield 171, 3) := by decide +kernel
theorem dX11_learn_64 : decode cX11_learn 64 = .ok (.if_icmp .ge 52, 3) := by decide +kernel
theorem dX11_learn_67 : decode cX11_learn 67 = .ok (.iload_n 2, 1) := by decide +kernel
theorem dX11_learn_68 : decode cX11_learn 68 = .ok (.iload_n 3, 1) := by decide +kernel
theorem dX11_learn_69 : decode cX11_learn 69 = .ok (.aload_n 0, 1) := by decide +kernel
theorem dX11_learn_70 : decode cX11_learn 70 = .ok (.getfield 10, 3) := by decide +kernel
theorem dX11_learn_73 : decode cX11_learn 73 = .ok (.iload 5, 2) := by decide +kernel
theorem dX11_learn_75 : decode cX11_learn 75 = .ok (.invokevirtual 247, 3) := by decide +kernel
theorem dX11_learn_78 : decode cX11_learn 78 = .ok (.aload_n 0, 1) := by decide +kernel
theorem dX11_learn_79 : decode cX11_learn 79 = .ok (.getfield 10, 3) := by decide +kernel
theorem dX11_learn_82 : decode cX11_learn 82 = .ok (.getfield 171, 3) := by decide +kernel
theorem dX11_learn_85 : decode cX11_learn 85 = .ok (.invokestatic 257, 3) := by decide +kernel
theorem dX11_learn_88 : decode cX11_learn 88 = .ok (.istore 6, 2) := by decide +kernel
theorem dX11_learn_90 : decode cX11_learn 90 = .ok (.iload 4, 2) := by decide +kernel
theorem dX11_learn_92 : decode cX11_learn 92 = .ok (.iload_n 1, 1) := by decide +kernel
theorem dX11_learn_93 : decode cX11_learn 93 = .ok (.aload_n 0, 1) := by decide +kernel
theorem dX11_learn_94 : decode cX11_learn 94 = .ok (.getfield 10, 3) := by decide +kernel
theorem dX11_learn_97 : decode cX11_learn 97 = .ok (.iload 5, 2) := by decide +kernel
theorem dX11_learn_99 : decode cX11_learn 99 = .ok (.invokevirtual 94, 3) := by decide +kernel
theorem dX11_learn_102 : decode cX11_learn 102 = .ok (.iload 6, 2) := by decide +kernel
theorem dX11_learn_104 : decode cX11_learn 104 = .ok (.invokestatic 274, 3) := by decide +kernel
theorem dX11_learn_107 : decode cX11_learn 107 = .ok (.iadd, 1) := by decide +kernel
theorem dX11_learn_108 : decode cX11_learn 108 = .ok (.istore 4, 2) := by decide +kernel
theorem dX11_learn_110 : decode cX11_learn 110 = .ok (.iinc 5 1, 3) := by decide +kernel
theorem dX11_learn_113 : decode cX11_learn 113 = .ok (.goto (-58), 3) := by decide +kernel
theorem dX11_learn_116 : decode cX11_learn 116 = .ok (.iload 4, 2) := by decide +kernel
theorem dX11_learn_118 : decode cX11_learn 118 = .ok (.ireturn, 1) := by decide +kernel
abbrev Pl_X_learn_55 (G : am_G) : ((Int32 × Int32 × Int32 × Int32 × Int32 × am_St) ⊕ (Int32 × am_St)) → am_AQ → Prop := am_PL G M_X_learn 55 (fun s : Int32 × Int32 × Int32 × Int32 × Int32 × am_St => [(5, .int s.2.2.2.2.1), (4, .int s.2.2.2.1), (3, .int s.2.2.1), (2, .int s.2.1), (1, .int s.1), (0, .ref 0)]) (fun s => s.2.2.2.2.2) am_Pi
noncomputable def g_X_learn_9 (σ : am_St) : Option (Int32 × am_St) :=
  (f_X_refuse (-4) σ).bind (fun p1 =>
    some ((p1.1, p1.2)))
noncomputable def f_X_learn_9 (σ : am_St) : Option (Int32 × am_St) := am_lk (g_X_learn_9  σ)
theorem eq_X_learn_9 (σ : am_St) : f_X_learn_9  σ = g_X_learn_9  σ := am_lk_eq _
set_option maxRecDepth 100000 in
set_option maxHeartbeats 4000000 in
theorem s_X_learn_9 (G : am_G) (σ : am_St) (r : Int32 × am_St) (Q : am_AQ) (e : f_X_learn_9  σ = some r) (hr : am_Pi r Q) : am_AW G M_X_learn 9 [(0, .ref 0)] [] σ Q :=
  (show am_Snd G M_X_learn 9 am_Pi _ from (sn_aload_n (pc := 9) (i := 0) dX11_learn_9 rfl (sn_bipush (pc := 10) (v := (-4)) dX11_learn_10 (show (Int8.ofInt (-4)).toInt32 = (-4) by decide) (sn_callV (pc := 12) (N := M_X_refuse) dX11_learn_12 (cal_X_refuse G) sh_0 rfl tw_251 tw_253 tp_0 tw_1 tw_254 dsc_X11_refuse rfl (sn_reti (pc := 15) (R := fun x τ => (some ((x, τ)))) dX11_learn_15 rfl (fun _ _ _ _ e h => by cases e; exact h)))))) _ _ _ _ _ ((eq_X_learn_9  σ).symm.trans e) hr
noncomputable def g_X_learn_28 (σ : am_St) : Option (Int32 × am_St) :=
  (f_X_refuse (-6) σ).bind (fun p1 =>
    some ((p1.1, p1.2)))
noncomputable def f_X_learn_28 (σ : am_St) : Option (Int32 × am_St) := am_lk (g_X_learn_28  σ)
theorem eq_X_learn_28 (σ : am_St) : f_X_learn_28  σ = g_X_learn_28  σ := am_lk_eq _
set_option maxRecDepth 100000 in
set_option maxHeartbeats 4000000 in
theorem s_X_learn_28 (G : am_G) (σ : am_St) (r : Int32 × am_St) (Q : am_AQ) (e : f_X_learn_28  σ = some r) (hr : am_Pi r Q) : am_AW G M_X_learn 28 [(0, .ref 0)] [] σ Q :=
  (show am_Snd G M_X_learn 28 am_Pi _ from (sn_aload_n (pc := 28) (i := 0) dX11_learn_28 rfl (sn_bipush (pc := 29) (v := (-6)) dX11_learn_29 (show (Int8.ofInt (-6)).toInt32 = (-6) by decide) (sn_callV (pc := 31) (N := M_X_refuse) dX11_learn_31 (cal_X_refuse G) sh_0 rfl tw_251 tw_253 tp_0 tw_1 tw_254 dsc_X11_refuse rfl (sn_reti (pc := 34) (R := fun x τ => (some ((x, τ)))) dX11_learn_34 rfl (fun _ _ _ _ e h => by cases e; exact h)))))) _ _ _ _ _ ((eq_X_learn_28  σ).symm.trans e) hr
noncomputable def g_X_learn_90 (x1 : Int32) (x2 : Int32) (x3 : Int32) (x4 : Int32) (x5 : Int32) (x6 : Int32) (σ : am_St) : Option ((Int32 × Int32 × Int32 × Int32 × Int32 × am_St) ⊕ (Int32 × am_St)) :=
  (f_H_skillOf_1 x5 σ).bind (fun p1 =>
    (f_P_skillBehind x1 p1.1 x6 p1.2).bind (fun p2 =>
      let v3 := x4 + p2.1
      let v4 := x5 + 1
      some (.inl (x1, x2, x3, v3, v4, p2.2))))
noncomputable def f_X_learn_90 (x1 : Int32) (x2 : Int32) (x3 : Int32) (x4 : Int32) (x5 : Int32) (x6 : Int32) (σ : am_St) : Option ((Int32 × Int32 × Int32 × Int32 × Int32 × am_St) ⊕ (Int32 × am_St)) := am_lk (g_X_learn_90 x1 x2 x3 x4 x5 x6 σ)
theorem eq_X_learn_90 (x1 : Int32) (x2 : Int32) (x3 : Int32) (x4 : Int32) (x5 : Int32) (x6 : Int32) (σ : am_St) : f_X_learn_90 x1 x2 x3 x4 x5 x6 σ = g_X_learn_90 x1 x2 x3 x4 x5 x6 σ := am_lk_eq _
set_option maxRecDepth 100000 in
set_option maxHeartbeats 4000000 in
theorem s_X_learn_90 (G : am_G) (x1 : Int32) (x2 : Int32) (x3 : Int32) (x4 : Int32) (x5 : Int32) (x6 : Int32) (σ : am_St) (r : (Int32 × Int32 × Int32 × Int32 × Int32 × am_St) ⊕ (Int32 × am_St)) (Q : am_AQ) (e : f_X_learn_90 x1 x2 x3 x4 x5 x6 σ = some r) (hr : (Pl_X_learn_55 G) r Q) : am_AW G M_X_learn 90 [(6, .int x6), (5, .int x5), (4, .int x4), (3, .int x3), (2, .int x2), (1, .int x1), (0, .ref 0)] [] σ Q :=
  (show am_Snd G M_X_learn 90 (Pl_X_learn_55 G) _ from (sn_iload (pc := 90) dX11_learn_90 (sn_iload_n (pc := 92) (i := 1) dX11_learn_92 rfl (sn_aload_n (pc := 93) (i := 0) dX11_learn_93 rfl (sn_gR (r0 := 1) (pc := 94) (h := 0) (f := 0) dX11_learn_94 am_CL_10 sh_0 rfl (Nat.le_of_ble_eq_true rfl) tw_219 (sn_iload (pc := 97) dX11_learn_97 (sn_callV (pc := 99) (N := M_H_skillOf) dX11_learn_99 (cal_H_skillOf_1 G) sh_1 rfl tw_447 tw_448 tw_449 tw_2 tw_450 dsc_X3_skillOf rfl (sn_iload (pc := 102) dX11_learn_102 (sn_callS (pc := 104) (N := M_P_skillBehind) dX11_learn_104 (cal_P_skillBehind G) tw_868 tw_869 tw_16 tw_870 dsc_X7_skillBehind rfl (sn_iadd (pc := 107) dX11_learn_107 (sn_istore (pc := 108) dX11_learn_108 (Nat.le_of_ble_eq_true rfl) (sn_iinc (pc := 110) (v := 1) dX11_learn_110 rfl (Nat.le_of_ble_eq_true rfl) (sn_goto (pc := 113) (tgt := 55) dX11_learn_113 rfl (sn_lf (pc := 55) (ln_a (i := 0) (q := 0) (ln_i (i := 1) (fun z0 => (ln_i (i := 2) (fun z1 => (ln_i (i := 3) (fun z2 => (ln_i (i := 4) (fun z3 => (ln_i (i := 5) (fun z4 => (ln_end (o := fun τ => (some (.inl (z0, z1, z2, z3, z4, τ)) : Option ((Int32 × Int32 × Int32 × Int32 × Int32 × am_St) ⊕ (Int32 × am_St)))) (fun _ _ _ e h => by cases e; exact h))))))))))))))))))))))))))) _ _ _ _ _ ((eq_X_learn_90 x1 x2 x3 x4 x5 x6 σ).symm.trans e) hr
noncomputable def b_X_learn_55 (x1 : Int32) (x2 : Int32) (x3 : Int32) (x4 : Int32) (x5 : Int32) (σ : am_St) : Option ((Int32 × Int32 × Int32 × Int32 × Int32 × am_St) ⊕ (Int32 × am_St)) :=
  if (σ.1 1 2) ≤ x5 then
    some (.inr ((x4, σ)))
  else
    (f_H_namersOf_1 x5 σ).bind (fun p1 =>
      (f_P_ownsUp x2 x3 p1.1 (p1.2.1 1 2) p1.2).bind (fun p2 =>
        f_X_learn_90 x1 x2 x3 x4 x5 p2.1 p2.2))
noncomputable def f_X_learn_55 (x1 : Int32) (x2 : Int32) (x3 : Int32) (x4 : Int32) (x5 : Int32) (σ : am_St) : Option (Int32 × am_St) := am_lp (fun s : Int32 × Int32 × Int32 × Int32 × Int32 × am_St => b_X_learn_55 s.1 s.2.1 s.2.2.1 s.2.2.2.1 s.2.2.2.2.1 s.2.2.2.2.2) (x1, x2, x3, x4, x5, σ)
set_option maxRecDepth 100000 in
set_option maxHeartbeats 4000000 in
theorem sb_X_learn_55 (G : am_G) (x1 : Int32) (x2 : Int32) (x3 : Int32) (x4 : Int32) (x5 : Int32) (σ : am_St) (r : (Int32 × Int32 × Int32 × Int32 × Int32 × am_St) ⊕ (Int32 × am_St)) (Q : am_AQ) (e : b_X_learn_55 x1 x2 x3 x4 x5 σ = some r) (hr : Pl_X_learn_55 G r Q) : am_AW G M_X_learn 55 [(5, .int x5), (4, .int x4), (3, .int x3), (2, .int x2), (1, .int x1), (0, .ref 0)] [] σ Q :=
  (show am_Snd G M_X_learn 55 (Pl_X_learn_55 G) _ from (sn_iload (pc := 55) dX11_learn_55 (sn_aload_n (pc := 57) (i := 0) dX11_learn_57 rfl (sn_gR (r0 := 1) (pc := 58) (h := 0) (f := 0) dX11_learn_58 am_CL_10 sh_0 rfl (Nat.le_of_ble_eq_true rfl) tw_219 (sn_gI (pc := 61) (h := 1) (f := 2) dX11_learn_61 am_CL_3 sh_1 rfl (Nat.le_of_ble_eq_true rfl) tw_85 (sn_icmp_ge (pc := 64) (tgt := 116) dX11_learn_64 rfl (sn_iload (pc := 116) dX11_learn_116 (sn_reti (pc := 118) (R := fun x τ => (some (.inr ((x, τ))) : Option ((Int32 × Int32 × Int32 × Int32 × Int32 × am_St) ⊕ (Int32 × am_St)))) dX11_learn_118 rfl (fun _ _ _ _ e h => by cases e; exact h))) (sn_iload_n (pc := 67) (i := 2) dX11_learn_67 rfl (sn_iload_n (pc := 68) (i := 3) dX11_learn_68 rfl (sn_aload_n (pc := 69) (i := 0) dX11_learn_69 rfl (sn_gR (r0 := 1) (pc := 70) (h := 0) (f := 0) dX11_learn_70 am_CL_10 sh_0 rfl (Nat.le_of_ble_eq_true rfl) tw_219 (sn_iload (pc := 73) dX11_learn_73 (sn_callV (pc := 75) (N := M_H_namersOf) dX11_learn_75 (cal_H_namersOf_1 G) sh_1 rfl tw_812 tw_813 tw_814 tw_2 tw_815 dsc_X3_namersOf rfl (sn_aload_n (pc := 78) (i := 0) dX11_learn_78 rfl (sn_gR (r0 := 1) (pc := 79) (h := 0) (f := 0) dX11_learn_79 am_CL_10 sh_0 rfl (Nat.le_of_ble_eq_true rfl) tw_219 (sn_gI (pc := 82) (h := 1) (f := 2) dX11_learn_82 am_CL_3 sh_1 rfl (Nat.le_of_ble_eq_true rfl) tw_85 (sn_callS (pc := 85) (N := M_P_ownsUp) dX11_learn_85 (cal_P_ownsUp G) tw_826 tw_827 tw_16 tw_828 dsc_X7_ownsUp rfl (sn_istore (pc := 88) dX11_learn_88 (Nat.le_of_ble_eq_true rfl) (sn_lf (pc := 90) (ln_a (i := 0) (q := 0) (ln_i (i := 1) (fun z0 => (ln_i (i := 2) (fun z1 => (ln_i (i := 3) (fun z2 => (ln_i (i := 4) (fun z3 => (ln_i (i := 5) (fun z4 => (ln_i (i := 6) (fun z5 => (ln_end (o := fun τ => f_X_learn_90 z0 z1 z2 z3 z4 z5 τ) (fun _ _ _ e h => s_X_learn_90 G z0 z1 z2 z3 z4 z5 _ _ _ e h))))))))))))))))))))))))))))))))) _ _ _ _ _ e hr
theorem s_X_learn_55 (G : am_G) (x1 : Int32) (x2 : Int32) (x3 : Int32) (x4 : Int32) (x5 : Int32) (σ : am_St) (r : Int32 × am_St) (Q : am_AQ) (e : f_X_learn_55 x1 x2 x3 x4 x5 σ = some r) (hr : am_Pi r Q) : am_AW G M_X_learn 55 [(5, .int x5), (4, .int x4), (3, .int x3), (2, .int x2), (1, .int x1), (0, .ref 0)] [] σ Q :=
  am_loop (P := am_Pi) (L := fun s : Int32 × Int32 × Int32 × Int32 × Int32 × am_St => [(5, .int s.2.2.2.2.1), (4, .int s.2.2.2.1), (3, .int s.2.2.1), (2, .int s.2.1), (1, .int s.1), (0, .ref 0)]) (g := fun s => s.2.2.2.2.2) (fun s o Q e hr => sb_X_learn_55 G s.1 s.2.1 s.2.2.1 s.2.2.2.1 s.2.2.2.2.1 s.2.2.2.2.2 o Q e hr) (x1, x2, x3, x4, x5, σ) r Q e hr
noncomputable def g_X_learn (x1 : Int32) (x2 : Int32) (x3 : Int32) (σ : am_St) : Option (Int32 × am_St) :=
  if x1 < 1 then
    f_X_learn_9 σ
  else
    if 0 ≤ x3 then
      if 20 < x1 then
        f_X_learn_28 σ
      else
        if x3 ≤ 99 then
          (f_X_isLaw x2 σ).bind (fun p1 =>
            if p1.1 = 0 then
              (f_X_refuse (-2) p1.2).bind (fun p2 =>
                some ((p2.1, p2.2)))
            else
              f_X_learn_55 x1 x2 x3 0 0 p1.2)
        else
          f_X_learn_28 σ
    else
      f_X_learn_9 σ
noncomputable def f_X_learn (x1 : Int32) (x2 : Int32) (x3 : Int32) (σ : am_St) : Option (Int32 × am_St) := am_lk (g_X_learn x1 x2 x3 σ)
theorem eq_X_learn (x1 : Int32) (x2 : Int32) (x3 : Int32) (σ : am_St) : f_X_learn x1 x2 x3 σ = g_X_learn x1 x2 x3 σ := am_lk_eq _
set_option maxRecDepth 100000 in
set_option maxHeartbeats 4000000 in
theorem s_X_learn (G : am_G) (x1 : Int32) (x2 : Int32) (x3 : Int32) (σ : am_St) (r : Int32 × am_St) (Q : am_AQ) (e : f_X_learn x1 x2 x3 σ = some r) (hr : am_Pi r Q) : am_AW G M_X_learn 0 [(0, .ref 0), (1, .int x1), (2, .int x2), (3, .int x3)] [] σ Q :=
  (show am_Snd G M_X_learn 0 am_Pi _ from (sn_iload_n (pc := 0) (i := 1) dX11_learn_0 rfl (sn_iconst (pc := 1) (v := 1) dX11_learn_1 rfl (sn_icmp_lt (pc := 2) (tgt := 9) dX11_learn_2 rfl (sn_lf (pc := 9) (ln_a (i := 0) (q := 0) (ln_end (o := fun τ => f_X_learn_9 τ) (fun _ _ _ e h => s_X_learn_9 G  _ _ _ e h)))) (sn_iload_n (pc := 5) (i := 3) dX11_learn_5 rfl (sn_if_ge (pc := 6) (tgt := 16) dX11_learn_6 rfl (sn_iload_n (pc := 16) (i := 1) dX11_learn_16 rfl (sn_bipush (pc := 17) (v := 20) dX11_learn_17 rfl (sn_icmp_gt (pc := 19) (tgt := 28) dX11_learn_19 rfl (sn_lf (pc := 28) (ln_a (i := 0) (q := 0) (ln_end (o := fun τ => f_X_learn_28 τ) (fun _ _ _ e h => s_X_learn_28 G  _ _ _ e h)))) (sn_iload_n (pc := 22) (i := 3) dX11_learn_22 rfl (sn_bipush (pc := 23) (v := 99) dX11_learn_23 rfl (sn_icmp_le (pc := 25) (tgt := 35) dX11_learn_25 rfl (sn_iload_n (pc := 35) (i := 2) dX11_learn_35 rfl (sn_callS (pc := 36) (N := M_X_isLaw) dX11_learn_36 (cal_X_isLaw G) tw_809 tw_810 tw_1 tw_811 dsc_X11_isLaw rfl (sn_if_ne (pc := 39) (tgt := 49) dX11_learn_39 rfl (sn_iconst (pc := 49) (v := 0) dX11_learn_49 rfl (sn_istore (pc := 50) dX11_learn_50 (Nat.le_of_ble_eq_true rfl) (sn_iconst (pc := 52) (v := 0) dX11_learn_52 rfl (sn_istore (pc := 53) dX11_learn_53 (Nat.le_of_ble_eq_true rfl) (sn_lf (pc := 55) (ln_a (i := 0) (q := 0) (ln_i (i := 1) (fun z0 => (ln_i (i := 2) (fun z1 => (ln_i (i := 3) (fun z2 => (ln_i (i := 4) (fun z3 => (ln_i (i := 5) (fun z4 => (ln_end (o := fun τ => f_X_learn_55 z0 z1 z2 z3 z4 τ) (fun _ _ _ e h => s_X_learn_55 G z0 z1 z2 z3 z4 _ _ _ e h)))))))))))))))))) (sn_aload_n (pc := 42) (i := 0) dX11_learn_42 rfl (sn_bipush (pc := 43) (v := (-2)) dX11_learn_43 (show (Int8.ofInt (-2)).toInt32 = (-2) by decide) (sn_callV (pc := 45) (N := M_X_refuse) dX11_learn_45 (cal_X_refuse G) sh_0 rfl tw_251 tw_253 tp_0 tw_1 tw_254 dsc_X11_refuse rfl (sn_reti (pc := 48) (R := fun x τ => (some ((x, τ)))) dX11_learn_48 rfl (fun _ _ _ _ e h => by cases e; exact h)))))))) (sn_lf (pc := 28) (ln_a (i := 0) (q := 0) (ln_end (o := fun τ => f_X_learn_28 τ) (fun _ _ _ e h => s_X_learn_28 G  _ _ _ e h)))))))))) (sn_lf (pc := 9) (ln_a (i := 0) (q := 0) (ln_end (o := fun τ => f_X_learn_9 τ) (fun _ _ _ e h => s_X_learn_9 G  _ _ _ e h)))))))))) _ _ _ _ _ ((eq_X_learn x1 x2 x3 σ).symm.trans e) hr
noncomputable def cF_X_learn : am_Fn := fun _ args σ K => match args with
  | [.ref q0, .int z1, .int z2, .int z3] => match Nat.beq q0 0 with
    | true => (f_X_learn z1 z2 z3 σ).bind (fun p => K (some (.int p.1)) p.2)
    | _ => none
  | _ => none
theorem cal_X_learn (G : am_G) : am_Cal G M_X_learn cF_X_learn := by
  intro ρ args σ K r e
  unfold cF_X_learn at e
  split at e
  · split at e
    · rename_i hq0
      obtain ⟨p, h1, h2⟩ := am_bind_some e
      rw [Nat.eq_of_beq_eq_true hq0]
      exact ⟨some (.int p.1), p.2, am_Met.of rfl (Nat.le_of_ble_eq_true rfl) (s_X_learn G _ _ _ σ p _ h1 ⟨rfl, rfl⟩), h2⟩
    · cases e
  · cases e
abbrev M_X_row : am_MD := (yX11_row, cX11_row, 2, (some .int), 1, 22)
theorem dX11_row_0 : decode cX11_row 0 = .ok (.iload_n 1, 1) := by decide +kernel
theorem dX11_row_1 : decode cX11_row 1 = .ok (.ifCond .ge 10, 3) := by decide +kernel
theorem dX11_row_4 : decode cX11_row 4 = .ok (.aload_n 0, 1) := by decide +kernel
theorem dX11_row_5 : decode cX11_row 5 = .ok (.bipush (-4), 2) := by decide +kernel
theorem dX11_row_7 : decode cX11_row 7 = .ok (.invokevirtual 55, 3) := by decide +kernel
theorem dX11_row_10 : decode cX11_row 10 = .ok (.ireturn, 1) := by decide +kernel
theorem dX11_row_11 : decode cX11_row 11 = .ok (.iload_n 1, 1) := by decide +kernel
theorem dX11_row_12 : decode cX11_row 12 = .ok (.bipush 9, 2) := by decide +kernel
theorem dX11_row_14 : decode cX11_row 14 = .ok (.if_icmp .gt 12, 3) := by decide +kernel
theorem dX11_row_17 : decode cX11_row 17 = .ok (.aload_n 0, 1) := by decide +kernel
theorem dX11_row_18 : decode cX11_row 18 = .ok (.getfield 48, 3) := by decide +kernel
theorem dX11_row_21 : decode cX11_row 21 = .ok (.bipush 12, 2) := by decide +kernel
theorem dX11_row_23 : decode cX11_row 23 = .ok (.if_icmp .lt 10, 3) := by decide +kernel
theorem dX11_row_26 : decode cX11_row 26 = .ok (.aload_n 0, 1) := by decide +kernel
theorem dX11_row_27 : decode cX11_row 27 = .ok (.bipush (-6), 2) := by decide +kernel
theorem dX11_row_29 : decode cX11_row 29 = .ok (.invokevirtual 55, 3) := by decide +kernel
theorem dX11_row_32 : decode cX11_row 32 = .ok (.ireturn, 1) := by decide +kernel
theorem dX11_row_33 : decode cX11_row 33 = .ok (.aload_n 0, 1) := by decide +kernel
theorem dX11_row_34 : decode cX11_row 34 = .ok (.getfield 44, 3) := by decide +kernel
theorem dX11_row_37 : decode cX11_row 37 = .ok (.aload_n 0, 1) := by decide +kernel
theorem dX11_row_38 : decode cX11_row 38 = .ok (.getfield 48, 3) := by decide +kernel
theorem dX11_row_41 : decode cX11_row 41 = .ok (.iload_n 1, 1) := by decide +kernel
theorem dX11_row_42 : decode cX11_row 42 = .ok (.iastore, 1) := by decide +kernel
theorem dX11_row_43 : decode cX11_row 43 = .ok (.aload_n 0, 1) := by decide +kernel
theorem dX11_row_44 : decode cX11_row 44 = .ok (.dup, 1) := by decide +kernel
theorem dX11_row_45 : decode cX11_row 45 = .ok (.getfield 48, 3) := by decide +kernel
theorem dX11_row_48 : decode cX11_row 48 = .ok (.iconst 1, 1) := by decide +kernel
theorem dX11_row_49 : decode cX11_row 49 = .ok (.iadd, 1) := by decide +kernel
theorem dX11_row_50 : decode cX11_row 50 = .ok (.putfield 48, 3) := by decide +kernel
theorem dX11_row_53 : decode cX11_row 53 = .ok (.aload_n 0, 1) := by decide +kernel
theorem dX11_row_54 : decode cX11_row 54 = .ok (.getfield 48, 3) := by decide +kernel
theorem dX11_row_57 : decode cX11_row 57 = .ok (.ireturn, 1) := by decide +kernel
noncomputable def g_X_row_26 (σ : am_St) : Option (Int32 × am_St) :=
  (f_X_refuse (-6) σ).bind (fun p1 =>
    some ((p1.1, p1.2)))
noncomputable def f_X_row_26 (σ : am_St) : Option (Int32 × am_St) := am_lk (g_X_row_26  σ)
theorem eq_X_row_26 (σ : am_St) : f_X_row_26  σ = g_X_row_26  σ := am_lk_eq _
set_option maxRecDepth 100000 in
set_option maxHeartbeats 4000000 in
theorem s_X_row_26 (G : am_G) (σ : am_St) (r : Int32 × am_St) (Q : am_AQ) (e : f_X_row_26  σ = some r) (hr : am_Pi r Q) : am_AW G M_X_row 26 [(0, .ref 0)] [] σ Q :=
  (show am_Snd G M_X_row 26 am_Pi _ from (sn_aload_n (pc := 26) (i := 0) dX11_row_26 rfl (sn_bipush (pc := 27) (v := (-6)) dX11_row_27 (show (Int8.ofInt (-6)).toInt32 = (-6) by decide) (sn_callV (pc := 29) (N := M_X_refuse) dX11_row_29 (cal_X_refuse G) sh_0 rfl tw_251 tw_253 tp_0 tw_1 tw_254 dsc_X11_refuse rfl (sn_reti (pc := 32) (R := fun x τ => (some ((x, τ)))) dX11_row_32 rfl (fun _ _ _ _ e h => by cases e; exact h)))))) _ _ _ _ _ ((eq_X_row_26  σ).symm.trans e) hr
noncomputable def g_X_row (x1 : Int32) (σ : am_St) : Option (Int32 × am_St) :=
  if 0 ≤ x1 then
    if 9 < x1 then
      f_X_row_26 σ
    else
      if (σ.1 0 7) < 12 then
        if am_ix (σ.1 0 7) 12 = true then
          let s1 := am_sI σ 64 (σ.1 0 7).toNatClampNeg x1
          let s2 := am_sI s1 0 7 ((s1.1 0 7) + 1)
          some ((s2.1 0 7, s2))
        else none
      else
        f_X_row_26 σ
  else
    (f_X_refuse (-4) σ).bind (fun p3 =>
      some ((p3.1, p3.2)))
noncomputable def f_X_row (x1 : Int32) (σ : am_St) : Option (Int32 × am_St) := am_lk (g_X_row x1 σ)
theorem eq_X_row (x1 : Int32) (σ : am_St) : f_X_row x1 σ = g_X_row x1 σ := am_lk_eq _
set_option maxRecDepth 100000 in
set_option maxHeartbeats 4000000 in
theorem s_X_row (G : am_G) (x1 : Int32) (σ : am_St) (r : Int32 × am_St) (Q : am_AQ) (e : f_X_row x1 σ = some r) (hr : am_Pi r Q) : am_AW G M_X_row 0 [(0, .ref 0), (1, .int x1)] [] σ Q :=
  (show am_Snd G M_X_row 0 am_Pi _ from (sn_iload_n (pc := 0) (i := 1) dX11_row_0 rfl (sn_if_ge (pc := 1) (tgt := 11) dX11_row_1 rfl (sn_iload_n (pc := 11) (i := 1) dX11_row_11 rfl (sn_bipush (pc := 12) (v := 9) dX11_row_12 rfl (sn_icmp_gt (pc := 14) (tgt := 26) dX11_row_14 rfl (sn_lf (pc := 26) (ln_a (i := 0) (q := 0) (ln_end (o := fun τ => f_X_row_26 τ) (fun _ _ _ e h => s_X_row_26 G  _ _ _ e h)))) (sn_aload_n (pc := 17) (i := 0) dX11_row_17 rfl (sn_gI (pc := 18) (h := 0) (f := 7) dX11_row_18 am_CL_10 sh_0 rfl (Nat.le_of_ble_eq_true rfl) tw_226 (sn_bipush (pc := 21) (v := 12) dX11_row_21 rfl (sn_icmp_lt (pc := 23) (tgt := 33) dX11_row_23 rfl (sn_aload_n (pc := 33) (i := 0) dX11_row_33 rfl (sn_gR (r0 := 64) (pc := 34) (h := 0) (f := 6) dX11_row_34 am_CL_10 sh_0 rfl (Nat.le_of_ble_eq_true rfl) tw_225 (sn_aload_n (pc := 37) (i := 0) dX11_row_37 rfl (sn_gI (pc := 38) (h := 0) (f := 7) dX11_row_38 am_CL_10 sh_0 rfl (Nat.le_of_ble_eq_true rfl) tw_226 (sn_iload_n (pc := 41) (i := 1) dX11_row_41 rfl (sn_sI (pc := 42) (h := 64) dX11_row_42 sh_64 (sn_aload_n (pc := 43) (i := 0) dX11_row_43 rfl (sn_dup (pc := 44) dX11_row_44 (sn_gI (pc := 45) (h := 0) (f := 7) dX11_row_45 am_CL_10 sh_0 rfl (Nat.le_of_ble_eq_true rfl) tw_226 (sn_iconst (pc := 48) (v := 1) dX11_row_48 rfl (sn_iadd (pc := 49) dX11_row_49 (sn_pI (pc := 50) (h := 0) (f := 7) dX11_row_50 am_CL_10 sh_0 rfl (Nat.le_of_ble_eq_true rfl) tw_226 rfl rfl (sn_aload_n (pc := 53) (i := 0) dX11_row_53 rfl (sn_gI (pc := 54) (h := 0) (f := 7) dX11_row_54 am_CL_10 sh_0 rfl (Nat.le_of_ble_eq_true rfl) tw_226 (sn_reti (pc := 57) (R := fun x τ => (some ((x, τ)))) dX11_row_57 rfl (fun _ _ _ _ e h => by cases e; exact h)))))))))))))))) (sn_lf (pc := 26) (ln_a (i := 0) (q := 0) (ln_end (o := fun τ => f_X_row_26 τ) (fun _ _ _ e h => s_X_row_26 G  _ _ _ e h))))))))))) (sn_aload_n (pc := 4) (i := 0) dX11_row_4 rfl (sn_bipush (pc := 5) (v := (-4)) dX11_row_5 (show (Int8.ofInt (-4)).toInt32 = (-4) by decide) (sn_callV (pc := 7) (N := M_X_refuse) dX11_row_7 (cal_X_refuse G) sh_0 rfl tw_251 tw_253 tp_0 tw_1 tw_254 dsc_X11_refuse rfl (sn_reti (pc := 10) (R := fun x τ => (some ((x, τ)))) dX11_row_10 rfl (fun _ _ _ _ e h => by cases e; exact h)))))))) _ _ _ _ _ ((eq_X_row x1 σ).symm.trans e) hr
noncomputable def cF_X_row : am_Fn := fun _ args σ K => match args with
  | [.ref q0, .int z1] => match Nat.beq q0 0 with
    | true => (f_X_row z1 σ).bind (fun p => K (some (.int p.1)) p.2)
    | _ => none
  | _ => none
theorem cal_X_row (G : am_G) : am_Cal G M_X_row cF_X_row := by
  intro ρ args σ K r e
  unfold cF_X_row at e
  split at e
  · split at e
    · rename_i hq0
      obtain ⟨p, h1, h2⟩ := am_bind_some e
      rw [Nat.eq_of_beq_eq_true hq0]
      exact ⟨some (.int p.1), p.2, am_Met.of rfl (Nat.le_of_ble_eq_true rfl) (s_X_row G _ σ p _ h1 ⟨rfl, rfl⟩), h2⟩
    · cases e
  · cases e
abbrev M_X_canBeInRow : am_MD := (yX11_canBeInRow, cX11_canBeInRow, 4, (some .boolean), 5, 116)
theorem dX11_canBeInRow_0 : decode cX11_canBeInRow 0 = .ok (.iload_n 1, 1) := by decide +kernel
theorem dX11_canBeInRow_1 : decode cX11_canBeInRow 1 = .ok (.ifCond .lt 12, 3) := by decide +kernel
theorem dX11_canBeInRow_4 : decode cX11_canBeInRow 4 = .ok (.iload_n 1, 1) := by decide +kernel
theorem dX11_canBeInRow_5 : decode cX11_canBeInRow 5 = .ok (.aload_n 0, 1) := by decide +kernel
theorem dX11_canBeInRow_6 : decode cX11_canBeInRow 6 = .ok (.getfield 44, 3) := by decide +kernel
theorem dX11_canBeInRow_9 : decode cX11_canBeInRow 9 = .ok (.arraylength, 1) := by decide +kernel
theorem dX11_canBeInRow_10 : decode cX11_canBeInRow 10 = .ok (.if_icmp .lt 5, 3) := by decide +kernel
theorem dX11_canBeInRow_13 : decode cX11_canBeInRow 13 = .ok (.iconst 0, 1) := by decide +kernel
theorem dX11_canBeInRow_14 : decode cX11_canBeInRow 14 = .ok (.ireturn, 1) := by decide +kernel
theorem dX11_canBeInRow_15 : decode cX11_canBeInRow 15 = .ok (.iload_n 1, 1) := by decide +kernel
theorem dX11_canBeInRow_16 : decode cX11_canBeInRow 16 = .ok (.iconst 3, 1) := by decide +kernel
theorem dX11_canBeInRow_17 : decode cX11_canBeInRow 17 = .ok (.irem, 1) := by decide +kernel
theorem dX11_canBeInRow_18 : decode cX11_canBeInRow 18 = .ok (.istore_n 2, 1) := by decide +kernel
theorem dX11_canBeInRow_19 : decode cX11_canBeInRow 19 = .ok (.iload_n 2, 1) := by decide +kernel
theorem dX11_canBeInRow_20 : decode cX11_canBeInRow 20 = .ok (.iconst 2, 1) := by decide +kernel
theorem dX11_canBeInRow_21 : decode cX11_canBeInRow 21 = .ok (.if_icmp .ge 17, 3) := by decide +kernel
theorem dX11_canBeInRow_24 : decode cX11_canBeInRow 24 = .ok (.aload_n 0, 1) := by decide +kernel
theorem dX11_canBeInRow_25 : decode cX11_canBeInRow 25 = .ok (.getfield 10, 3) := by decide +kernel
theorem dX11_canBeInRow_28 : decode cX11_canBeInRow 28 = .ok (.aload_n 0, 1) := by decide +kernel
theorem dX11_canBeInRow_29 : decode cX11_canBeInRow 29 = .ok (.getfield 44, 3) := by decide +kernel
theorem dX11_canBeInRow_32 : decode cX11_canBeInRow 32 = .ok (.iload_n 1, 1) := by decide +kernel
theorem dX11_canBeInRow_33 : decode cX11_canBeInRow 33 = .ok (.iaload, 1) := by decide +kernel
theorem dX11_canBeInRow_34 : decode cX11_canBeInRow 34 = .ok (.invokevirtual 81, 3) := by decide +kernel
theorem dX11_canBeInRow_37 : decode cX11_canBeInRow 37 = .ok (.ireturn, 1) := by decide +kernel
theorem dX11_canBeInRow_38 : decode cX11_canBeInRow 38 = .ok (.aload_n 0, 1) := by decide +kernel
theorem dX11_canBeInRow_39 : decode cX11_canBeInRow 39 = .ok (.getfield 10, 3) := by decide +kernel
theorem dX11_canBeInRow_42 : decode cX11_canBeInRow 42 = .ok (.aload_n 0, 1) := by decide +kernel
theorem dX11_canBeInRow_43 : decode cX11_canBeInRow 43 = .ok (.getfield 44, 3) := by decide +kernel
theorem dX11_canBeInRow_46 : decode cX11_canBeInRow 46 = .ok (.iload_n 1, 1) := by decide +kernel
theorem dX11_canBeInRow_47 : decode cX11_canBeInRow 47 = .ok (.iconst 2, 1) := by decide +kernel
theorem dX11_canBeInRow_48 : decode cX11_canBeInRow 48 = .ok (.isub, 1) := by decide +kernel
theorem dX11_canBeInRow_49 : decode cX11_canBeInRow 49 = .ok (.iaload, 1) := by decide +kernel
theorem dX11_canBeInRow_50 : decode cX11_canBeInRow 50 = .ok (.aload_n 0, 1) := by decide +kernel
theorem dX11_canBeInRow_51 : decode cX11_canBeInRow 51 = .ok (.getfield 44, 3) := by decide +kernel
theorem dX11_canBeInRow_54 : decode cX11_canBeInRow 54 = .ok (.iload_n 1, 1) := by decide +kernel
theorem dX11_canBeInRow_55 : decode cX11_canBeInRow 55 = .ok (.iconst 1, 1) := by decide +kernel
theorem dX11_canBeInRow_56 : decode cX11_canBeInRow 56 = .ok (.isub, 1) := by decide +kernel
theorem dX11_canBeInRow_57 : decode cX11_canBeInRow 57 = .ok (.iaload, 1) := by decide +kernel
theorem dX11_canBeInRow_58 : decode cX11_canBeInRow 58 = .ok (.aload_n 0, 1) := by decide +kernel
theorem dX11_canBeInRow_59 : decode cX11_canBeInRow 59 = .ok (.getfield 10, 3) := by decide +kernel
theorem dX11_canBeInRow_62 : decode cX11_canBeInRow 62 = .ok (.getfield 162, 3) := by decide +kernel
theorem dX11_canBeInRow_65 : decode cX11_canBeInRow 65 = .ok (.invokevirtual 221, 3) := by decide +kernel
theorem dX11_canBeInRow_68 : decode cX11_canBeInRow 68 = .ok (.istore_n 3, 1) := by decide +kernel
theorem dX11_canBeInRow_69 : decode cX11_canBeInRow 69 = .ok (.aload_n 0, 1) := by decide +kernel
theorem dX11_canBeInRow_70 : decode cX11_canBeInRow 70 = .ok (.getfield 44, 3) := by decide +kernel
theorem dX11_canBeInRow_73 : decode cX11_canBeInRow 73 = .ok (.iload_n 1, 1) := by decide +kernel
theorem dX11_canBeInRow_74 : decode cX11_canBeInRow 74 = .ok (.iaload, 1) := by decide +kernel
theorem dX11_canBeInRow_75 : decode cX11_canBeInRow 75 = .ok (.iload_n 3, 1) := by decide +kernel
theorem dX11_canBeInRow_76 : decode cX11_canBeInRow 76 = .ok (.bipush (-9), 2) := by decide +kernel
theorem dX11_canBeInRow_78 : decode cX11_canBeInRow 78 = .ok (.if_icmp .ne 8, 3) := by decide +kernel
theorem dX11_canBeInRow_81 : decode cX11_canBeInRow 81 = .ok (.bipush 9, 2) := by decide +kernel
theorem dX11_canBeInRow_83 : decode cX11_canBeInRow 83 = .ok (.goto 4, 3) := by decide +kernel
theorem dX11_canBeInRow_86 : decode cX11_canBeInRow 86 = .ok (.iload_n 3, 1) := by decide +kernel
theorem dX11_canBeInRow_87 : decode cX11_canBeInRow 87 = .ok (.if_icmp .ne 7, 3) := by decide +kernel
theorem dX11_canBeInRow_90 : decode cX11_canBeInRow 90 = .ok (.iconst 1, 1) := by decide +kernel
theorem dX11_canBeInRow_91 : decode cX11_canBeInRow 91 = .ok (.goto 4, 3) := by decide +kernel
theorem dX11_canBeInRow_94 : decode cX11_canBeInRow 94 = .ok (.iconst 0, 1) := by decide +kernel
theorem dX11_canBeInRow_95 : decode cX11_canBeInRow 95 = .ok (.ireturn, 1) := by decide +kernel
noncomputable def g_X_canBeInRow_87 (y0 : Int32) (y1 : Int32) (σ : am_St) : Option (Int32 × am_St) :=
  if y0 = y1 then
    some ((1, σ))
  else
    some ((0, σ))
noncomputable def f_X_canBeInRow_87 (y0 : Int32) (y1 : Int32) (σ : am_St) : Option (Int32 × am_St) := am_lk (g_X_canBeInRow_87 y0 y1 σ)
theorem eq_X_canBeInRow_87 (y0 : Int32) (y1 : Int32) (σ : am_St) : f_X_canBeInRow_87 y0 y1 σ = g_X_canBeInRow_87 y0 y1 σ := am_lk_eq _
set_option maxRecDepth 100000 in
set_option maxHeartbeats 4000000 in
theorem s_X_canBeInRow_87 (G : am_G) (y0 : Int32) (y1 : Int32) (σ : am_St) (r : Int32 × am_St) (Q : am_AQ) (e : f_X_canBeInRow_87 y0 y1 σ = some r) (hr : am_Pi r Q) : am_AW G M_X_canBeInRow 87 [] [.int y1, .int y0] σ Q :=
  (show am_Snd G M_X_canBeInRow 87 am_Pi _ from (sn_icmp_ne (pc := 87) (tgt := 94) dX11_canBeInRow_87 rfl (sn_iconst (pc := 94) (v := 0) dX11_canBeInRow_94 rfl (sn_retz (pc := 95) (R := fun x τ => (some ((x, τ)))) dX11_canBeInRow_95 rfl (fun _ _ _ _ e h => by cases e; exact h))) (sn_iconst (pc := 90) (v := 1) dX11_canBeInRow_90 rfl (sn_goto (pc := 91) (tgt := 95) dX11_canBeInRow_91 rfl (sn_retz (pc := 95) (R := fun x τ => (some ((x, τ)))) dX11_canBeInRow_95 rfl (fun _ _ _ _ e h => by cases e; exact h)))))) _ _ _ _ _ ((eq_X_canBeInRow_87 y0 y1 σ).symm.trans e) hr
noncomputable def g_X_canBeInRow_69 (x1 : Int32) (x3 : Int32) (σ : am_St) : Option (Int32 × am_St) :=
  if am_ix x1 12 = true then
    if x3 = (-9) then
      f_X_canBeInRow_87 (σ.1 64 x1.toNatClampNeg) 9 σ
    else
      f_X_canBeInRow_87 (σ.1 64 x1.toNatClampNeg) x3 σ
  else none
noncomputable def f_X_canBeInRow_69 (x1 : Int32) (x3 : Int32) (σ : am_St) : Option (Int32 × am_St) := am_lk (g_X_canBeInRow_69 x1 x3 σ)
theorem eq_X_canBeInRow_69 (x1 : Int32) (x3 : Int32) (σ : am_St) : f_X_canBeInRow_69 x1 x3 σ = g_X_canBeInRow_69 x1 x3 σ := am_lk_eq _
set_option maxRecDepth 100000 in
set_option maxHeartbeats 4000000 in
theorem s_X_canBeInRow_69 (G : am_G) (x1 : Int32) (x3 : Int32) (σ : am_St) (r : Int32 × am_St) (Q : am_AQ) (e : f_X_canBeInRow_69 x1 x3 σ = some r) (hr : am_Pi r Q) : am_AW G M_X_canBeInRow 69 [(3, .int x3), (1, .int x1), (0, .ref 0)] [] σ Q :=
  (show am_Snd G M_X_canBeInRow 69 am_Pi _ from (sn_aload_n (pc := 69) (i := 0) dX11_canBeInRow_69 rfl (sn_gR (r0 := 64) (pc := 70) (h := 0) (f := 6) dX11_canBeInRow_70 am_CL_10 sh_0 rfl (Nat.le_of_ble_eq_true rfl) tw_225 (sn_iload_n (pc := 73) (i := 1) dX11_canBeInRow_73 rfl (sn_aI (pc := 74) (h := 64) dX11_canBeInRow_74 sh_64 (sn_iload_n (pc := 75) (i := 3) dX11_canBeInRow_75 rfl (sn_bipush (pc := 76) (v := (-9)) dX11_canBeInRow_76 (show (Int8.ofInt (-9)).toInt32 = (-9) by decide) (sn_icmp_ne (pc := 78) (tgt := 86) dX11_canBeInRow_78 rfl (sn_iload_n (pc := 86) (i := 3) dX11_canBeInRow_86 rfl (sn_lf (pc := 87) (ln_si (fun w1 => (ln_si (fun w0 => (ln_end (o := fun τ => f_X_canBeInRow_87 w0 w1 τ) (fun _ _ _ e h => s_X_canBeInRow_87 G w0 w1 _ _ _ e h)))))))) (sn_bipush (pc := 81) (v := 9) dX11_canBeInRow_81 rfl (sn_goto (pc := 83) (tgt := 87) dX11_canBeInRow_83 rfl (sn_lf (pc := 87) (ln_si (fun w1 => (ln_si (fun w0 => (ln_end (o := fun τ => f_X_canBeInRow_87 w0 w1 τ) (fun _ _ _ e h => s_X_canBeInRow_87 G w0 w1 _ _ _ e h))))))))))))))))) _ _ _ _ _ ((eq_X_canBeInRow_69 x1 x3 σ).symm.trans e) hr
noncomputable def g_X_canBeInRow (x1 : Int32) (σ : am_St) : Option (Int32 × am_St) :=
  if x1 < 0 then
    some ((0, σ))
  else
    if x1 < 12 then
      let v1 := am_rem x1 3
      if 2 ≤ v1 then
        if am_ix (x1 - 2) 12 = true then
          if am_ix (x1 - 1) 12 = true then
            (f_H_told_1 (σ.1 64 (x1 - 2).toNatClampNeg) (σ.1 64 (x1 - 1).toNatClampNeg) (σ.1 1 4) σ).bind (fun p2 =>
              f_X_canBeInRow_69 x1 p2.1 p2.2)
          else none
        else none
      else
        if am_ix x1 12 = true then
          (f_H_hasChild_1 (σ.1 64 x1.toNatClampNeg) σ).bind (fun p3 =>
            if p3.1 &&& 1 = p3.1 then some ((p3.1, p3.2)) else none)
        else none
    else
      some ((0, σ))
noncomputable def f_X_canBeInRow (x1 : Int32) (σ : am_St) : Option (Int32 × am_St) := am_lk (g_X_canBeInRow x1 σ)
theorem eq_X_canBeInRow (x1 : Int32) (σ : am_St) : f_X_canBeInRow x1 σ = g_X_canBeInRow x1 σ := am_lk_eq _
set_option maxRecDepth 100000 in
set_option maxHeartbeats 4000000 in
theorem s_X_canBeInRow (G : am_G) (x1 : Int32) (σ : am_St) (r : Int32 × am_St) (Q : am_AQ) (e : f_X_canBeInRow x1 σ = some r) (hr : am_Pi r Q) : am_AW G M_X_canBeInRow 0 [(0, .ref 0), (1, .int x1)] [] σ Q :=
  (show am_Snd G M_X_canBeInRow 0 am_Pi _ from (sn_iload_n (pc := 0) (i := 1) dX11_canBeInRow_0 rfl (sn_if_lt (pc := 1) (tgt := 13) dX11_canBeInRow_1 rfl (sn_iconst (pc := 13) (v := 0) dX11_canBeInRow_13 rfl (sn_retz (pc := 14) (R := fun x τ => (some ((x, τ)))) dX11_canBeInRow_14 rfl (fun _ _ _ _ e h => by cases e; exact h))) (sn_iload_n (pc := 4) (i := 1) dX11_canBeInRow_4 rfl (sn_aload_n (pc := 5) (i := 0) dX11_canBeInRow_5 rfl (sn_gR (r0 := 64) (pc := 6) (h := 0) (f := 6) dX11_canBeInRow_6 am_CL_10 sh_0 rfl (Nat.le_of_ble_eq_true rfl) tw_225 (sn_len (pc := 9) (h := 64) (v := 12) dX11_canBeInRow_9 sh_64 rfl (sn_icmp_lt (pc := 10) (tgt := 15) dX11_canBeInRow_10 rfl (sn_iload_n (pc := 15) (i := 1) dX11_canBeInRow_15 rfl (sn_iconst (pc := 16) (v := 3) dX11_canBeInRow_16 rfl (sn_irem (pc := 17) dX11_canBeInRow_17 (sn_istore_n (pc := 18) (i := 2) dX11_canBeInRow_18 rfl (Nat.le_of_ble_eq_true rfl) (sn_iload_n (pc := 19) (i := 2) dX11_canBeInRow_19 rfl (sn_iconst (pc := 20) (v := 2) dX11_canBeInRow_20 rfl (sn_icmp_ge (pc := 21) (tgt := 38) dX11_canBeInRow_21 rfl (sn_aload_n (pc := 38) (i := 0) dX11_canBeInRow_38 rfl (sn_gR (r0 := 1) (pc := 39) (h := 0) (f := 0) dX11_canBeInRow_39 am_CL_10 sh_0 rfl (Nat.le_of_ble_eq_true rfl) tw_219 (sn_aload_n (pc := 42) (i := 0) dX11_canBeInRow_42 rfl (sn_gR (r0 := 64) (pc := 43) (h := 0) (f := 6) dX11_canBeInRow_43 am_CL_10 sh_0 rfl (Nat.le_of_ble_eq_true rfl) tw_225 (sn_iload_n (pc := 46) (i := 1) dX11_canBeInRow_46 rfl (sn_iconst (pc := 47) (v := 2) dX11_canBeInRow_47 rfl (sn_isub (pc := 48) dX11_canBeInRow_48 (sn_aI (pc := 49) (h := 64) dX11_canBeInRow_49 sh_64 (sn_aload_n (pc := 50) (i := 0) dX11_canBeInRow_50 rfl (sn_gR (r0 := 64) (pc := 51) (h := 0) (f := 6) dX11_canBeInRow_51 am_CL_10 sh_0 rfl (Nat.le_of_ble_eq_true rfl) tw_225 (sn_iload_n (pc := 54) (i := 1) dX11_canBeInRow_54 rfl (sn_iconst (pc := 55) (v := 1) dX11_canBeInRow_55 rfl (sn_isub (pc := 56) dX11_canBeInRow_56 (sn_aI (pc := 57) (h := 64) dX11_canBeInRow_57 sh_64 (sn_aload_n (pc := 58) (i := 0) dX11_canBeInRow_58 rfl (sn_gR (r0 := 1) (pc := 59) (h := 0) (f := 0) dX11_canBeInRow_59 am_CL_10 sh_0 rfl (Nat.le_of_ble_eq_true rfl) tw_219 (sn_gI (pc := 62) (h := 1) (f := 4) dX11_canBeInRow_62 am_CL_3 sh_1 rfl (Nat.le_of_ble_eq_true rfl) tw_99 (sn_callV (pc := 65) (N := M_H_told) dX11_canBeInRow_65 (cal_H_told_1 G) sh_1 rfl tw_714 tw_715 tw_716 tw_2 tw_717 dsc_X3_told rfl (sn_istore_n (pc := 68) (i := 3) dX11_canBeInRow_68 rfl (Nat.le_of_ble_eq_true rfl) (sn_lf (pc := 69) (ln_a (i := 0) (q := 0) (ln_i (i := 1) (fun z0 => (ln_i (i := 3) (fun z1 => (ln_end (o := fun τ => f_X_canBeInRow_69 z0 z1 τ) (fun _ _ _ e h => s_X_canBeInRow_69 G z0 z1 _ _ _ e h))))))))))))))))))))))))))) (sn_aload_n (pc := 24) (i := 0) dX11_canBeInRow_24 rfl (sn_gR (r0 := 1) (pc := 25) (h := 0) (f := 0) dX11_canBeInRow_25 am_CL_10 sh_0 rfl (Nat.le_of_ble_eq_true rfl) tw_219 (sn_aload_n (pc := 28) (i := 0) dX11_canBeInRow_28 rfl (sn_gR (r0 := 64) (pc := 29) (h := 0) (f := 6) dX11_canBeInRow_29 am_CL_10 sh_0 rfl (Nat.le_of_ble_eq_true rfl) tw_225 (sn_iload_n (pc := 32) (i := 1) dX11_canBeInRow_32 rfl (sn_aI (pc := 33) (h := 64) dX11_canBeInRow_33 sh_64 (sn_callV (pc := 34) (N := M_H_hasChild) dX11_canBeInRow_34 (cal_H_hasChild_1 G) sh_1 rfl tw_434 tw_385 tw_386 tw_2 tw_387 dsc_X3_hasChild rfl (sn_retz (pc := 37) (R := fun x τ => (some ((x, τ)))) dX11_canBeInRow_37 rfl (fun _ _ _ _ e h => by cases e; exact h)))))))))))))))) (sn_iconst (pc := 13) (v := 0) dX11_canBeInRow_13 rfl (sn_retz (pc := 14) (R := fun x τ => (some ((x, τ)))) dX11_canBeInRow_14 rfl (fun _ _ _ _ e h => by cases e; exact h))))))))))) _ _ _ _ _ ((eq_X_canBeInRow x1 σ).symm.trans e) hr
noncomputable def cF_X_canBeInRow : am_Fn := fun _ args σ K => match args with
  | [.ref q0, .int z1] => match Nat.beq q0 0 with
    | true => (f_X_canBeInRow z1 σ).bind (fun p => K (some (.int p.1)) p.2)
    | _ => none
  | _ => none
theorem cal_X_canBeInRow (G : am_G) : am_Cal G M_X_canBeInRow cF_X_canBeInRow := by
  intro ρ args σ K r e
  unfold cF_X_canBeInRow at e
  split at e
  · split at e
    · rename_i hq0
      obtain ⟨p, h1, h2⟩ := am_bind_some e
      rw [Nat.eq_of_beq_eq_true hq0]
      exact ⟨some (.int p.1), p.2, am_Met.of rfl (Nat.le_of_ble_eq_true rfl) (s_X_canBeInRow G _ σ p _ h1 ⟨rfl, rfl⟩), h2⟩
    · cases e
  · cases e
abbrev M_X_judge : am_MD := (yX11_judge, cX11_judge, 4, (some .int), 6, 139)
theorem dX11_judge_0 : decode cX11_judge 0 = .ok (.aload_n 0, 1) := by decide +kernel
theorem dX11_judge_1 : decode cX11_judge 1 = .ok (.getfield 48, 3) := by decide +kernel
theorem dX11_judge_4 : decode cX11_judge 4 = .ok (.istore_n 1, 1) := by decide +kernel
theorem dX11_judge_5 : decode cX11_judge 5 = .ok (.iload_n 1, 1) := by decide +kernel
theorem dX11_judge_6 : decode cX11_judge 6 = .ok (.iload_n 1, 1) := by decide +kernel
theorem dX11_judge_7 : decode cX11_judge 7 = .ok (.iconst 3, 1) := by decide +kernel
theorem dX11_judge_8 : decode cX11_judge 8 = .ok (.irem, 1) := by decide +kernel
theorem dX11_judge_9 : decode cX11_judge 9 = .ok (.isub, 1) := by decide +kernel
theorem dX11_judge_10 : decode cX11_judge 10 = .ok (.istore_n 2, 1) := by decide +kernel
theorem dX11_judge_11 : decode cX11_judge 11 = .ok (.aload_n 0, 1) := by decide +kernel
theorem dX11_judge_12 : decode cX11_judge 12 = .ok (.iconst 0, 1) := by decide +kernel
theorem dX11_judge_13 : decode cX11_judge 13 = .ok (.putfield 48, 3) := by decide +kernel
theorem dX11_judge_16 : decode cX11_judge 16 = .ok (.iconst 0, 1) := by decide +kernel
theorem dX11_judge_17 : decode cX11_judge 17 = .ok (.istore_n 3, 1) := by decide +kernel
theorem dX11_judge_18 : decode cX11_judge 18 = .ok (.iload_n 3, 1) := by decide +kernel
theorem dX11_judge_19 : decode cX11_judge 19 = .ok (.iload_n 2, 1) := by decide +kernel
theorem dX11_judge_20 : decode cX11_judge 20 = .ok (.if_icmp .ge 19, 3) := by decide +kernel
theorem dX11_judge_23 : decode cX11_judge 23 = .ok (.aload_n 0, 1) := by decide +kernel
theorem dX11_judge_24 : decode cX11_judge 24 = .ok (.iload_n 3, 1) := by decide +kernel
theorem dX11_judge_25 : decode cX11_judge 25 = .ok (.invokevirtual 278, 3) := by decide +kernel
theorem dX11_judge_28 : decode cX11_judge 28 = .ok (.ifCond .ne 5, 3) := by decide +kernel
theorem dX11_judge_31 : decode cX11_judge 31 = .ok (.iload_n 3, 1) := by decide +kernel
theorem dX11_judge_32 : decode cX11_judge 32 = .ok (.ireturn, 1) := by decide +kernel
theorem dX11_judge_33 : decode cX11_judge 33 = .ok (.iinc 3 1, 3) := by decide +kernel
theorem dX11_judge_36 : decode cX11_judge 36 = .ok (.goto (-18), 3) := by decide +kernel
theorem dX11_judge_39 : decode cX11_judge 39 = .ok (.iload_n 2, 1) := by decide +kernel
theorem dX11_judge_40 : decode cX11_judge 40 = .ok (.iload_n 1, 1) := by decide +kernel
theorem dX11_judge_41 : decode cX11_judge 41 = .ok (.if_icmp .ne 8, 3) := by decide +kernel
theorem dX11_judge_44 : decode cX11_judge 44 = .ok (.bipush (-9), 2) := by decide +kernel
theorem dX11_judge_46 : decode cX11_judge 46 = .ok (.goto 4, 3) := by decide +kernel
theorem dX11_judge_49 : decode cX11_judge 49 = .ok (.iload_n 2, 1) := by decide +kernel
theorem dX11_judge_50 : decode cX11_judge 50 = .ok (.ireturn, 1) := by decide +kernel
abbrev Pl_X_judge_18 (G : am_G) : ((Int32 × Int32 × Int32 × am_St) ⊕ (Int32 × am_St)) → am_AQ → Prop := am_PL G M_X_judge 18 (fun s : Int32 × Int32 × Int32 × am_St => [(3, .int s.2.2.1), (2, .int s.2.1), (1, .int s.1), (0, .ref 0)]) (fun s => s.2.2.2) am_Pi
noncomputable def b_X_judge_18 (x1 : Int32) (x2 : Int32) (x3 : Int32) (σ : am_St) : Option ((Int32 × Int32 × Int32 × am_St) ⊕ (Int32 × am_St)) :=
  if x2 ≤ x3 then
    if x2 = x1 then
      some (.inr (((-9), σ)))
    else
      some (.inr ((x2, σ)))
  else
    (f_X_canBeInRow x3 σ).bind (fun p1 =>
      if p1.1 = 0 then
        some (.inr ((x3, p1.2)))
      else
        let v2 := x3 + 1
        some (.inl (x1, x2, v2, p1.2)))
noncomputable def f_X_judge_18 (x1 : Int32) (x2 : Int32) (x3 : Int32) (σ : am_St) : Option (Int32 × am_St) := am_lp (fun s : Int32 × Int32 × Int32 × am_St => b_X_judge_18 s.1 s.2.1 s.2.2.1 s.2.2.2) (x1, x2, x3, σ)
set_option maxRecDepth 100000 in
set_option maxHeartbeats 4000000 in
theorem sb_X_judge_18 (G : am_G) (x1 : Int32) (x2 : Int32) (x3 : Int32) (σ : am_St) (r : (Int32 × Int32 × Int32 × am_St) ⊕ (Int32 × am_St)) (Q : am_AQ) (e : b_X_judge_18 x1 x2 x3 σ = some r) (hr : Pl_X_judge_18 G r Q) : am_AW G M_X_judge 18 [(3, .int x3), (2, .int x2), (1, .int x1), (0, .ref 0)] [] σ Q :=
  (show am_Snd G M_X_judge 18 (Pl_X_judge_18 G) _ from (sn_iload_n (pc := 18) (i := 3) dX11_judge_18 rfl (sn_iload_n (pc := 19) (i := 2) dX11_judge_19 rfl (sn_icmp_ge (pc := 20) (tgt := 39) dX11_judge_20 rfl (sn_iload_n (pc := 39) (i := 2) dX11_judge_39 rfl (sn_iload_n (pc := 40) (i := 1) dX11_judge_40 rfl (sn_icmp_ne (pc := 41) (tgt := 49) dX11_judge_41 rfl (sn_iload_n (pc := 49) (i := 2) dX11_judge_49 rfl (sn_reti (pc := 50) (R := fun x τ => (some (.inr ((x, τ))) : Option ((Int32 × Int32 × Int32 × am_St) ⊕ (Int32 × am_St)))) dX11_judge_50 rfl (fun _ _ _ _ e h => by cases e; exact h))) (sn_bipush (pc := 44) (v := (-9)) dX11_judge_44 (show (Int8.ofInt (-9)).toInt32 = (-9) by decide) (sn_goto (pc := 46) (tgt := 50) dX11_judge_46 rfl (sn_reti (pc := 50) (R := fun x τ => (some (.inr ((x, τ))) : Option ((Int32 × Int32 × Int32 × am_St) ⊕ (Int32 × am_St)))) dX11_judge_50 rfl (fun _ _ _ _ e h => by cases e; exact h))))))) (sn_aload_n (pc := 23) (i := 0) dX11_judge_23 rfl (sn_iload_n (pc := 24) (i := 3) dX11_judge_24 rfl (sn_callV (pc := 25) (N := M_X_canBeInRow) dX11_judge_25 (cal_X_canBeInRow G) sh_0 rfl tw_881 tw_883 tp_22 tw_1 tw_884 dsc_X11_canBeInRow rfl (sn_if_ne (pc := 28) (tgt := 33) dX11_judge_28 rfl (sn_iinc (pc := 33) (v := 1) dX11_judge_33 rfl (Nat.le_of_ble_eq_true rfl) (sn_goto (pc := 36) (tgt := 18) dX11_judge_36 rfl (sn_lf (pc := 18) (ln_a (i := 0) (q := 0) (ln_i (i := 1) (fun z0 => (ln_i (i := 2) (fun z1 => (ln_i (i := 3) (fun z2 => (ln_end (o := fun τ => (some (.inl (z0, z1, z2, τ)) : Option ((Int32 × Int32 × Int32 × am_St) ⊕ (Int32 × am_St)))) (fun _ _ _ e h => by cases e; exact h)))))))))))) (sn_iload_n (pc := 31) (i := 3) dX11_judge_31 rfl (sn_reti (pc := 32) (R := fun x τ => (some (.inr ((x, τ))) : Option ((Int32 × Int32 × Int32 × am_St) ⊕ (Int32 × am_St)))) dX11_judge_32 rfl (fun _ _ _ _ e h => by cases e; exact h))))))))))) _ _ _ _ _ e hr
theorem s_X_judge_18 (G : am_G) (x1 : Int32) (x2 : Int32) (x3 : Int32) (σ : am_St) (r : Int32 × am_St) (Q : am_AQ) (e : f_X_judge_18 x1 x2 x3 σ = some r) (hr : am_Pi r Q) : am_AW G M_X_judge 18 [(3, .int x3), (2, .int x2), (1, .int x1), (0, .ref 0)] [] σ Q :=
  am_loop (P := am_Pi) (L := fun s : Int32 × Int32 × Int32 × am_St => [(3, .int s.2.2.1), (2, .int s.2.1), (1, .int s.1), (0, .ref 0)]) (g := fun s => s.2.2.2) (fun s o Q e hr => sb_X_judge_18 G s.1 s.2.1 s.2.2.1 s.2.2.2 o Q e hr) (x1, x2, x3, σ) r Q e hr
noncomputable def g_X_judge (σ : am_St) : Option (Int32 × am_St) :=
  let v1 := σ.1 0 7
  let v2 := v1 - (am_rem v1 3)
  let s3 := am_sI σ 0 7 0
  f_X_judge_18 v1 v2 0 s3
noncomputable def f_X_judge (σ : am_St) : Option (Int32 × am_St) := am_lk (g_X_judge  σ)
theorem eq_X_judge (σ : am_St) : f_X_judge  σ = g_X_judge  σ := am_lk_eq _
set_option maxRecDepth 100000 in
set_option maxHeartbeats 4000000 in
theorem s_X_judge (G : am_G) (σ : am_St) (r : Int32 × am_St) (Q : am_AQ) (e : f_X_judge  σ = some r) (hr : am_Pi r Q) : am_AW G M_X_judge 0 [(0, .ref 0)] [] σ Q :=
  (show am_Snd G M_X_judge 0 am_Pi _ from (sn_aload_n (pc := 0) (i := 0) dX11_judge_0 rfl (sn_gI (pc := 1) (h := 0) (f := 7) dX11_judge_1 am_CL_10 sh_0 rfl (Nat.le_of_ble_eq_true rfl) tw_226 (sn_istore_n (pc := 4) (i := 1) dX11_judge_4 rfl (Nat.le_of_ble_eq_true rfl) (sn_iload_n (pc := 5) (i := 1) dX11_judge_5 rfl (sn_iload_n (pc := 6) (i := 1) dX11_judge_6 rfl (sn_iconst (pc := 7) (v := 3) dX11_judge_7 rfl (sn_irem (pc := 8) dX11_judge_8 (sn_isub (pc := 9) dX11_judge_9 (sn_istore_n (pc := 10) (i := 2) dX11_judge_10 rfl (Nat.le_of_ble_eq_true rfl) (sn_aload_n (pc := 11) (i := 0) dX11_judge_11 rfl (sn_iconst (pc := 12) (v := 0) dX11_judge_12 rfl (sn_pI (pc := 13) (h := 0) (f := 7) dX11_judge_13 am_CL_10 sh_0 rfl (Nat.le_of_ble_eq_true rfl) tw_226 rfl rfl (sn_iconst (pc := 16) (v := 0) dX11_judge_16 rfl (sn_istore_n (pc := 17) (i := 3) dX11_judge_17 rfl (Nat.le_of_ble_eq_true rfl) (sn_lf (pc := 18) (ln_a (i := 0) (q := 0) (ln_i (i := 1) (fun z0 => (ln_i (i := 2) (fun z1 => (ln_i (i := 3) (fun z2 => (ln_end (o := fun τ => f_X_judge_18 z0 z1 z2 τ) (fun _ _ _ e h => s_X_judge_18 G z0 z1 z2 _ _ _ e h))))))))))))))))))))))))) _ _ _ _ _ ((eq_X_judge  σ).symm.trans e) hr
noncomputable def cF_X_judge : am_Fn := fun _ args σ K => match args with
  | [.ref q0] => match Nat.beq q0 0 with
    | true => (f_X_judge σ).bind (fun p => K (some (.int p.1)) p.2)
    | _ => none
  | _ => none
theorem cal_X_judge (G : am_G) : am_Cal G M_X_judge cF_X_judge := by
  intro ρ args σ K r e
  unfold cF_X_judge at e
  split at e
  · split at e
    · rename_i hq0
      obtain ⟨p, h1, h2⟩ := am_bind_some e
      rw [Nat.eq_of_beq_eq_true hq0]
      exact ⟨some (.int p.1), p.2, am_Met.of rfl (Nat.le_of_ble_eq_true rfl) (s_X_judge G  σ p _ h1 ⟨rfl, rfl⟩), h2⟩
    · cases e
  · cases e
abbrev M_H_doorsOf : am_MD := (yX3_doorsOf, cX3_doorsOf, 2, (some .int), 1, 21)
theorem dX3_doorsOf_0 : decode cX3_doorsOf 0 = .ok (.aload_n 0, 1) := by decide +kernel
theorem dX3_doorsOf_1 : decode cX3_doorsOf 1 = .ok (.iload_n 1, 1) := by decide +kernel
theorem dX3_doorsOf_2 : decode cX3_doorsOf 2 = .ok (.invokevirtual 93, 3) := by decide +kernel
theorem dX3_doorsOf_5 : decode cX3_doorsOf 5 = .ok (.ifCond .eq 15, 3) := by decide +kernel
theorem dX3_doorsOf_8 : decode cX3_doorsOf 8 = .ok (.aload_n 0, 1) := by decide +kernel
theorem dX3_doorsOf_9 : decode cX3_doorsOf 9 = .ok (.getfield 18, 3) := by decide +kernel
theorem dX3_doorsOf_12 : decode cX3_doorsOf 12 = .ok (.iload_n 1, 1) := by decide +kernel
theorem dX3_doorsOf_13 : decode cX3_doorsOf 13 = .ok (.iaload, 1) := by decide +kernel
theorem dX3_doorsOf_14 : decode cX3_doorsOf 14 = .ok (.invokestatic 97, 3) := by decide +kernel
theorem dX3_doorsOf_17 : decode cX3_doorsOf 17 = .ok (.goto 4, 3) := by decide +kernel
theorem dX3_doorsOf_20 : decode cX3_doorsOf 20 = .ok (.iconst 0, 1) := by decide +kernel
theorem dX3_doorsOf_21 : decode cX3_doorsOf 21 = .ok (.ireturn, 1) := by decide +kernel
noncomputable def g_H_doorsOf_1 (x1 : Int32) (σ : am_St) : Option (Int32 × am_St) :=
  (f_H_hasRoom_1 x1 σ).bind (fun p1 =>
    if p1.1 = 0 then
      some ((0, p1.2))
    else
      if am_ix x1 4 = true then
        (f_JI_bitCount (p1.2.1 2 x1.toNatClampNeg) p1.2).bind (fun p2 =>
          some ((p2.1, p2.2)))
      else none)
noncomputable def f_H_doorsOf_1 (x1 : Int32) (σ : am_St) : Option (Int32 × am_St) := am_lk (g_H_doorsOf_1 x1 σ)
theorem eq_H_doorsOf_1 (x1 : Int32) (σ : am_St) : f_H_doorsOf_1 x1 σ = g_H_doorsOf_1 x1 σ := am_lk_eq _
set_option maxRecDepth 100000 in
set_option maxHeartbeats 4000000 in
theorem s_H_doorsOf_1 (G : am_G) (x1 : Int32) (σ : am_St) (r : Int32 × am_St) (Q : am_AQ) (e : f_H_doorsOf_1 x1 σ = some r) (hr : am_Pi r Q) : am_AW G M_H_doorsOf 0 [(0, .ref 1), (1, .int x1)] [] σ Q :=
  (show am_Snd G M_H_doorsOf 0 am_Pi _ from (sn_aload_n (pc := 0) (i := 0) dX3_doorsOf_0 rfl (sn_iload_n (pc := 1) (i := 1) dX3_doorsOf_1 rfl (sn_callV (pc := 2) (N := M_H_hasRoom) dX3_doorsOf_2 (cal_H_hasRoom_1 G) sh_1 rfl tw_331 tw_324 tw_325 tw_2 tw_326 dsc_X3_hasRoom rfl (sn_if_eq (pc := 5) (tgt := 20) dX3_doorsOf_5 rfl (sn_iconst (pc := 20) (v := 0) dX3_doorsOf_20 rfl (sn_reti (pc := 21) (R := fun x τ => (some ((x, τ)))) dX3_doorsOf_21 rfl (fun _ _ _ _ e h => by cases e; exact h))) (sn_aload_n (pc := 8) (i := 0) dX3_doorsOf_8 rfl (sn_gR (r0 := 2) (pc := 9) (h := 1) (f := 7) dX3_doorsOf_9 am_CL_3 sh_1 rfl (Nat.le_of_ble_eq_true rfl) tw_107 (sn_iload_n (pc := 12) (i := 1) dX3_doorsOf_12 rfl (sn_aI (pc := 13) (h := 2) dX3_doorsOf_13 sh_2 (sn_callS (pc := 14) (N := M_JI_bitCount) dX3_doorsOf_14 (cal_JI_bitCount G) tw_902 tw_694 tw_15 tw_695 dsc_J6_bitCount_0f7a4 rfl (sn_goto (pc := 17) (tgt := 21) dX3_doorsOf_17 rfl (sn_reti (pc := 21) (R := fun x τ => (some ((x, τ)))) dX3_doorsOf_21 rfl (fun _ _ _ _ e h => by cases e; exact h))))))))))))) _ _ _ _ _ ((eq_H_doorsOf_1 x1 σ).symm.trans e) hr
noncomputable def cF_H_doorsOf_1 : am_Fn := fun _ args σ K => match args with
  | [.ref q0, .int z1] => match Nat.beq q0 1 with
    | true => (f_H_doorsOf_1 z1 σ).bind (fun p => K (some (.int p.1)) p.2)
    | _ => none
  | _ => none
theorem cal_H_doorsOf_1 (G : am_G) : am_Cal G M_H_doorsOf cF_H_doorsOf_1 := by
  intro ρ args σ K r e
  unfold cF_H_doorsOf_1 at e
  split at e
  · split at e
    · rename_i hq0
      obtain ⟨p, h1, h2⟩ := am_bind_some e
      rw [Nat.eq_of_beq_eq_true hq0]
      exact ⟨some (.int p.1), p.2, am_Met.of rfl (Nat.le_of_ble_eq_true rfl) (s_H_doorsOf_1 G _ σ p _ h1 ⟨rfl, rfl⟩), h2⟩
    · cases e
  · cases e
abbrev M_W_drawBelow : am_MD := (yX10_drawBelow, cX10_drawBelow, 2, (some .int), 0, 0)
theorem dX10_drawBelow_0 : decode cX10_drawBelow 0 = .ok (.iload_n 1, 1) := by decide +kernel
theorem dX10_drawBelow_1 : decode cX10_drawBelow 1 = .ok (.ifCond .le 15, 3) := by decide +kernel
theorem dX10_drawBelow_4 : decode cX10_drawBelow 4 = .ok (.iload_n 0, 1) := by decide +kernel
theorem dX10_drawBelow_5 : decode cX10_drawBelow 5 = .ok (.ldc 151, 2) := by decide +kernel
theorem dX10_drawBelow_7 : decode cX10_drawBelow 7 = .ok (.iand, 1) := by decide +kernel
theorem dX10_drawBelow_8 : decode cX10_drawBelow 8 = .ok (.ldc 152, 2) := by decide +kernel
theorem dX10_drawBelow_10 : decode cX10_drawBelow 10 = .ok (.idiv, 1) := by decide +kernel
theorem dX10_drawBelow_11 : decode cX10_drawBelow 11 = .ok (.iload_n 1, 1) := by decide +kernel
theorem dX10_drawBelow_12 : decode cX10_drawBelow 12 = .ok (.irem, 1) := by decide +kernel
theorem dX10_drawBelow_13 : decode cX10_drawBelow 13 = .ok (.goto 4, 3) := by decide +kernel
theorem dX10_drawBelow_16 : decode cX10_drawBelow 16 = .ok (.iconst 0, 1) := by decide +kernel
theorem dX10_drawBelow_17 : decode cX10_drawBelow 17 = .ok (.ireturn, 1) := by decide +kernel
noncomputable def g_W_drawBelow (x0 : Int32) (x1 : Int32) (σ : am_St) : Option (Int32 × am_St) :=
  if x1 ≤ 0 then
    some ((0, σ))
  else
    if x1 = 0 then none else
      some ((am_rem ((x0 &&& 2147483647) / 65536) x1, σ))
noncomputable def f_W_drawBelow (x0 : Int32) (x1 : Int32) (σ : am_St) : Option (Int32 × am_St) := am_lk (g_W_drawBelow x0 x1 σ)
theorem eq_W_drawBelow (x0 : Int32) (x1 : Int32) (σ : am_St) : f_W_drawBelow x0 x1 σ = g_W_drawBelow x0 x1 σ := am_lk_eq _
set_option maxRecDepth 100000 in
set_option maxHeartbeats 4000000 in
theorem s_W_drawBelow (G : am_G) (x0 : Int32) (x1 : Int32) (σ : am_St) (r : Int32 × am_St) (Q : am_AQ) (e : f_W_drawBelow x0 x1 σ = some r) (hr : am_Pi r Q) : am_AW G M_W_drawBelow 0 [(0, .int x0), (1, .int x1)] [] σ Q :=
  (show am_Snd G M_W_drawBelow 0 am_Pi _ from (sn_iload_n (pc := 0) (i := 1) dX10_drawBelow_0 rfl (sn_if_le (pc := 1) (tgt := 16) dX10_drawBelow_1 rfl (sn_iconst (pc := 16) (v := 0) dX10_drawBelow_16 rfl (sn_reti (pc := 17) (R := fun x τ => (some ((x, τ)))) dX10_drawBelow_17 rfl (fun _ _ _ _ e h => by cases e; exact h))) (sn_iload_n (pc := 4) (i := 0) dX10_drawBelow_4 rfl (sn_ldc (pc := 5) dX10_drawBelow_5 tw_896 (sn_iand (pc := 7) dX10_drawBelow_7 (sn_ldc (pc := 8) dX10_drawBelow_8 tw_897 (sn_idiv (pc := 10) dX10_drawBelow_10 (sn_iload_n (pc := 11) (i := 1) dX10_drawBelow_11 rfl (sn_irem (pc := 12) dX10_drawBelow_12 (sn_goto (pc := 13) (tgt := 17) dX10_drawBelow_13 rfl (sn_reti (pc := 17) (R := fun x τ => (some ((x, τ)))) dX10_drawBelow_17 rfl (fun _ _ _ _ e h => by cases e; exact h))))))))))))) _ _ _ _ _ ((eq_W_drawBelow x0 x1 σ).symm.trans e) hr
noncomputable def cF_W_drawBelow : am_Fn := fun _ args σ K => match args with
  | [.int z0, .int z1] => (f_W_drawBelow z0 z1 σ).bind (fun p => K (some (.int p.1)) p.2)
  | _ => none
theorem cal_W_drawBelow (G : am_G) : am_Cal G M_W_drawBelow cF_W_drawBelow := by
  intro ρ args σ K r e
  unfold cF_W_drawBelow at e
  split at e
  · obtain ⟨p, h1, h2⟩ := am_bind_some e
    exact ⟨some (.int p.1), p.2, am_Met.of rfl (Nat.le_of_ble_eq_true rfl) (s_W_drawBelow G _ _ σ p _ h1 ⟨rfl, rfl⟩), h2⟩
  · cases e
abbrev M_H_roomAfter : am_MD := (yX3_roomAfter, cX3_roomAfter, 5, (some .int), 2, 43)
theorem dX3_roomAfter_0 : decode cX3_roomAfter 0 = .ok (.iload_n 2, 1) := by decide +kernel
theorem dX3_roomAfter_1 : decode cX3_roomAfter 1 = .ok (.istore_n 3, 1) := by decide +kernel
theorem dX3_roomAfter_2 : decode cX3_roomAfter 2 = .ok (.iconst 0, 1) := by decide +kernel
theorem dX3_roomAfter_3 : decode cX3_roomAfter 3 = .ok (.istore 4, 2) := by decide +kernel
theorem dX3_roomAfter_5 : decode cX3_roomAfter 5 = .ok (.iload 4, 2) := by decide +kernel
theorem dX3_roomAfter_7 : decode cX3_roomAfter 7 = .ok (.aload_n 0, 1) := by decide +kernel
theorem dX3_roomAfter_8 : decode cX3_roomAfter 8 = .ok (.getfield 9, 3) := by decide +kernel
theorem dX3_roomAfter_11 : decode cX3_roomAfter 11 = .ok (.if_icmp .ge 35, 3) := by decide +kernel
theorem dX3_roomAfter_14 : decode cX3_roomAfter 14 = .ok (.iload 4, 2) := by decide +kernel
theorem dX3_roomAfter_16 : decode cX3_roomAfter 16 = .ok (.iload_n 1, 1) := by decide +kernel
theorem dX3_roomAfter_17 : decode cX3_roomAfter 17 = .ok (.if_icmp .eq 23, 3) := by decide +kernel
theorem dX3_roomAfter_20 : decode cX3_roomAfter 20 = .ok (.aload_n 0, 1) := by decide +kernel
theorem dX3_roomAfter_21 : decode cX3_roomAfter 21 = .ok (.iload_n 1, 1) := by decide +kernel
theorem dX3_roomAfter_22 : decode cX3_roomAfter 22 = .ok (.iload 4, 2) := by decide +kernel
theorem dX3_roomAfter_24 : decode cX3_roomAfter 24 = .ok (.invokevirtual 106, 3) := by decide +kernel
theorem dX3_roomAfter_27 : decode cX3_roomAfter 27 = .ok (.ifCond .eq 13, 3) := by decide +kernel
theorem dX3_roomAfter_30 : decode cX3_roomAfter 30 = .ok (.iinc 3 (-1), 3) := by decide +kernel
theorem dX3_roomAfter_33 : decode cX3_roomAfter 33 = .ok (.iload_n 3, 1) := by decide +kernel
theorem dX3_roomAfter_34 : decode cX3_roomAfter 34 = .ok (.ifCond .ne 6, 3) := by decide +kernel
theorem dX3_roomAfter_37 : decode cX3_roomAfter 37 = .ok (.iload 4, 2) := by decide +kernel
theorem dX3_roomAfter_39 : decode cX3_roomAfter 39 = .ok (.ireturn, 1) := by decide +kernel
theorem dX3_roomAfter_40 : decode cX3_roomAfter 40 = .ok (.iinc 4 1, 3) := by decide +kernel
theorem dX3_roomAfter_43 : decode cX3_roomAfter 43 = .ok (.goto (-38), 3) := by decide +kernel
theorem dX3_roomAfter_46 : decode cX3_roomAfter 46 = .ok (.iload_n 1, 1) := by decide +kernel
theorem dX3_roomAfter_47 : decode cX3_roomAfter 47 = .ok (.ireturn, 1) := by decide +kernel
abbrev Pl_H_roomAfter_1_5 (G : am_G) : ((Int32 × Int32 × Int32 × am_St) ⊕ (Int32 × am_St)) → am_AQ → Prop := am_PL G M_H_roomAfter 5 (fun s : Int32 × Int32 × Int32 × am_St => [(4, .int s.2.2.1), (3, .int s.2.1), (1, .int s.1), (0, .ref 1)]) (fun s => s.2.2.2) am_Pi
noncomputable def g_H_roomAfter_1_40 (x1 : Int32) (x3 : Int32) (x4 : Int32) (σ : am_St) : Option ((Int32 × Int32 × Int32 × am_St) ⊕ (Int32 × am_St)) :=
  let v1 := x4 + 1
  some (.inl (x1, x3, v1, σ))
noncomputable def f_H_roomAfter_1_40 (x1 : Int32) (x3 : Int32) (x4 : Int32) (σ : am_St) : Option ((Int32 × Int32 × Int32 × am_St) ⊕ (Int32 × am_St)) := am_lk (g_H_roomAfter_1_40 x1 x3 x4 σ)
theorem eq_H_roomAfter_1_40 (x1 : Int32) (x3 : Int32) (x4 : Int32) (σ : am_St) : f_H_roomAfter_1_40 x1 x3 x4 σ = g_H_roomAfter_1_40 x1 x3 x4 σ := am_lk_eq _
set_option maxRecDepth 100000 in
set_option maxHeartbeats 4000000 in
theorem s_H_roomAfter_1_40 (G : am_G) (x1 : Int32) (x3 : Int32) (x4 : Int32) (σ : am_St) (r : (Int32 × Int32 × Int32 × am_St) ⊕ (Int32 × am_St)) (Q : am_AQ) (e : f_H_roomAfter_1_40 x1 x3 x4 σ = some r) (hr : (Pl_H_roomAfter_1_5 G) r Q) : am_AW G M_H_roomAfter 40 [(4, .int x4), (3, .int x3), (1, .int x1), (0, .ref 1)] [] σ Q :=
  (show am_Snd G M_H_roomAfter 40 (Pl_H_roomAfter_1_5 G) _ from (sn_iinc (pc := 40) (v := 1) dX3_roomAfter_40 rfl (Nat.le_of_ble_eq_true rfl) (sn_goto (pc := 43) (tgt := 5) dX3_roomAfter_43 rfl (sn_lf (pc := 5) (ln_a (i := 0) (q := 1) (ln_i (i := 1) (fun z0 => (ln_i (i := 3) (fun z1 => (ln_i (i := 4) (fun z2 => (ln_end (o := fun τ => (some (.inl (z0, z1, z2, τ)) : Option ((Int32 × Int32 × Int32 × am_St) ⊕ (Int32 × am_St)))) (fun _ _ _ e h => by cases e; exact h))))))))))))) _ _ _ _ _ ((eq_H_roomAfter_1_40 x1 x3 x4 σ).symm.trans e) hr
noncomputable def b_H_roomAfter_1_5 (x1 : Int32) (x3 : Int32) (x4 : Int32) (σ : am_St) : Option ((Int32 × Int32 × Int32 × am_St) ⊕ (Int32 × am_St)) :=
  if (σ.1 1 0) ≤ x4 then
    some (.inr ((x1, σ)))
  else
    if x4 = x1 then
      f_H_roomAfter_1_40 x1 x3 x4 σ
    else
      (f_H_isStep_1 x1 x4 σ).bind (fun p1 =>
        if p1.1 = 0 then
          f_H_roomAfter_1_40 x1 x3 x4 p1.2
        else
          let v2 := x3 + (-1)
          if v2 = 0 then
            some (.inr ((x4, p1.2)))
          else
            f_H_roomAfter_1_40 x1 v2 x4 p1.2)
noncomputable def f_H_roomAfter_1_5 (x1 : Int32) (x3 : Int32) (x4 : Int32) (σ : am_St) : Option (Int32 × am_St) := am_lp (fun s : Int32 × Int32 × Int32 × am_St => b_H_roomAfter_1_5 s.1 s.2.1 s.2.2.1 s.2.2.2) (x1, x3, x4, σ)
set_option maxRecDepth 100000 in
set_option maxHeartbeats 4000000 in
theorem sb_H_roomAfter_1_5 (G : am_G) (x1 : Int32) (x3 : Int32) (x4 : Int32) (σ : am_St) (r : (Int32 × Int32 × Int32 × am_St) ⊕ (Int32 × am_St)) (Q : am_AQ) (e : b_H_roomAfter_1_5 x1 x3 x4 σ = some r) (hr : Pl_H_roomAfter_1_5 G r Q) : am_AW G M_H_roomAfter 5 [(4, .int x4), (3, .int x3), (1, .int x1), (0, .ref 1)] [] σ Q :=
  (show am_Snd G M_H_roomAfter 5 (Pl_H_roomAfter_1_5 G) _ from (sn_iload (pc := 5) dX3_roomAfter_5 (sn_aload_n (pc := 7) (i := 0) dX3_roomAfter_7 rfl (sn_gI (pc := 8) (h := 1) (f := 0) dX3_roomAfter_8 am_CL_3 sh_1 rfl (Nat.le_of_ble_eq_true rfl) tw_75 (sn_icmp_ge (pc := 11) (tgt := 46) dX3_roomAfter_11 rfl (sn_iload_n (pc := 46) (i := 1) dX3_roomAfter_46 rfl (sn_reti (pc := 47) (R := fun x τ => (some (.inr ((x, τ))) : Option ((Int32 × Int32 × Int32 × am_St) ⊕ (Int32 × am_St)))) dX3_roomAfter_47 rfl (fun _ _ _ _ e h => by cases e; exact h))) (sn_iload (pc := 14) dX3_roomAfter_14 (sn_iload_n (pc := 16) (i := 1) dX3_roomAfter_16 rfl (sn_icmp_eq (pc := 17) (tgt := 40) dX3_roomAfter_17 rfl (sn_lf (pc := 40) (ln_a (i := 0) (q := 1) (ln_i (i := 1) (fun z0 => (ln_i (i := 3) (fun z1 => (ln_i (i := 4) (fun z2 => (ln_end (o := fun τ => f_H_roomAfter_1_40 z0 z1 z2 τ) (fun _ _ _ e h => s_H_roomAfter_1_40 G z0 z1 z2 _ _ _ e h)))))))))) (sn_aload_n (pc := 20) (i := 0) dX3_roomAfter_20 rfl (sn_iload_n (pc := 21) (i := 1) dX3_roomAfter_21 rfl (sn_iload (pc := 22) dX3_roomAfter_22 (sn_callV (pc := 24) (N := M_H_isStep) dX3_roomAfter_24 (cal_H_isStep_1 G) sh_1 rfl tw_907 tw_389 tw_390 tw_2 tw_391 dsc_X3_isStep rfl (sn_if_eq (pc := 27) (tgt := 40) dX3_roomAfter_27 rfl (sn_lf (pc := 40) (ln_a (i := 0) (q := 1) (ln_i (i := 1) (fun z0 => (ln_i (i := 3) (fun z1 => (ln_i (i := 4) (fun z2 => (ln_end (o := fun τ => f_H_roomAfter_1_40 z0 z1 z2 τ) (fun _ _ _ e h => s_H_roomAfter_1_40 G z0 z1 z2 _ _ _ e h)))))))))) (sn_iinc (pc := 30) (v := (-1)) dX3_roomAfter_30 (show Int32.ofInt (-1) = (-1) by decide) (Nat.le_of_ble_eq_true rfl) (sn_iload_n (pc := 33) (i := 3) dX3_roomAfter_33 rfl (sn_if_ne (pc := 34) (tgt := 40) dX3_roomAfter_34 rfl (sn_lf (pc := 40) (ln_a (i := 0) (q := 1) (ln_i (i := 1) (fun z0 => (ln_i (i := 3) (fun z1 => (ln_i (i := 4) (fun z2 => (ln_end (o := fun τ => f_H_roomAfter_1_40 z0 z1 z2 τ) (fun _ _ _ e h => s_H_roomAfter_1_40 G z0 z1 z2 _ _ _ e h)))))))))) (sn_iload (pc := 37) dX3_roomAfter_37 (sn_reti (pc := 39) (R := fun x τ => (some (.inr ((x, τ))) : Option ((Int32 × Int32 × Int32 × am_St) ⊕ (Int32 × am_St)))) dX3_roomAfter_39 rfl (fun _ _ _ _ e h => by cases e; exact h))))))))))))))))))) _ _ _ _ _ e hr
theorem s_H_roomAfter_1_5 (G : am_G) (x1 : Int32) (x3 : Int32) (x4 : Int32) (σ : am_St) (r : Int32 × am_St) (Q : am_AQ) (e : f_H_roomAfter_1_5 x1 x3 x4 σ = some r) (hr : am_Pi r Q) : am_AW G M_H_roomAfter 5 [(4, .int x4), (3, .int x3), (1, .int x1), (0, .ref 1)] [] σ Q :=
  am_loop (P := am_Pi) (L := fun s : Int32 × Int32 × Int32 × am_St => [(4, .int s.2.2.1), (3, .int s.2.1), (1, .int s.1), (0, .ref 1)]) (g := fun s => s.2.2.2) (fun s o Q e hr => sb_H_roomAfter_1_5 G s.1 s.2.1 s.2.2.1 s.2.2.2 o Q e hr) (x1, x3, x4, σ) r Q e hr
noncomputable def g_H_roomAfter_1 (x1 : Int32) (x2 : Int32) (σ : am_St) : Option (Int32 × am_St) :=
  f_H_roomAfter_1_5 x1 x2 0 σ
noncomputable def f_H_roomAfter_1 (x1 : Int32) (x2 : Int32) (σ : am_St) : Option (Int32 × am_St) := am_lk (g_H_roomAfter_1 x1 x2 σ)
theorem eq_H_roomAfter_1 (x1 : Int32) (x2 : Int32) (σ : am_St) : f_H_roomAfter_1 x1 x2 σ = g_H_roomAfter_1 x1 x2 σ := am_lk_eq _
set_option maxRecDepth 100000 in
set_option maxHeartbeats 4000000 in
theorem s_H_roomAfter_1 (G : am_G) (x1 : Int32) (x2 : Int32) (σ : am_St) (r : Int32 × am_St) (Q : am_AQ) (e : f_H_roomAfter_1 x1 x2 σ = some r) (hr : am_Pi r Q) : am_AW G M_H_roomAfter 0 [(0, .ref 1), (1, .int x1), (2, .int x2)] [] σ Q :=
  (show am_Snd G M_H_roomAfter 0 am_Pi _ from (sn_iload_n (pc := 0) (i := 2) dX3_roomAfter_0 rfl (sn_istore_n (pc := 1) (i := 3) dX3_roomAfter_1 rfl (Nat.le_of_ble_eq_true rfl) (sn_iconst (pc := 2) (v := 0) dX3_roomAfter_2 rfl (sn_istore (pc := 3) dX3_roomAfter_3 (Nat.le_of_ble_eq_true rfl) (sn_lf (pc := 5) (ln_a (i := 0) (q := 1) (ln_i (i := 1) (fun z0 => (ln_i (i := 3) (fun z1 => (ln_i (i := 4) (fun z2 => (ln_end (o := fun τ => f_H_roomAfter_1_5 z0 z1 z2 τ) (fun _ _ _ e h => s_H_roomAfter_1_5 G z0 z1 z2 _ _ _ e h))))))))))))))) _ _ _ _ _ ((eq_H_roomAfter_1 x1 x2 σ).symm.trans e) hr
noncomputable def cF_H_roomAfter_1 : am_Fn := fun _ args σ K => match args with
  | [.ref q0, .int z1, .int z2] => match Nat.beq q0 1 with
    | true => (f_H_roomAfter_1 z1 z2 σ).bind (fun p => K (some (.int p.1)) p.2)
    | _ => none
  | _ => none
theorem cal_H_roomAfter_1 (G : am_G) : am_Cal G M_H_roomAfter cF_H_roomAfter_1 := by
  intro ρ args σ K r e
  unfold cF_H_roomAfter_1 at e
  split at e
  · split at e
    · rename_i hq0
      obtain ⟨p, h1, h2⟩ := am_bind_some e
      rw [Nat.eq_of_beq_eq_true hq0]
      exact ⟨some (.int p.1), p.2, am_Met.of rfl (Nat.le_of_ble_eq_true rfl) (s_H_roomAfter_1 G _ _ σ p _ h1 ⟨rfl, rfl⟩), h2⟩
    · cases e
  · cases e
abbrev M_W_drawn : am_MD := (yX10_drawn, cX10_drawn, 12, (some .int), 3, 67)
theorem dX10_drawn_0 : decode cX10_drawn 0 = .ok (.iload_n 2, 1) := by decide +kernel
theorem dX10_drawn_1 : decode cX10_drawn 1 = .ok (.istore 4, 2) := by decide +kernel
theorem dX10_drawn_3 : decode cX10_drawn 3 = .ok (.iconst 0, 1) := by decide +kernel
theorem dX10_drawn_4 : decode cX10_drawn 4 = .ok (.istore 5, 2) := by decide +kernel
theorem dX10_drawn_6 : decode cX10_drawn 6 = .ok (.iconst 0, 1) := by decide +kernel
theorem dX10_drawn_7 : decode cX10_drawn 7 = .ok (.istore 6, 2) := by decide +kernel
theorem dX10_drawn_9 : decode cX10_drawn 9 = .ok (.iconst 0, 1) := by decide +kernel
theorem dX10_drawn_10 : decode cX10_drawn 10 = .ok (.istore 7, 2) := by decide +kernel
theorem dX10_drawn_12 : decode cX10_drawn 12 = .ok (.iload 7, 2) := by decide +kernel
theorem dX10_drawn_14 : decode cX10_drawn 14 = .ok (.iload_n 1, 1) := by decide +kernel
theorem dX10_drawn_15 : decode cX10_drawn 15 = .ok (.if_icmp .ge 142, 3) := by decide +kernel
theorem dX10_drawn_18 : decode cX10_drawn 18 = .ok (.iconst 0, 1) := by decide +kernel
theorem dX10_drawn_19 : decode cX10_drawn 19 = .ok (.istore 8, 2) := by decide +kernel
theorem dX10_drawn_21 : decode cX10_drawn 21 = .ok (.iconst 0, 1) := by decide +kernel
theorem dX10_drawn_22 : decode cX10_drawn 22 = .ok (.istore 9, 2) := by decide +kernel
theorem dX10_drawn_24 : decode cX10_drawn 24 = .ok (.iload 9, 2) := by decide +kernel
theorem dX10_drawn_26 : decode cX10_drawn 26 = .ok (.aload_n 0, 1) := by decide +kernel
theorem dX10_drawn_27 : decode cX10_drawn 27 = .ok (.getfield 103, 3) := by decide +kernel
theorem dX10_drawn_30 : decode cX10_drawn 30 = .ok (.if_icmp .ge 95, 3) := by decide +kernel
theorem dX10_drawn_33 : decode cX10_drawn 33 = .ok (.iconst 0, 1) := by decide +kernel
theorem dX10_drawn_34 : decode cX10_drawn 34 = .ok (.istore 10, 2) := by decide +kernel
theorem dX10_drawn_36 : decode cX10_drawn 36 = .ok (.iconst 0, 1) := by decide +kernel
theorem dX10_drawn_37 : decode cX10_drawn 37 = .ok (.istore 11, 2) := by decide +kernel
theorem dX10_drawn_39 : decode cX10_drawn 39 = .ok (.iload 11, 2) := by decide +kernel
theorem dX10_drawn_41 : decode cX10_drawn 41 = .ok (.aload_n 0, 1) := by decide +kernel
theorem dX10_drawn_42 : decode cX10_drawn 42 = .ok (.getfield 50, 3) := by decide +kernel
theorem dX10_drawn_45 : decode cX10_drawn 45 = .ok (.if_icmp .ge 74, 3) := by decide +kernel
theorem dX10_drawn_48 : decode cX10_drawn 48 = .ok (.iload 4, 2) := by decide +kernel
theorem dX10_drawn_50 : decode cX10_drawn 50 = .ok (.ldc 133, 2) := by decide +kernel
theorem dX10_drawn_52 : decode cX10_drawn 52 = .ok (.imul, 1) := by decide +kernel
theorem dX10_drawn_53 : decode cX10_drawn 53 = .ok (.sipush 12345, 3) := by decide +kernel
theorem dX10_drawn_56 : decode cX10_drawn 56 = .ok (.iadd, 1) := by decide +kernel
theorem dX10_drawn_57 : decode cX10_drawn 57 = .ok (.istore 4, 2) := by decide +kernel
theorem dX10_drawn_59 : decode cX10_drawn 59 = .ok (.iload 11, 2) := by decide +kernel
theorem dX10_drawn_61 : decode cX10_drawn 61 = .ok (.ifCond .ne 15, 3) := by decide +kernel
theorem dX10_drawn_64 : decode cX10_drawn 64 = .ok (.iload 4, 2) := by decide +kernel
theorem dX10_drawn_66 : decode cX10_drawn 66 = .ok (.aload_n 0, 1) := by decide +kernel
theorem dX10_drawn_67 : decode cX10_drawn 67 = .ok (.getfield 44, 3) := by decide +kernel
theorem dX10_drawn_70 : decode cX10_drawn 70 = .ok (.invokestatic 134, 3) := by decide +kernel
theorem dX10_drawn_73 : decode cX10_drawn 73 = .ok (.goto 22, 3) := by decide +kernel
theorem dX10_drawn_76 : decode cX10_drawn 76 = .ok (.aload_n 0, 1) := by decide +kernel
theorem dX10_drawn_77 : decode cX10_drawn 77 = .ok (.iload 10, 2) := by decide +kernel
theorem dX10_drawn_79 : decode cX10_drawn 79 = .ok (.iload 4, 2) := by decide +kernel
theorem dX10_drawn_81 : decode cX10_drawn 81 = .ok (.aload_n 0, 1) := by decide +kernel
theorem dX10_drawn_82 : decode cX10_drawn 82 = .ok (.iload 10, 2) := by decide +kernel
theorem dX10_drawn_84 : decode cX10_drawn 84 = .ok (.invokevirtual 137, 3) := by decide +kernel
theorem dX10_drawn_87 : decode cX10_drawn 87 = .ok (.iconst 1, 1) := by decide +kernel
theorem dX10_drawn_88 : decode cX10_drawn 88 = .ok (.iadd, 1) := by decide +kernel
theorem dX10_drawn_89 : decode cX10_drawn 89 = .ok (.invokestatic 134, 3) := by decide +kernel
theorem dX10_drawn_92 : decode cX10_drawn 92 = .ok (.invokevirtual 140, 3) := by decide +kernel
theorem dX10_drawn_95 : decode cX10_drawn 95 = .ok (.istore 10, 2) := by decide +kernel
theorem dX10_drawn_97 : decode cX10_drawn 97 = .ok (.iload 8, 2) := by decide +kernel
theorem dX10_drawn_99 : decode cX10_drawn 99 = .ok (.aload_n 0, 1) := by decide +kernel
theorem dX10_drawn_100 : decode cX10_drawn 100 = .ok (.iload 10, 2) := by decide +kernel
theorem dX10_drawn_102 : decode cX10_drawn 102 = .ok (.iload 11, 2) := by decide +kernel
theorem dX10_drawn_104 : decode cX10_drawn 104 = .ok (.invokevirtual 143, 3) := by decide +kernel
theorem dX10_drawn_107 : decode cX10_drawn 107 = .ok (.invokestatic 147, 3) := by decide +kernel
theorem dX10_drawn_110 : decode cX10_drawn 110 = .ok (.iadd, 1) := by decide +kernel
theorem dX10_drawn_111 : decode cX10_drawn 111 = .ok (.istore 8, 2) := by decide +kernel
theorem dX10_drawn_113 : decode cX10_drawn 113 = .ok (.iinc 11 1, 3) := by decide +kernel
theorem dX10_drawn_116 : decode cX10_drawn 116 = .ok (.goto (-77), 3) := by decide +kernel
theorem dX10_drawn_119 : decode cX10_drawn 119 = .ok (.iinc 9 1, 3) := by decide +kernel
theorem dX10_drawn_122 : decode cX10_drawn 122 = .ok (.goto (-98), 3) := by decide +kernel
theorem dX10_drawn_125 : decode cX10_drawn 125 = .ok (.iload 6, 2) := by decide +kernel
theorem dX10_drawn_127 : decode cX10_drawn 127 = .ok (.iload 8, 2) := by decide +kernel
theorem dX10_drawn_129 : decode cX10_drawn 129 = .ok (.iadd, 1) := by decide +kernel
theorem dX10_drawn_130 : decode cX10_drawn 130 = .ok (.istore 6, 2) := by decide +kernel
theorem dX10_drawn_132 : decode cX10_drawn 132 = .ok (.iload 5, 2) := by decide +kernel
theorem dX10_drawn_134 : decode cX10_drawn 134 = .ok (.iload 8, 2) := by decide +kernel
theorem dX10_drawn_136 : decode cX10_drawn 136 = .ok (.iconst 1, 1) := by decide +kernel
theorem dX10_drawn_137 : decode cX10_drawn 137 = .ok (.if_icmp .ne 7, 3) := by decide +kernel
theorem dX10_drawn_140 : decode cX10_drawn 140 = .ok (.iconst 1, 1) := by decide +kernel
theorem dX10_drawn_141 : decode cX10_drawn 141 = .ok (.goto 4, 3) := by decide +kernel
theorem dX10_drawn_144 : decode cX10_drawn 144 = .ok (.iconst 0, 1) := by decide +kernel
theorem dX10_drawn_145 : decode cX10_drawn 145 = .ok (.invokestatic 147, 3) := by decide +kernel
theorem dX10_drawn_148 : decode cX10_drawn 148 = .ok (.iadd, 1) := by decide +kernel
theorem dX10_drawn_149 : decode cX10_drawn 149 = .ok (.istore 5, 2) := by decide +kernel
theorem dX10_drawn_151 : decode cX10_drawn 151 = .ok (.iinc 7 1, 3) := by decide +kernel
theorem dX10_drawn_154 : decode cX10_drawn 154 = .ok (.goto (-142), 3) := by decide +kernel
theorem dX10_drawn_157 : decode cX10_drawn 157 = .ok (.iload_n 3, 1) := by decide +kernel
theorem dX10_drawn_158 : decode cX10_drawn 158 = .ok (.ifCond .ne 8, 3) := by decide +kernel
theorem dX10_drawn_161 : decode cX10_drawn 161 = .ok (.iload 5, 2) := by decide +kernel
theorem dX10_drawn_163 : decode cX10_drawn 163 = .ok (.goto 5, 3) := by decide +kernel
theorem dX10_drawn_166 : decode cX10_drawn 166 = .ok (.iload 6, 2) := by decide +kernel
theorem dX10_drawn_168 : decode cX10_drawn 168 = .ok (.ireturn, 1) := by decide +kernel
abbrev Pl_W_drawn_1_12 (G : am_G) : ((Int32 × Int32 × Int32 × Int32 × Int32 × Int32 × am_St) ⊕ (Int32 × am_St)) → am_AQ → Prop := am_PL G M_W_drawn 12 (fun s : Int32 × Int32 × Int32 × Int32 × Int32 × Int32 × am_St => [(7, .int s.2.2.2.2.2.1), (6, .int s.2.2.2.2.1), (5, .int s.2.2.2.1), (4, .int s.2.2.1), (3, .int s.2.1), (1, .int s.1), (0, .ref 1)]) (fun s => s.2.2.2.2.2.2) am_Pi
abbrev Pl_W_drawn_1_24 (G : am_G) : ((Int32 × Int32 × Int32 × Int32 × Int32 × Int32 × Int32 × Int32 × am_St) ⊕ ((Int32 × Int32 × Int32 × Int32 × Int32 × Int32 × am_St) ⊕ (Int32 × am_St))) → am_AQ → Prop := am_PL G M_W_drawn 24 (fun s : Int32 × Int32 × Int32 × Int32 × Int32 × Int32 × Int32 × Int32 × am_St => [(9, .int s.2.2.2.2.2.2.2.1), (8, .int s.2.2.2.2.2.2.1), (7, .int s.2.2.2.2.2.1), (6, .int s.2.2.2.2.1), (5, .int s.2.2.2.1), (4, .int s.2.2.1), (3, .int s.2.1), (1, .int s.1), (0, .ref 1)]) (fun s => s.2.2.2.2.2.2.2.2) (Pl_W_drawn_1_12 G)
abbrev Pl_W_drawn_1_39 (G : am_G) : ((Int32 × Int32 × Int32 × Int32 × Int32 × Int32 × Int32 × Int32 × Int32 × Int32 × am_St) ⊕ ((Int32 × Int32 × Int32 × Int32 × Int32 × Int32 × Int32 × Int32 × am_St) ⊕ ((Int32 × Int32 × Int32 × Int32 × Int32 × Int32 × am_St) ⊕ (Int32 × am_St)))) → am_AQ → Prop := am_PL G M_W_drawn 39 (fun s : Int32 × Int32 × Int32 × Int32 × Int32 × Int32 × Int32 × Int32 × Int32 × Int32 × am_St => [(11, .int s.2.2.2.2.2.2.2.2.2.1), (10, .int s.2.2.2.2.2.2.2.2.1), (9, .int s.2.2.2.2.2.2.2.1), (8, .int s.2.2.2.2.2.2.1), (7, .int s.2.2.2.2.2.1), (6, .int s.2.2.2.2.1), (5, .int s.2.2.2.1), (4, .int s.2.2.1), (3, .int s.2.1), (1, .int s.1), (0, .ref 1)]) (fun s => s.2.2.2.2.2.2.2.2.2.2) (Pl_W_drawn_1_24 G)
noncomputable def g_W_drawn_1_95 (x1 : Int32) (x3 : Int32) (x4 : Int32) (x5 : Int32) (x6 : Int32) (x7 : Int32) (x8 : Int32) (x9 : Int32) (x11 : Int32) (y0 : Int32) (σ : am_St) : Option ((Int32 × Int32 × Int32 × Int32 × Int32 × Int32 × Int32 × Int32 × Int32 × Int32 × am_St) ⊕ ((Int32 × Int32 × Int32 × Int32 × Int32 × Int32 × Int32 × Int32 × am_St) ⊕ ((Int32 × Int32 × Int32 × Int32 × Int32 × Int32 × am_St) ⊕ (Int32 × am_St)))) :=
  (f_H_isDeed_1 y0 x11 σ).bind (fun p1 =>
    (f_X_bit p1.1 p1.2).bind (fun p2 =>
      let v3 := x8 + p2.1
      let v4 := x11 + 1
      some (.inl (x1, x3, x4, x5, x6, x7, v3, x9, y0, v4, p2.2))))
noncomputable def f_W_drawn_1_95 (x1 : Int32) (x3 : Int32) (x4 : Int32) (x5 : Int32) (x6 : Int32) (x7 : Int32) (x8 : Int32) (x9 : Int32) (x11 : Int32) (y0 : Int32) (σ : am_St) : Option ((Int32 × Int32 × Int32 × Int32 × Int32 × Int32 × Int32 × Int32 × Int32 × Int32 × am_St) ⊕ ((Int32 × Int32 × Int32 × Int32 × Int32 × Int32 × Int32 × Int32 × am_St) ⊕ ((Int32 × Int32 × Int32 × Int32 × Int32 × Int32 × am_St) ⊕ (Int32 × am_St)))) := am_lk (g_W_drawn_1_95 x1 x3 x4 x5 x6 x7 x8 x9 x11 y0 σ)
theorem eq_W_drawn_1_95 (x1 : Int32) (x3 : Int32) (x4 : Int32) (x5 : Int32) (x6 : Int32) (x7 : Int32) (x8 : Int32) (x9 : Int32) (x11 : Int32) (y0 : Int32) (σ : am_St) : f_W_drawn_1_95 x1 x3 x4 x5 x6 x7 x8 x9 x11 y0 σ = g_W_drawn_1_95 x1 x3 x4 x5 x6 x7 x8 x9 x11 y0 σ := am_lk_eq _
set_option maxRecDepth 100000 in
set_option maxHeartbeats 4000000 in
theorem s_W_drawn_1_95 (G : am_G) (x1 : Int32) (x3 : Int32) (x4 : Int32) (x5 : Int32) (x6 : Int32) (x7 : Int32) (x8 : Int32) (x9 : Int32) (x11 : Int32) (y0 : Int32) (σ : am_St) (r : (Int32 × Int32 × Int32 × Int32 × Int32 × Int32 × Int32 × Int32 × Int32 × Int32 × am_St) ⊕ ((Int32 × Int32 × Int32 × Int32 × Int32 × Int32 × Int32 × Int32 × am_St) ⊕ ((Int32 × Int32 × Int32 × Int32 × Int32 × Int32 × am_St) ⊕ (Int32 × am_St)))) (Q : am_AQ) (e : f_W_drawn_1_95 x1 x3 x4 x5 x6 x7 x8 x9 x11 y0 σ = some r) (hr : (Pl_W_drawn_1_39 G) r Q) : am_AW G M_W_drawn 95 [(11, .int x11), (9, .int x9), (8, .int x8), (7, .int x7), (6, .int x6), (5, .int x5), (4, .int x4), (3, .int x3), (1, .int x1), (0, .ref 1)] [.int y0] σ Q :=
  (show am_Snd G M_W_drawn 95 (Pl_W_drawn_1_39 G) _ from (sn_istore (pc := 95) dX10_drawn_95 (Nat.le_of_ble_eq_true rfl) (sn_iload (pc := 97) dX10_drawn_97 (sn_aload_n (pc := 99) (i := 0) dX10_drawn_99 rfl (sn_iload (pc := 100) dX10_drawn_100 (sn_iload (pc := 102) dX10_drawn_102 (sn_callV (pc := 104) (N := M_H_isDeed) dX10_drawn_104 (cal_H_isDeed_1 G) sh_1 rfl tw_908 tw_765 tw_766 tw_2 tw_767 dsc_X3_isDeed rfl (sn_callSN (pc := 107) (N := M_X_bit) (host := "ItWasLikeThat") dX10_drawn_107 (cal_X_bit G) (by decide) tw_412 tw_1 tw_413 dsc_X11_bit rfl (sn_iadd (pc := 110) dX10_drawn_110 (sn_istore (pc := 111) dX10_drawn_111 (Nat.le_of_ble_eq_true rfl) (sn_iinc (pc := 113) (v := 1) dX10_drawn_113 rfl (Nat.le_of_ble_eq_true rfl) (sn_goto (pc := 116) (tgt := 39) dX10_drawn_116 rfl (sn_lf (pc := 39) (ln_a (i := 0) (q := 1) (ln_i (i := 1) (fun z0 => (ln_i (i := 3) (fun z1 => (ln_i (i := 4) (fun z2 => (ln_i (i := 5) (fun z3 => (ln_i (i := 6) (fun z4 => (ln_i (i := 7) (fun z5 => (ln_i (i := 8) (fun z6 => (ln_i (i := 9) (fun z7 => (ln_i (i := 10) (fun z8 => (ln_i (i := 11) (fun z9 => (ln_end (o := fun τ => (some (.inl (z0, z1, z2, z3, z4, z5, z6, z7, z8, z9, τ)) : Option ((Int32 × Int32 × Int32 × Int32 × Int32 × Int32 × Int32 × Int32 × Int32 × Int32 × am_St) ⊕ ((Int32 × Int32 × Int32 × Int32 × Int32 × Int32 × Int32 × Int32 × am_St) ⊕ ((Int32 × Int32 × Int32 × Int32 × Int32 × Int32 × am_St) ⊕ (Int32 × am_St)))))) (fun _ _ _ e h => by cases e; exact h)))))))))))))))))))))))))))))))))))) _ _ _ _ _ ((eq_W_drawn_1_95 x1 x3 x4 x5 x6 x7 x8 x9 x11 y0 σ).symm.trans e) hr
noncomputable def b_W_drawn_1_39 (x1 : Int32) (x3 : Int32) (x4 : Int32) (x5 : Int32) (x6 : Int32) (x7 : Int32) (x8 : Int32) (x9 : Int32) (x10 : Int32) (x11 : Int32) (σ : am_St) : Option ((Int32 × Int32 × Int32 × Int32 × Int32 × Int32 × Int32 × Int32 × Int32 × Int32 × am_St) ⊕ ((Int32 × Int32 × Int32 × Int32 × Int32 × Int32 × Int32 × Int32 × am_St) ⊕ ((Int32 × Int32 × Int32 × Int32 × Int32 × Int32 × am_St) ⊕ (Int32 × am_St)))) :=
  if (σ.1 1 1) ≤ x11 then
    let v1 := x9 + 1
    some (.inr (.inl (x1, x3, x4, x5, x6, x7, x8, v1, σ)))
  else
    let v2 := (x4 * 1103515245) + 12345
    if x11 = 0 then
      (f_W_drawBelow v2 (σ.1 1 0) σ).bind (fun p6 =>
        f_W_drawn_1_95 x1 x3 v2 x5 x6 x7 x8 x9 x11 p6.1 p6.2)
    else
      (f_H_doorsOf_1 x10 σ).bind (fun p3 =>
        (f_W_drawBelow v2 (p3.1 + 1) p3.2).bind (fun p4 =>
          (f_H_roomAfter_1 x10 p4.1 p4.2).bind (fun p5 =>
            f_W_drawn_1_95 x1 x3 v2 x5 x6 x7 x8 x9 x11 p5.1 p5.2)))
noncomputable def f_W_drawn_1_39 (x1 : Int32) (x3 : Int32) (x4 : Int32) (x5 : Int32) (x6 : Int32) (x7 : Int32) (x8 : Int32) (x9 : Int32) (x10 : Int32) (x11 : Int32) (σ : am_St) : Option ((Int32 × Int32 × Int32 × Int32 × Int32 × Int32 × Int32 × Int32 × am_St) ⊕ ((Int32 × Int32 × Int32 × Int32 × Int32 × Int32 × am_St) ⊕ (Int32 × am_St))) := am_lp (fun s : Int32 × Int32 × Int32 × Int32 × Int32 × Int32 × Int32 × Int32 × Int32 × Int32 × am_St => b_W_drawn_1_39 s.1 s.2.1 s.2.2.1 s.2.2.2.1 s.2.2.2.2.1 s.2.2.2.2.2.1 s.2.2.2.2.2.2.1 s.2.2.2.2.2.2.2.1 s.2.2.2.2.2.2.2.2.1 s.2.2.2.2.2.2.2.2.2.1 s.2.2.2.2.2.2.2.2.2.2) (x1, x3, x4, x5, x6, x7, x8, x9, x10, x11, σ)
set_option maxRecDepth 100000 in
set_option maxHeartbeats 4000000 in
theorem sb_W_drawn_1_39 (G : am_G) (x1 : Int32) (x3 : Int32) (x4 : Int32) (x5 : Int32) (x6 : Int32) (x7 : Int32) (x8 : Int32) (x9 : Int32) (x10 : Int32) (x11 : Int32) (σ : am_St) (r : (Int32 × Int32 × Int32 × Int32 × Int32 × Int32 × Int32 × Int32 × Int32 × Int32 × am_St) ⊕ ((Int32 × Int32 × Int32 × Int32 × Int32 × Int32 × Int32 × Int32 × am_St) ⊕ ((Int32 × Int32 × Int32 × Int32 × Int32 × Int32 × am_St) ⊕ (Int32 × am_St)))) (Q : am_AQ) (e : b_W_drawn_1_39 x1 x3 x4 x5 x6 x7 x8 x9 x10 x11 σ = some r) (hr : Pl_W_drawn_1_39 G r Q) : am_AW G M_W_drawn 39 [(11, .int x11), (10, .int x10), (9, .int x9), (8, .int x8), (7, .int x7), (6, .int x6), (5, .int x5), (4, .int x4), (3, .int x3), (1, .int x1), (0, .ref 1)] [] σ Q :=
  (show am_Snd G M_W_drawn 39 (Pl_W_drawn_1_39 G) _ from (sn_iload (pc := 39) dX10_drawn_39 (sn_aload_n (pc := 41) (i := 0) dX10_drawn_41 rfl (sn_gI (pc := 42) (h := 1) (f := 1) dX10_drawn_42 am_CL_3 sh_1 rfl (Nat.le_of_ble_eq_true rfl) tw_80 (sn_icmp_ge (pc := 45) (tgt := 119) dX10_drawn_45 rfl (sn_iinc (pc := 119) (v := 1) dX10_drawn_119 rfl (Nat.le_of_ble_eq_true rfl) (sn_goto (pc := 122) (tgt := 24) dX10_drawn_122 rfl (sn_lf (pc := 24) (ln_a (i := 0) (q := 1) (ln_i (i := 1) (fun z0 => (ln_i (i := 3) (fun z1 => (ln_i (i := 4) (fun z2 => (ln_i (i := 5) (fun z3 => (ln_i (i := 6) (fun z4 => (ln_i (i := 7) (fun z5 => (ln_i (i := 8) (fun z6 => (ln_i (i := 9) (fun z7 => (ln_end (o := fun τ => (some (.inr (.inl (z0, z1, z2, z3, z4, z5, z6, z7, τ))) : Option ((Int32 × Int32 × Int32 × Int32 × Int32 × Int32 × Int32 × Int32 × Int32 × Int32 × am_St) ⊕ ((Int32 × Int32 × Int32 × Int32 × Int32 × Int32 × Int32 × Int32 × am_St) ⊕ ((Int32 × Int32 × Int32 × Int32 × Int32 × Int32 × am_St) ⊕ (Int32 × am_St)))))) (fun _ _ _ e h => by cases e; exact h)))))))))))))))))))))) (sn_iload (pc := 48) dX10_drawn_48 (sn_ldc (pc := 50) dX10_drawn_50 tw_892 (sn_imul (pc := 52) dX10_drawn_52 (sn_sipush (pc := 53) (v := 12345) dX10_drawn_53 rfl (sn_iadd (pc := 56) dX10_drawn_56 (sn_istore (pc := 57) dX10_drawn_57 (Nat.le_of_ble_eq_true rfl) (sn_iload (pc := 59) dX10_drawn_59 (sn_if_ne (pc := 61) (tgt := 76) dX10_drawn_61 rfl (sn_aload_n (pc := 76) (i := 0) dX10_drawn_76 rfl (sn_iload (pc := 77) dX10_drawn_77 (sn_iload (pc := 79) dX10_drawn_79 (sn_aload_n (pc := 81) (i := 0) dX10_drawn_81 rfl (sn_iload (pc := 82) dX10_drawn_82 (sn_callV (pc := 84) (N := M_H_doorsOf) dX10_drawn_84 (cal_H_doorsOf_1 G) sh_1 rfl tw_898 tw_899 tw_900 tw_2 tw_901 dsc_X3_doorsOf rfl (sn_iconst (pc := 87) (v := 1) dX10_drawn_87 rfl (sn_iadd (pc := 88) dX10_drawn_88 (sn_callS (pc := 89) (N := M_W_drawBelow) dX10_drawn_89 (cal_W_drawBelow G) tw_893 tw_894 tw_10 tw_895 dsc_X10_drawBelow rfl (sn_callV (pc := 92) (N := M_H_roomAfter) dX10_drawn_92 (cal_H_roomAfter_1 G) sh_1 rfl tw_903 tw_904 tw_905 tw_2 tw_906 dsc_X3_roomAfter rfl (sn_lf (pc := 95) (ln_a (i := 0) (q := 1) (ln_i (i := 1) (fun z0 => (ln_i (i := 3) (fun z1 => (ln_i (i := 4) (fun z2 => (ln_i (i := 5) (fun z3 => (ln_i (i := 6) (fun z4 => (ln_i (i := 7) (fun z5 => (ln_i (i := 8) (fun z6 => (ln_i (i := 9) (fun z7 => (ln_i (i := 11) (fun z8 => (ln_si (fun w0 => (ln_end (o := fun τ => f_W_drawn_1_95 z0 z1 z2 z3 z4 z5 z6 z7 z8 w0 τ) (fun _ _ _ e h => s_W_drawn_1_95 G z0 z1 z2 z3 z4 z5 z6 z7 z8 w0 _ _ _ e h)))))))))))))))))))))))))))))))))) (sn_iload (pc := 64) dX10_drawn_64 (sn_aload_n (pc := 66) (i := 0) dX10_drawn_66 rfl (sn_gI (pc := 67) (h := 1) (f := 0) dX10_drawn_67 am_CL_3 sh_1 rfl (Nat.le_of_ble_eq_true rfl) tw_76 (sn_callS (pc := 70) (N := M_W_drawBelow) dX10_drawn_70 (cal_W_drawBelow G) tw_893 tw_894 tw_10 tw_895 dsc_X10_drawBelow rfl (sn_goto (pc := 73) (tgt := 95) dX10_drawn_73 rfl (sn_lf (pc := 95) (ln_a (i := 0) (q := 1) (ln_i (i := 1) (fun z0 => (ln_i (i := 3) (fun z1 => (ln_i (i := 4) (fun z2 => (ln_i (i := 5) (fun z3 => (ln_i (i := 6) (fun z4 => (ln_i (i := 7) (fun z5 => (ln_i (i := 8) (fun z6 => (ln_i (i := 9) (fun z7 => (ln_i (i := 11) (fun z8 => (ln_si (fun w0 => (ln_end (o := fun τ => f_W_drawn_1_95 z0 z1 z2 z3 z4 z5 z6 z7 z8 w0 τ) (fun _ _ _ e h => s_W_drawn_1_95 G z0 z1 z2 z3 z4 z5 z6 z7 z8 w0 _ _ _ e h)))))))))))))))))))))))))))))))))))))))))) _ _ _ _ _ e hr
theorem s_W_drawn_1_39 (G : am_G) (x1 : Int32) (x3 : Int32) (x4 : Int32) (x5 : Int32) (x6 : Int32) (x7 : Int32) (x8 : Int32) (x9 : Int32) (x10 : Int32) (x11 : Int32) (σ : am_St) (r : (Int32 × Int32 × Int32 × Int32 × Int32 × Int32 × Int32 × Int32 × am_St) ⊕ ((Int32 × Int32 × Int32 × Int32 × Int32 × Int32 × am_St) ⊕ (Int32 × am_St))) (Q : am_AQ) (e : f_W_drawn_1_39 x1 x3 x4 x5 x6 x7 x8 x9 x10 x11 σ = some r) (hr : (Pl_W_drawn_1_24 G) r Q) : am_AW G M_W_drawn 39 [(11, .int x11), (10, .int x10), (9, .int x9), (8, .int x8), (7, .int x7), (6, .int x6), (5, .int x5), (4, .int x4), (3, .int x3), (1, .int x1), (0, .ref 1)] [] σ Q :=
  am_loop (P := (Pl_W_drawn_1_24 G)) (L := fun s : Int32 × Int32 × Int32 × Int32 × Int32 × Int32 × Int32 × Int32 × Int32 × Int32 × am_St => [(11, .int s.2.2.2.2.2.2.2.2.2.1), (10, .int s.2.2.2.2.2.2.2.2.1), (9, .int s.2.2.2.2.2.2.2.1), (8, .int s.2.2.2.2.2.2.1), (7, .int s.2.2.2.2.2.1), (6, .int s.2.2.2.2.1), (5, .int s.2.2.2.1), (4, .int s.2.2.1), (3, .int s.2.1), (1, .int s.1), (0, .ref 1)]) (g := fun s => s.2.2.2.2.2.2.2.2.2.2) (fun s o Q e hr => sb_W_drawn_1_39 G s.1 s.2.1 s.2.2.1 s.2.2.2.1 s.2.2.2.2.1 s.2.2.2.2.2.1 s.2.2.2.2.2.2.1 s.2.2.2.2.2.2.2.1 s.2.2.2.2.2.2.2.2.1 s.2.2.2.2.2.2.2.2.2.1 s.2.2.2.2.2.2.2.2.2.2 o Q e hr) (x1, x3, x4, x5, x6, x7, x8, x9, x10, x11, σ) r Q e hr
noncomputable def g_W_drawn_1_145 (x1 : Int32) (x3 : Int32) (x4 : Int32) (x6 : Int32) (x7 : Int32) (y0 : Int32) (y1 : Int32) (σ : am_St) : Option ((Int32 × Int32 × Int32 × Int32 × Int32 × Int32 × am_St) ⊕ (Int32 × am_St)) :=
  (f_X_bit y1 σ).bind (fun p1 =>
    let v2 := y0 + p1.1
    let v3 := x7 + 1
    some (.inl (x1, x3, x4, v2, x6, v3, p1.2)))
noncomputable def f_W_drawn_1_145 (x1 : Int32) (x3 : Int32) (x4 : Int32) (x6 : Int32) (x7 : Int32) (y0 : Int32) (y1 : Int32) (σ : am_St) : Option ((Int32 × Int32 × Int32 × Int32 × Int32 × Int32 × am_St) ⊕ (Int32 × am_St)) := am_lk (g_W_drawn_1_145 x1 x3 x4 x6 x7 y0 y1 σ)
theorem eq_W_drawn_1_145 (x1 : Int32) (x3 : Int32) (x4 : Int32) (x6 : Int32) (x7 : Int32) (y0 : Int32) (y1 : Int32) (σ : am_St) : f_W_drawn_1_145 x1 x3 x4 x6 x7 y0 y1 σ = g_W_drawn_1_145 x1 x3 x4 x6 x7 y0 y1 σ := am_lk_eq _
set_option maxRecDepth 100000 in
set_option maxHeartbeats 4000000 in
theorem s_W_drawn_1_145 (G : am_G) (x1 : Int32) (x3 : Int32) (x4 : Int32) (x6 : Int32) (x7 : Int32) (y0 : Int32) (y1 : Int32) (σ : am_St) (r : (Int32 × Int32 × Int32 × Int32 × Int32 × Int32 × am_St) ⊕ (Int32 × am_St)) (Q : am_AQ) (e : f_W_drawn_1_145 x1 x3 x4 x6 x7 y0 y1 σ = some r) (hr : (Pl_W_drawn_1_12 G) r Q) : am_AW G M_W_drawn 145 [(7, .int x7), (6, .int x6), (4, .int x4), (3, .int x3), (1, .int x1), (0, .ref 1)] [.int y1, .int y0] σ Q :=
  (show am_Snd G M_W_drawn 145 (Pl_W_drawn_1_12 G) _ from (sn_callSN (pc := 145) (N := M_X_bit) (host := "ItWasLikeThat") dX10_drawn_145 (cal_X_bit G) (by decide) tw_412 tw_1 tw_413 dsc_X11_bit rfl (sn_iadd (pc := 148) dX10_drawn_148 (sn_istore (pc := 149) dX10_drawn_149 (Nat.le_of_ble_eq_true rfl) (sn_iinc (pc := 151) (v := 1) dX10_drawn_151 rfl (Nat.le_of_ble_eq_true rfl) (sn_goto (pc := 154) (tgt := 12) dX10_drawn_154 rfl (sn_lf (pc := 12) (ln_a (i := 0) (q := 1) (ln_i (i := 1) (fun z0 => (ln_i (i := 3) (fun z1 => (ln_i (i := 4) (fun z2 => (ln_i (i := 5) (fun z3 => (ln_i (i := 6) (fun z4 => (ln_i (i := 7) (fun z5 => (ln_end (o := fun τ => (some (.inl (z0, z1, z2, z3, z4, z5, τ)) : Option ((Int32 × Int32 × Int32 × Int32 × Int32 × Int32 × am_St) ⊕ (Int32 × am_St)))) (fun _ _ _ e h => by cases e; exact h)))))))))))))))))))))) _ _ _ _ _ ((eq_W_drawn_1_145 x1 x3 x4 x6 x7 y0 y1 σ).symm.trans e) hr
noncomputable def b_W_drawn_1_24 (x1 : Int32) (x3 : Int32) (x4 : Int32) (x5 : Int32) (x6 : Int32) (x7 : Int32) (x8 : Int32) (x9 : Int32) (σ : am_St) : Option ((Int32 × Int32 × Int32 × Int32 × Int32 × Int32 × Int32 × Int32 × am_St) ⊕ ((Int32 × Int32 × Int32 × Int32 × Int32 × Int32 × am_St) ⊕ (Int32 × am_St))) :=
  if (σ.1 1 2) ≤ x9 then
    let v1 := x6 + x8
    if x8 = 1 then
      (f_W_drawn_1_145 x1 x3 x4 v1 x7 x5 1 σ).map (fun r => .inr r)
    else
      (f_W_drawn_1_145 x1 x3 x4 v1 x7 x5 0 σ).map (fun r => .inr r)
  else
    f_W_drawn_1_39 x1 x3 x4 x5 x6 x7 x8 x9 0 0 σ
noncomputable def f_W_drawn_1_24 (x1 : Int32) (x3 : Int32) (x4 : Int32) (x5 : Int32) (x6 : Int32) (x7 : Int32) (x8 : Int32) (x9 : Int32) (σ : am_St) : Option ((Int32 × Int32 × Int32 × Int32 × Int32 × Int32 × am_St) ⊕ (Int32 × am_St)) := am_lp (fun s : Int32 × Int32 × Int32 × Int32 × Int32 × Int32 × Int32 × Int32 × am_St => b_W_drawn_1_24 s.1 s.2.1 s.2.2.1 s.2.2.2.1 s.2.2.2.2.1 s.2.2.2.2.2.1 s.2.2.2.2.2.2.1 s.2.2.2.2.2.2.2.1 s.2.2.2.2.2.2.2.2) (x1, x3, x4, x5, x6, x7, x8, x9, σ)
set_option maxRecDepth 100000 in
set_option maxHeartbeats 4000000 in
theorem sb_W_drawn_1_24 (G : am_G) (x1 : Int32) (x3 : Int32) (x4 : Int32) (x5 : Int32) (x6 : Int32) (x7 : Int32) (x8 : Int32) (x9 : Int32) (σ : am_St) (r : (Int32 × Int32 × Int32 × Int32 × Int32 × Int32 × Int32 × Int32 × am_St) ⊕ ((Int32 × Int32 × Int32 × Int32 × Int32 × Int32 × am_St) ⊕ (Int32 × am_St))) (Q : am_AQ) (e : b_W_drawn_1_24 x1 x3 x4 x5 x6 x7 x8 x9 σ = some r) (hr : Pl_W_drawn_1_24 G r Q) : am_AW G M_W_drawn 24 [(9, .int x9), (8, .int x8), (7, .int x7), (6, .int x6), (5, .int x5), (4, .int x4), (3, .int x3), (1, .int x1), (0, .ref 1)] [] σ Q :=
  (show am_Snd G M_W_drawn 24 (Pl_W_drawn_1_24 G) _ from (sn_iload (pc := 24) dX10_drawn_24 (sn_aload_n (pc := 26) (i := 0) dX10_drawn_26 rfl (sn_gI (pc := 27) (h := 1) (f := 2) dX10_drawn_27 am_CL_3 sh_1 rfl (Nat.le_of_ble_eq_true rfl) tw_86 (sn_icmp_ge (pc := 30) (tgt := 125) dX10_drawn_30 rfl (sn_iload (pc := 125) dX10_drawn_125 (sn_iload (pc := 127) dX10_drawn_127 (sn_iadd (pc := 129) dX10_drawn_129 (sn_istore (pc := 130) dX10_drawn_130 (Nat.le_of_ble_eq_true rfl) (sn_iload (pc := 132) dX10_drawn_132 (sn_iload (pc := 134) dX10_drawn_134 (sn_iconst (pc := 136) (v := 1) dX10_drawn_136 rfl (sn_icmp_ne (pc := 137) (tgt := 144) dX10_drawn_137 rfl (sn_iconst (pc := 144) (v := 0) dX10_drawn_144 rfl (sn_lf (pc := 145) (ln_a (i := 0) (q := 1) (ln_i (i := 1) (fun z0 => (ln_i (i := 3) (fun z1 => (ln_i (i := 4) (fun z2 => (ln_i (i := 6) (fun z3 => (ln_i (i := 7) (fun z4 => (ln_si (fun w1 => (ln_si (fun w0 => (ln_end (o := fun τ => ((f_W_drawn_1_145 z0 z1 z2 z3 z4 w0 w1 τ).map (fun r => .inr r) : Option ((Int32 × Int32 × Int32 × Int32 × Int32 × Int32 × Int32 × Int32 × am_St) ⊕ ((Int32 × Int32 × Int32 × Int32 × Int32 × Int32 × am_St) ⊕ (Int32 × am_St))))) (fun _ _ _ e h => by obtain ⟨r9, e9, rfl⟩ := am_map_some e; exact s_W_drawn_1_145 G z0 z1 z2 z3 z4 w0 w1 _ _ _ e9 h))))))))))))))))))) (sn_iconst (pc := 140) (v := 1) dX10_drawn_140 rfl (sn_goto (pc := 141) (tgt := 145) dX10_drawn_141 rfl (sn_lf (pc := 145) (ln_a (i := 0) (q := 1) (ln_i (i := 1) (fun z0 => (ln_i (i := 3) (fun z1 => (ln_i (i := 4) (fun z2 => (ln_i (i := 6) (fun z3 => (ln_i (i := 7) (fun z4 => (ln_si (fun w1 => (ln_si (fun w0 => (ln_end (o := fun τ => ((f_W_drawn_1_145 z0 z1 z2 z3 z4 w0 w1 τ).map (fun r => .inr r) : Option ((Int32 × Int32 × Int32 × Int32 × Int32 × Int32 × Int32 × Int32 × am_St) ⊕ ((Int32 × Int32 × Int32 × Int32 × Int32 × Int32 × am_St) ⊕ (Int32 × am_St))))) (fun _ _ _ e h => by obtain ⟨r9, e9, rfl⟩ := am_map_some e; exact s_W_drawn_1_145 G z0 z1 z2 z3 z4 w0 w1 _ _ _ e9 h)))))))))))))))))))))))))))) (sn_iconst (pc := 33) (v := 0) dX10_drawn_33 rfl (sn_istore (pc := 34) dX10_drawn_34 (Nat.le_of_ble_eq_true rfl) (sn_iconst (pc := 36) (v := 0) dX10_drawn_36 rfl (sn_istore (pc := 37) dX10_drawn_37 (Nat.le_of_ble_eq_true rfl) (sn_lf (pc := 39) (ln_a (i := 0) (q := 1) (ln_i (i := 1) (fun z0 => (ln_i (i := 3) (fun z1 => (ln_i (i := 4) (fun z2 => (ln_i (i := 5) (fun z3 => (ln_i (i := 6) (fun z4 => (ln_i (i := 7) (fun z5 => (ln_i (i := 8) (fun z6 => (ln_i (i := 9) (fun z7 => (ln_i (i := 10) (fun z8 => (ln_i (i := 11) (fun z9 => (ln_end (o := fun τ => f_W_drawn_1_39 z0 z1 z2 z3 z4 z5 z6 z7 z8 z9 τ) (fun _ _ _ e h => s_W_drawn_1_39 G z0 z1 z2 z3 z4 z5 z6 z7 z8 z9 _ _ _ e h))))))))))))))))))))))))))))))))) _ _ _ _ _ e hr
theorem s_W_drawn_1_24 (G : am_G) (x1 : Int32) (x3 : Int32) (x4 : Int32) (x5 : Int32) (x6 : Int32) (x7 : Int32) (x8 : Int32) (x9 : Int32) (σ : am_St) (r : (Int32 × Int32 × Int32 × Int32 × Int32 × Int32 × am_St) ⊕ (Int32 × am_St)) (Q : am_AQ) (e : f_W_drawn_1_24 x1 x3 x4 x5 x6 x7 x8 x9 σ = some r) (hr : (Pl_W_drawn_1_12 G) r Q) : am_AW G M_W_drawn 24 [(9, .int x9), (8, .int x8), (7, .int x7), (6, .int x6), (5, .int x5), (4, .int x4), (3, .int x3), (1, .int x1), (0, .ref 1)] [] σ Q :=
  am_loop (P := (Pl_W_drawn_1_12 G)) (L := fun s : Int32 × Int32 × Int32 × Int32 × Int32 × Int32 × Int32 × Int32 × am_St => [(9, .int s.2.2.2.2.2.2.2.1), (8, .int s.2.2.2.2.2.2.1), (7, .int s.2.2.2.2.2.1), (6, .int s.2.2.2.2.1), (5, .int s.2.2.2.1), (4, .int s.2.2.1), (3, .int s.2.1), (1, .int s.1), (0, .ref 1)]) (g := fun s => s.2.2.2.2.2.2.2.2) (fun s o Q e hr => sb_W_drawn_1_24 G s.1 s.2.1 s.2.2.1 s.2.2.2.1 s.2.2.2.2.1 s.2.2.2.2.2.1 s.2.2.2.2.2.2.1 s.2.2.2.2.2.2.2.1 s.2.2.2.2.2.2.2.2 o Q e hr) (x1, x3, x4, x5, x6, x7, x8, x9, σ) r Q e hr
noncomputable def b_W_drawn_1_12 (x1 : Int32) (x3 : Int32) (x4 : Int32) (x5 : Int32) (x6 : Int32) (x7 : Int32) (σ : am_St) : Option ((Int32 × Int32 × Int32 × Int32 × Int32 × Int32 × am_St) ⊕ (Int32 × am_St)) :=
  if x1 ≤ x7 then
    if x3 = 0 then
      some (.inr ((x5, σ)))
    else
      some (.inr ((x6, σ)))
  else
    f_W_drawn_1_24 x1 x3 x4 x5 x6 x7 0 0 σ
noncomputable def f_W_drawn_1_12 (x1 : Int32) (x3 : Int32) (x4 : Int32) (x5 : Int32) (x6 : Int32) (x7 : Int32) (σ : am_St) : Option (Int32 × am_St) := am_lp (fun s : Int32 × Int32 × Int32 × Int32 × Int32 × Int32 × am_St => b_W_drawn_1_12 s.1 s.2.1 s.2.2.1 s.2.2.2.1 s.2.2.2.2.1 s.2.2.2.2.2.1 s.2.2.2.2.2.2) (x1, x3, x4, x5, x6, x7, σ)
set_option maxRecDepth 100000 in
set_option maxHeartbeats 4000000 in
theorem sb_W_drawn_1_12 (G : am_G) (x1 : Int32) (x3 : Int32) (x4 : Int32) (x5 : Int32) (x6 : Int32) (x7 : Int32) (σ : am_St) (r : (Int32 × Int32 × Int32 × Int32 × Int32 × Int32 × am_St) ⊕ (Int32 × am_St)) (Q : am_AQ) (e : b_W_drawn_1_12 x1 x3 x4 x5 x6 x7 σ = some r) (hr : Pl_W_drawn_1_12 G r Q) : am_AW G M_W_drawn 12 [(7, .int x7), (6, .int x6), (5, .int x5), (4, .int x4), (3, .int x3), (1, .int x1), (0, .ref 1)] [] σ Q :=
  (show am_Snd G M_W_drawn 12 (Pl_W_drawn_1_12 G) _ from (sn_iload (pc := 12) dX10_drawn_12 (sn_iload_n (pc := 14) (i := 1) dX10_drawn_14 rfl (sn_icmp_ge (pc := 15) (tgt := 157) dX10_drawn_15 rfl (sn_iload_n (pc := 157) (i := 3) dX10_drawn_157 rfl (sn_if_ne (pc := 158) (tgt := 166) dX10_drawn_158 rfl (sn_iload (pc := 166) dX10_drawn_166 (sn_reti (pc := 168) (R := fun x τ => (some (.inr ((x, τ))) : Option ((Int32 × Int32 × Int32 × Int32 × Int32 × Int32 × am_St) ⊕ (Int32 × am_St)))) dX10_drawn_168 rfl (fun _ _ _ _ e h => by cases e; exact h))) (sn_iload (pc := 161) dX10_drawn_161 (sn_goto (pc := 163) (tgt := 168) dX10_drawn_163 rfl (sn_reti (pc := 168) (R := fun x τ => (some (.inr ((x, τ))) : Option ((Int32 × Int32 × Int32 × Int32 × Int32 × Int32 × am_St) ⊕ (Int32 × am_St)))) dX10_drawn_168 rfl (fun _ _ _ _ e h => by cases e; exact h)))))) (sn_iconst (pc := 18) (v := 0) dX10_drawn_18 rfl (sn_istore (pc := 19) dX10_drawn_19 (Nat.le_of_ble_eq_true rfl) (sn_iconst (pc := 21) (v := 0) dX10_drawn_21 rfl (sn_istore (pc := 22) dX10_drawn_22 (Nat.le_of_ble_eq_true rfl) (sn_lf (pc := 24) (ln_a (i := 0) (q := 1) (ln_i (i := 1) (fun z0 => (ln_i (i := 3) (fun z1 => (ln_i (i := 4) (fun z2 => (ln_i (i := 5) (fun z3 => (ln_i (i := 6) (fun z4 => (ln_i (i := 7) (fun z5 => (ln_i (i := 8) (fun z6 => (ln_i (i := 9) (fun z7 => (ln_end (o := fun τ => f_W_drawn_1_24 z0 z1 z2 z3 z4 z5 z6 z7 τ) (fun _ _ _ e h => s_W_drawn_1_24 G z0 z1 z2 z3 z4 z5 z6 z7 _ _ _ e h)))))))))))))))))))))))))))) _ _ _ _ _ e hr
theorem s_W_drawn_1_12 (G : am_G) (x1 : Int32) (x3 : Int32) (x4 : Int32) (x5 : Int32) (x6 : Int32) (x7 : Int32) (σ : am_St) (r : Int32 × am_St) (Q : am_AQ) (e : f_W_drawn_1_12 x1 x3 x4 x5 x6 x7 σ = some r) (hr : am_Pi r Q) : am_AW G M_W_drawn 12 [(7, .int x7), (6, .int x6), (5, .int x5), (4, .int x4), (3, .int x3), (1, .int x1), (0, .ref 1)] [] σ Q :=
  am_loop (P := am_Pi) (L := fun s : Int32 × Int32 × Int32 × Int32 × Int32 × Int32 × am_St => [(7, .int s.2.2.2.2.2.1), (6, .int s.2.2.2.2.1), (5, .int s.2.2.2.1), (4, .int s.2.2.1), (3, .int s.2.1), (1, .int s.1), (0, .ref 1)]) (g := fun s => s.2.2.2.2.2.2) (fun s o Q e hr => sb_W_drawn_1_12 G s.1 s.2.1 s.2.2.1 s.2.2.2.1 s.2.2.2.2.1 s.2.2.2.2.2.1 s.2.2.2.2.2.2 o Q e hr) (x1, x3, x4, x5, x6, x7, σ) r Q e hr
noncomputable def g_W_drawn_1 (x1 : Int32) (x2 : Int32) (x3 : Int32) (σ : am_St) : Option (Int32 × am_St) :=
  f_W_drawn_1_12 x1 x3 x2 0 0 0 σ
noncomputable def f_W_drawn_1 (x1 : Int32) (x2 : Int32) (x3 : Int32) (σ : am_St) : Option (Int32 × am_St) := am_lk (g_W_drawn_1 x1 x2 x3 σ)
theorem eq_W_drawn_1 (x1 : Int32) (x2 : Int32) (x3 : Int32) (σ : am_St) : f_W_drawn_1 x1 x2 x3 σ = g_W_drawn_1 x1 x2 x3 σ := am_lk_eq _
set_option maxRecDepth 100000 in
set_option maxHeartbeats 4000000 in
theorem s_W_drawn_1 (G : am_G) (x1 : Int32) (x2 : Int32) (x3 : Int32) (σ : am_St) (r : Int32 × am_St) (Q : am_AQ) (e : f_W_drawn_1 x1 x2 x3 σ = some r) (hr : am_Pi r Q) : am_AW G M_W_drawn 0 [(0, .ref 1), (1, .int x1), (2, .int x2), (3, .int x3)] [] σ Q :=
  (show am_Snd G M_W_drawn 0 am_Pi _ from (sn_iload_n (pc := 0) (i := 2) dX10_drawn_0 rfl (sn_istore (pc := 1) dX10_drawn_1 (Nat.le_of_ble_eq_true rfl) (sn_iconst (pc := 3) (v := 0) dX10_drawn_3 rfl (sn_istore (pc := 4) dX10_drawn_4 (Nat.le_of_ble_eq_true rfl) (sn_iconst (pc := 6) (v := 0) dX10_drawn_6 rfl (sn_istore (pc := 7) dX10_drawn_7 (Nat.le_of_ble_eq_true rfl) (sn_iconst (pc := 9) (v := 0) dX10_drawn_9 rfl (sn_istore (pc := 10) dX10_drawn_10 (Nat.le_of_ble_eq_true rfl) (sn_lf (pc := 12) (ln_a (i := 0) (q := 1) (ln_i (i := 1) (fun z0 => (ln_i (i := 3) (fun z1 => (ln_i (i := 4) (fun z2 => (ln_i (i := 5) (fun z3 => (ln_i (i := 6) (fun z4 => (ln_i (i := 7) (fun z5 => (ln_end (o := fun τ => f_W_drawn_1_12 z0 z1 z2 z3 z4 z5 τ) (fun _ _ _ e h => s_W_drawn_1_12 G z0 z1 z2 z3 z4 z5 _ _ _ e h))))))))))))))))))))))))) _ _ _ _ _ ((eq_W_drawn_1 x1 x2 x3 σ).symm.trans e) hr
noncomputable def cF_W_drawn_1 : am_Fn := fun _ args σ K => match args with
  | [.ref q0, .int z1, .int z2, .int z3] => match Nat.beq q0 1 with
    | true => (f_W_drawn_1 z1 z2 z3 σ).bind (fun p => K (some (.int p.1)) p.2)
    | _ => none
  | _ => none
theorem cal_W_drawn_1 (G : am_G) : am_Cal G M_W_drawn cF_W_drawn_1 := by
  intro ρ args σ K r e
  unfold cF_W_drawn_1 at e
  split at e
  · split at e
    · rename_i hq0
      obtain ⟨p, h1, h2⟩ := am_bind_some e
      rw [Nat.eq_of_beq_eq_true hq0]
      exact ⟨some (.int p.1), p.2, am_Met.of rfl (Nat.le_of_ble_eq_true rfl) (s_W_drawn_1 G _ _ _ σ p _ h1 ⟨rfl, rfl⟩), h2⟩
    · cases e
  · cases e
abbrev M_X_seeds : am_MD := (yX11_seeds, cX11_seeds, 4, (some .int), 4, 98)
theorem dX11_seeds_0 : decode cX11_seeds 0 = .ok (.iload_n 1, 1) := by decide +kernel
theorem dX11_seeds_1 : decode cX11_seeds 1 = .ok (.iconst 1, 1) := by decide +kernel
theorem dX11_seeds_2 : decode cX11_seeds 2 = .ok (.if_icmp .ge 10, 3) := by decide +kernel
theorem dX11_seeds_5 : decode cX11_seeds 5 = .ok (.aload_n 0, 1) := by decide +kernel
theorem dX11_seeds_6 : decode cX11_seeds 6 = .ok (.bipush (-4), 2) := by decide +kernel
theorem dX11_seeds_8 : decode cX11_seeds 8 = .ok (.invokevirtual 55, 3) := by decide +kernel
theorem dX11_seeds_11 : decode cX11_seeds 11 = .ok (.ireturn, 1) := by decide +kernel
theorem dX11_seeds_12 : decode cX11_seeds 12 = .ok (.iload_n 1, 1) := by decide +kernel
theorem dX11_seeds_13 : decode cX11_seeds 13 = .ok (.bipush 20, 2) := by decide +kernel
theorem dX11_seeds_15 : decode cX11_seeds 15 = .ok (.if_icmp .le 10, 3) := by decide +kernel
theorem dX11_seeds_18 : decode cX11_seeds 18 = .ok (.aload_n 0, 1) := by decide +kernel
theorem dX11_seeds_19 : decode cX11_seeds 19 = .ok (.bipush (-6), 2) := by decide +kernel
theorem dX11_seeds_21 : decode cX11_seeds 21 = .ok (.invokevirtual 55, 3) := by decide +kernel
theorem dX11_seeds_24 : decode cX11_seeds 24 = .ok (.ireturn, 1) := by decide +kernel
theorem dX11_seeds_25 : decode cX11_seeds 25 = .ok (.iload_n 3, 1) := by decide +kernel
theorem dX11_seeds_26 : decode cX11_seeds 26 = .ok (.invokestatic 132, 3) := by decide +kernel
theorem dX11_seeds_29 : decode cX11_seeds 29 = .ok (.ifCond .ne 10, 3) := by decide +kernel
theorem dX11_seeds_32 : decode cX11_seeds 32 = .ok (.aload_n 0, 1) := by decide +kernel
theorem dX11_seeds_33 : decode cX11_seeds 33 = .ok (.bipush (-2), 2) := by decide +kernel
theorem dX11_seeds_35 : decode cX11_seeds 35 = .ok (.invokevirtual 55, 3) := by decide +kernel
theorem dX11_seeds_38 : decode cX11_seeds 38 = .ok (.ireturn, 1) := by decide +kernel
theorem dX11_seeds_39 : decode cX11_seeds 39 = .ok (.aload_n 0, 1) := by decide +kernel
theorem dX11_seeds_40 : decode cX11_seeds 40 = .ok (.getfield 10, 3) := by decide +kernel
theorem dX11_seeds_43 : decode cX11_seeds 43 = .ok (.iload_n 1, 1) := by decide +kernel
theorem dX11_seeds_44 : decode cX11_seeds 44 = .ok (.iload_n 2, 1) := by decide +kernel
theorem dX11_seeds_45 : decode cX11_seeds 45 = .ok (.iload_n 3, 1) := by decide +kernel
theorem dX11_seeds_46 : decode cX11_seeds 46 = .ok (.invokestatic 281, 3) := by decide +kernel
theorem dX11_seeds_49 : decode cX11_seeds 49 = .ok (.ireturn, 1) := by decide +kernel
noncomputable def g_X_seeds (x1 : Int32) (x2 : Int32) (x3 : Int32) (σ : am_St) : Option (Int32 × am_St) :=
  if 1 ≤ x1 then
    if x1 ≤ 20 then
      (f_X_isZeroOrOne x3 σ).bind (fun p1 =>
        if p1.1 = 0 then
          (f_X_refuse (-2) p1.2).bind (fun p3 =>
            some ((p3.1, p3.2)))
        else
          (f_W_drawn_1 x1 x2 x3 p1.2).bind (fun p2 =>
            some ((p2.1, p2.2))))
    else
      (f_X_refuse (-6) σ).bind (fun p4 =>
        some ((p4.1, p4.2)))
  else
    (f_X_refuse (-4) σ).bind (fun p5 =>
      some ((p5.1, p5.2)))
noncomputable def f_X_seeds (x1 : Int32) (x2 : Int32) (x3 : Int32) (σ : am_St) : Option (Int32 × am_St) := am_lk (g_X_seeds x1 x2 x3 σ)
theorem eq_X_seeds (x1 : Int32) (x2 : Int32) (x3 : Int32) (σ : am_St) : f_X_seeds x1 x2 x3 σ = g_X_seeds x1 x2 x3 σ := am_lk_eq _
set_option maxRecDepth 100000 in
set_option maxHeartbeats 4000000 in
theorem s_X_seeds (G : am_G) (x1 : Int32) (x2 : Int32) (x3 : Int32) (σ : am_St) (r : Int32 × am_St) (Q : am_AQ) (e : f_X_seeds x1 x2 x3 σ = some r) (hr : am_Pi r Q) : am_AW G M_X_seeds 0 [(0, .ref 0), (1, .int x1), (2, .int x2), (3, .int x3)] [] σ Q :=
  (show am_Snd G M_X_seeds 0 am_Pi _ from (sn_iload_n (pc := 0) (i := 1) dX11_seeds_0 rfl (sn_iconst (pc := 1) (v := 1) dX11_seeds_1 rfl (sn_icmp_ge (pc := 2) (tgt := 12) dX11_seeds_2 rfl (sn_iload_n (pc := 12) (i := 1) dX11_seeds_12 rfl (sn_bipush (pc := 13) (v := 20) dX11_seeds_13 rfl (sn_icmp_le (pc := 15) (tgt := 25) dX11_seeds_15 rfl (sn_iload_n (pc := 25) (i := 3) dX11_seeds_25 rfl (sn_callS (pc := 26) (N := M_X_isZeroOrOne) dX11_seeds_26 (cal_X_isZeroOrOne G) tw_549 tw_550 tw_1 tw_551 dsc_X11_isZeroOrOne rfl (sn_if_ne (pc := 29) (tgt := 39) dX11_seeds_29 rfl (sn_aload_n (pc := 39) (i := 0) dX11_seeds_39 rfl (sn_gR (r0 := 1) (pc := 40) (h := 0) (f := 0) dX11_seeds_40 am_CL_10 sh_0 rfl (Nat.le_of_ble_eq_true rfl) tw_219 (sn_iload_n (pc := 43) (i := 1) dX11_seeds_43 rfl (sn_iload_n (pc := 44) (i := 2) dX11_seeds_44 rfl (sn_iload_n (pc := 45) (i := 3) dX11_seeds_45 rfl (sn_callS (pc := 46) (N := M_W_drawn) dX11_seeds_46 (cal_W_drawn_1 G) tw_889 tw_890 tw_10 tw_891 dsc_X10_drawn rfl (sn_reti (pc := 49) (R := fun x τ => (some ((x, τ)))) dX11_seeds_49 rfl (fun _ _ _ _ e h => by cases e; exact h)))))))) (sn_aload_n (pc := 32) (i := 0) dX11_seeds_32 rfl (sn_bipush (pc := 33) (v := (-2)) dX11_seeds_33 (show (Int8.ofInt (-2)).toInt32 = (-2) by decide) (sn_callV (pc := 35) (N := M_X_refuse) dX11_seeds_35 (cal_X_refuse G) sh_0 rfl tw_251 tw_253 tp_0 tw_1 tw_254 dsc_X11_refuse rfl (sn_reti (pc := 38) (R := fun x τ => (some ((x, τ)))) dX11_seeds_38 rfl (fun _ _ _ _ e h => by cases e; exact h)))))))) (sn_aload_n (pc := 18) (i := 0) dX11_seeds_18 rfl (sn_bipush (pc := 19) (v := (-6)) dX11_seeds_19 (show (Int8.ofInt (-6)).toInt32 = (-6) by decide) (sn_callV (pc := 21) (N := M_X_refuse) dX11_seeds_21 (cal_X_refuse G) sh_0 rfl tw_251 tw_253 tp_0 tw_1 tw_254 dsc_X11_refuse rfl (sn_reti (pc := 24) (R := fun x τ => (some ((x, τ)))) dX11_seeds_24 rfl (fun _ _ _ _ e h => by cases e; exact h)))))))) (sn_aload_n (pc := 5) (i := 0) dX11_seeds_5 rfl (sn_bipush (pc := 6) (v := (-4)) dX11_seeds_6 (show (Int8.ofInt (-4)).toInt32 = (-4) by decide) (sn_callV (pc := 8) (N := M_X_refuse) dX11_seeds_8 (cal_X_refuse G) sh_0 rfl tw_251 tw_253 tp_0 tw_1 tw_254 dsc_X11_refuse rfl (sn_reti (pc := 11) (R := fun x τ => (some ((x, τ)))) dX11_seeds_11 rfl (fun _ _ _ _ e h => by cases e; exact h))))))))) _ _ _ _ _ ((eq_X_seeds x1 x2 x3 σ).symm.trans e) hr
noncomputable def cF_X_seeds : am_Fn := fun _ args σ K => match args with
  | [.ref q0, .int z1, .int z2, .int z3] => match Nat.beq q0 0 with
    | true => (f_X_seeds z1 z2 z3 σ).bind (fun p => K (some (.int p.1)) p.2)
    | _ => none
  | _ => none
theorem cal_X_seeds (G : am_G) : am_Cal G M_X_seeds cF_X_seeds := by
  intro ρ args σ K r e
  unfold cF_X_seeds at e
  split at e
  · split at e
    · rename_i hq0
      obtain ⟨p, h1, h2⟩ := am_bind_some e
      rw [Nat.eq_of_beq_eq_true hq0]
      exact ⟨some (.int p.1), p.2, am_Met.of rfl (Nat.le_of_ble_eq_true rfl) (s_X_seeds G _ _ _ σ p _ h1 ⟨rfl, rfl⟩), h2⟩
    · cases e
  · cases e
noncomputable def g_H_copyFrom_18_1_175 (σ : am_St) : Option (am_St) :=
  let s1 := am_rI σ 27 (va_cpy (σ.1 10) (σ.1 27) 0 0 8)
  some (s1)
noncomputable def f_H_copyFrom_18_1_175 (σ : am_St) : Option (am_St) := am_lk (g_H_copyFrom_18_1_175  σ)
theorem eq_H_copyFrom_18_1_175 (σ : am_St) : f_H_copyFrom_18_1_175  σ = g_H_copyFrom_18_1_175  σ := am_lk_eq _
set_option maxRecDepth 100000 in
set_option maxHeartbeats 4000000 in
theorem s_H_copyFrom_18_1_175 (G : am_G) (σ : am_St) (r : am_St) (Q : am_AQ) (e : f_H_copyFrom_18_1_175  σ = some r) (hr : am_Pv r Q) : am_AW G M_H_copyFrom 175 [(1, .ref 1), (0, .ref 18)] [] σ Q :=
  (show am_Snd G M_H_copyFrom 175 am_Pv _ from (sn_aload_n (pc := 175) (i := 1) dX3_copyFrom_175 rfl (sn_gR (r0 := 10) (pc := 176) (h := 1) (f := 15) dX3_copyFrom_176 am_CL_3 sh_1 rfl (Nat.le_of_ble_eq_true rfl) tw_115 (sn_iconst (pc := 179) (v := 0) dX3_copyFrom_179 rfl (sn_aload_n (pc := 180) (i := 0) dX3_copyFrom_180 rfl (sn_gR (r0 := 27) (pc := 181) (h := 18) (f := 15) dX3_copyFrom_181 am_CL_3 sh_18 rfl (Nat.le_of_ble_eq_true rfl) tw_115 (sn_iconst (pc := 184) (v := 0) dX3_copyFrom_184 rfl (sn_bipush (pc := 185) (v := 8) dX3_copyFrom_185 rfl (sn_cpy (pc := 187) (src := 10) (dst := 27) (n := 8) (v := 8) dX3_copyFrom_187 sh_10 sh_27 tw_300 tw_302 tw_301 tw_13 (by decide) (by decide) (sn_retv (pc := 190) (R := fun τ => (some (τ))) dX3_copyFrom_190 rfl (fun _ _ _ e h => by cases e; exact h))))))))))) _ _ _ _ _ ((eq_H_copyFrom_18_1_175  σ).symm.trans e) hr
noncomputable def g_H_copyFrom_18_1_146 (σ : am_St) : Option (am_St) :=
  let s1 := am_rI σ 25 (va_cpy (σ.1 8) (σ.1 25) 0 0 3)
  let s2 := am_rI s1 26 (va_cpy (s1.1 9) (s1.1 26) 0 0 16)
  f_H_copyFrom_18_1_175 s2
noncomputable def f_H_copyFrom_18_1_146 (σ : am_St) : Option (am_St) := am_lk (g_H_copyFrom_18_1_146  σ)
theorem eq_H_copyFrom_18_1_146 (σ : am_St) : f_H_copyFrom_18_1_146  σ = g_H_copyFrom_18_1_146  σ := am_lk_eq _
set_option maxRecDepth 100000 in
set_option maxHeartbeats 4000000 in
theorem s_H_copyFrom_18_1_146 (G : am_G) (σ : am_St) (r : am_St) (Q : am_AQ) (e : f_H_copyFrom_18_1_146  σ = some r) (hr : am_Pv r Q) : am_AW G M_H_copyFrom 146 [(1, .ref 1), (0, .ref 18)] [] σ Q :=
  (show am_Snd G M_H_copyFrom 146 am_Pv _ from (sn_aload_n (pc := 146) (i := 1) dX3_copyFrom_146 rfl (sn_gR (r0 := 8) (pc := 147) (h := 1) (f := 13) dX3_copyFrom_147 am_CL_3 sh_1 rfl (Nat.le_of_ble_eq_true rfl) tw_113 (sn_iconst (pc := 150) (v := 0) dX3_copyFrom_150 rfl (sn_aload_n (pc := 151) (i := 0) dX3_copyFrom_151 rfl (sn_gR (r0 := 25) (pc := 152) (h := 18) (f := 13) dX3_copyFrom_152 am_CL_3 sh_18 rfl (Nat.le_of_ble_eq_true rfl) tw_113 (sn_iconst (pc := 155) (v := 0) dX3_copyFrom_155 rfl (sn_iconst (pc := 156) (v := 3) dX3_copyFrom_156 rfl (sn_cpy (pc := 157) (src := 8) (dst := 25) (n := 3) (v := 3) dX3_copyFrom_157 sh_8 sh_25 tw_300 tw_302 tw_301 tw_13 (by decide) (by decide) (sn_aload_n (pc := 160) (i := 1) dX3_copyFrom_160 rfl (sn_gR (r0 := 9) (pc := 161) (h := 1) (f := 14) dX3_copyFrom_161 am_CL_3 sh_1 rfl (Nat.le_of_ble_eq_true rfl) tw_114 (sn_iconst (pc := 164) (v := 0) dX3_copyFrom_164 rfl (sn_aload_n (pc := 165) (i := 0) dX3_copyFrom_165 rfl (sn_gR (r0 := 26) (pc := 166) (h := 18) (f := 14) dX3_copyFrom_166 am_CL_3 sh_18 rfl (Nat.le_of_ble_eq_true rfl) tw_114 (sn_iconst (pc := 169) (v := 0) dX3_copyFrom_169 rfl (sn_bipush (pc := 170) (v := 16) dX3_copyFrom_170 rfl (sn_cpy (pc := 172) (src := 9) (dst := 26) (n := 16) (v := 16) dX3_copyFrom_172 sh_9 sh_26 tw_300 tw_302 tw_301 tw_13 (by decide) (by decide) (sn_lf (pc := 175) (ln_a (i := 0) (q := 18) (ln_a (i := 1) (q := 1) (ln_end (o := fun τ => f_H_copyFrom_18_1_175 τ) (fun _ _ _ e h => s_H_copyFrom_18_1_175 G  _ _ _ e h)))))))))))))))))))))) _ _ _ _ _ ((eq_H_copyFrom_18_1_146  σ).symm.trans e) hr
noncomputable def g_H_copyFrom_18_1_117 (σ : am_St) : Option (am_St) :=
  let s1 := am_rI σ 23 (va_cpy (σ.1 6) (σ.1 23) 0 0 4)
  let s2 := am_rI s1 24 (va_cpy (s1.1 7) (s1.1 24) 0 0 24)
  f_H_copyFrom_18_1_146 s2
noncomputable def f_H_copyFrom_18_1_117 (σ : am_St) : Option (am_St) := am_lk (g_H_copyFrom_18_1_117  σ)
theorem eq_H_copyFrom_18_1_117 (σ : am_St) : f_H_copyFrom_18_1_117  σ = g_H_copyFrom_18_1_117  σ := am_lk_eq _
set_option maxRecDepth 100000 in
set_option maxHeartbeats 4000000 in
theorem s_H_copyFrom_18_1_117 (G : am_G) (σ : am_St) (r : am_St) (Q : am_AQ) (e : f_H_copyFrom_18_1_117  σ = some r) (hr : am_Pv r Q) : am_AW G M_H_copyFrom 117 [(1, .ref 1), (0, .ref 18)] [] σ Q :=
  (show am_Snd G M_H_copyFrom 117 am_Pv _ from (sn_aload_n (pc := 117) (i := 1) dX3_copyFrom_117 rfl (sn_gR (r0 := 6) (pc := 118) (h := 1) (f := 11) dX3_copyFrom_118 am_CL_3 sh_1 rfl (Nat.le_of_ble_eq_true rfl) tw_111 (sn_iconst (pc := 121) (v := 0) dX3_copyFrom_121 rfl (sn_aload_n (pc := 122) (i := 0) dX3_copyFrom_122 rfl (sn_gR (r0 := 23) (pc := 123) (h := 18) (f := 11) dX3_copyFrom_123 am_CL_3 sh_18 rfl (Nat.le_of_ble_eq_true rfl) tw_111 (sn_iconst (pc := 126) (v := 0) dX3_copyFrom_126 rfl (sn_iconst (pc := 127) (v := 4) dX3_copyFrom_127 rfl (sn_cpy (pc := 128) (src := 6) (dst := 23) (n := 4) (v := 4) dX3_copyFrom_128 sh_6 sh_23 tw_300 tw_302 tw_301 tw_13 (by decide) (by decide) (sn_aload_n (pc := 131) (i := 1) dX3_copyFrom_131 rfl (sn_gR (r0 := 7) (pc := 132) (h := 1) (f := 12) dX3_copyFrom_132 am_CL_3 sh_1 rfl (Nat.le_of_ble_eq_true rfl) tw_112 (sn_iconst (pc := 135) (v := 0) dX3_copyFrom_135 rfl (sn_aload_n (pc := 136) (i := 0) dX3_copyFrom_136 rfl (sn_gR (r0 := 24) (pc := 137) (h := 18) (f := 12) dX3_copyFrom_137 am_CL_3 sh_18 rfl (Nat.le_of_ble_eq_true rfl) tw_112 (sn_iconst (pc := 140) (v := 0) dX3_copyFrom_140 rfl (sn_bipush (pc := 141) (v := 24) dX3_copyFrom_141 rfl (sn_cpy (pc := 143) (src := 7) (dst := 24) (n := 24) (v := 24) dX3_copyFrom_143 sh_7 sh_24 tw_300 tw_302 tw_301 tw_13 (by decide) (by decide) (sn_lf (pc := 146) (ln_a (i := 0) (q := 18) (ln_a (i := 1) (q := 1) (ln_end (o := fun τ => f_H_copyFrom_18_1_146 τ) (fun _ _ _ e h => s_H_copyFrom_18_1_146 G  _ _ _ e h)))))))))))))))))))))) _ _ _ _ _ ((eq_H_copyFrom_18_1_117  σ).symm.trans e) hr
noncomputable def g_H_copyFrom_18_1_89 (σ : am_St) : Option (am_St) :=
  let s1 := am_rI σ 21 (va_cpy (σ.1 4) (σ.1 21) 0 0 4)
  let s2 := am_rI s1 22 (va_cpy (s1.1 5) (s1.1 22) 0 0 4)
  f_H_copyFrom_18_1_117 s2
noncomputable def f_H_copyFrom_18_1_89 (σ : am_St) : Option (am_St) := am_lk (g_H_copyFrom_18_1_89  σ)
theorem eq_H_copyFrom_18_1_89 (σ : am_St) : f_H_copyFrom_18_1_89  σ = g_H_copyFrom_18_1_89  σ := am_lk_eq _
set_option maxRecDepth 100000 in
set_option maxHeartbeats 4000000 in
theorem s_H_copyFrom_18_1_89 (G : am_G) (σ : am_St) (r : am_St) (Q : am_AQ) (e : f_H_copyFrom_18_1_89  σ = some r) (hr : am_Pv r Q) : am_AW G M_H_copyFrom 89 [(1, .ref 1), (0, .ref 18)] [] σ Q :=
  (show am_Snd G M_H_copyFrom 89 am_Pv _ from (sn_aload_n (pc := 89) (i := 1) dX3_copyFrom_89 rfl (sn_gR (r0 := 4) (pc := 90) (h := 1) (f := 9) dX3_copyFrom_90 am_CL_3 sh_1 rfl (Nat.le_of_ble_eq_true rfl) tw_109 (sn_iconst (pc := 93) (v := 0) dX3_copyFrom_93 rfl (sn_aload_n (pc := 94) (i := 0) dX3_copyFrom_94 rfl (sn_gR (r0 := 21) (pc := 95) (h := 18) (f := 9) dX3_copyFrom_95 am_CL_3 sh_18 rfl (Nat.le_of_ble_eq_true rfl) tw_109 (sn_iconst (pc := 98) (v := 0) dX3_copyFrom_98 rfl (sn_iconst (pc := 99) (v := 4) dX3_copyFrom_99 rfl (sn_cpy (pc := 100) (src := 4) (dst := 21) (n := 4) (v := 4) dX3_copyFrom_100 sh_4 sh_21 tw_300 tw_302 tw_301 tw_13 (by decide) (by decide) (sn_aload_n (pc := 103) (i := 1) dX3_copyFrom_103 rfl (sn_gR (r0 := 5) (pc := 104) (h := 1) (f := 10) dX3_copyFrom_104 am_CL_3 sh_1 rfl (Nat.le_of_ble_eq_true rfl) tw_110 (sn_iconst (pc := 107) (v := 0) dX3_copyFrom_107 rfl (sn_aload_n (pc := 108) (i := 0) dX3_copyFrom_108 rfl (sn_gR (r0 := 22) (pc := 109) (h := 18) (f := 10) dX3_copyFrom_109 am_CL_3 sh_18 rfl (Nat.le_of_ble_eq_true rfl) tw_110 (sn_iconst (pc := 112) (v := 0) dX3_copyFrom_112 rfl (sn_iconst (pc := 113) (v := 4) dX3_copyFrom_113 rfl (sn_cpy (pc := 114) (src := 5) (dst := 22) (n := 4) (v := 4) dX3_copyFrom_114 sh_5 sh_22 tw_300 tw_302 tw_301 tw_13 (by decide) (by decide) (sn_lf (pc := 117) (ln_a (i := 0) (q := 18) (ln_a (i := 1) (q := 1) (ln_end (o := fun τ => f_H_copyFrom_18_1_117 τ) (fun _ _ _ e h => s_H_copyFrom_18_1_117 G  _ _ _ e h)))))))))))))))))))))) _ _ _ _ _ ((eq_H_copyFrom_18_1_89  σ).symm.trans e) hr
noncomputable def g_H_copyFrom_18_1_45 (σ : am_St) : Option (am_St) :=
  let s1 := am_sI σ 18 5 (σ.1 1 5)
  let s2 := am_sI s1 18 6 (s1.1 1 6)
  let s3 := am_rI s2 19 (va_cpy (s2.1 2) (s2.1 19) 0 0 4)
  let s4 := am_rI s3 20 (va_cpy (s3.1 3) (s3.1 20) 0 0 4)
  f_H_copyFrom_18_1_89 s4
noncomputable def f_H_copyFrom_18_1_45 (σ : am_St) : Option (am_St) := am_lk (g_H_copyFrom_18_1_45  σ)
theorem eq_H_copyFrom_18_1_45 (σ : am_St) : f_H_copyFrom_18_1_45  σ = g_H_copyFrom_18_1_45  σ := am_lk_eq _
set_option maxRecDepth 100000 in
set_option maxHeartbeats 4000000 in
theorem s_H_copyFrom_18_1_45 (G : am_G) (σ : am_St) (r : am_St) (Q : am_AQ) (e : f_H_copyFrom_18_1_45  σ = some r) (hr : am_Pv r Q) : am_AW G M_H_copyFrom 45 [(1, .ref 1), (0, .ref 18)] [] σ Q :=
  (show am_Snd G M_H_copyFrom 45 am_Pv _ from (sn_aload_n (pc := 45) (i := 0) dX3_copyFrom_45 rfl (sn_aload_n (pc := 46) (i := 1) dX3_copyFrom_46 rfl (sn_gI (pc := 47) (h := 1) (f := 5) dX3_copyFrom_47 am_CL_3 sh_1 rfl (Nat.le_of_ble_eq_true rfl) tw_100 (sn_pI (pc := 50) (h := 18) (f := 5) dX3_copyFrom_50 am_CL_3 sh_18 rfl (Nat.le_of_ble_eq_true rfl) tw_100 rfl rfl (sn_aload_n (pc := 53) (i := 0) dX3_copyFrom_53 rfl (sn_aload_n (pc := 54) (i := 1) dX3_copyFrom_54 rfl (sn_gI (pc := 55) (h := 1) (f := 6) dX3_copyFrom_55 am_CL_3 sh_1 rfl (Nat.le_of_ble_eq_true rfl) tw_103 (sn_pI (pc := 58) (h := 18) (f := 6) dX3_copyFrom_58 am_CL_3 sh_18 rfl (Nat.le_of_ble_eq_true rfl) tw_103 rfl rfl (sn_aload_n (pc := 61) (i := 1) dX3_copyFrom_61 rfl (sn_gR (r0 := 2) (pc := 62) (h := 1) (f := 7) dX3_copyFrom_62 am_CL_3 sh_1 rfl (Nat.le_of_ble_eq_true rfl) tw_107 (sn_iconst (pc := 65) (v := 0) dX3_copyFrom_65 rfl (sn_aload_n (pc := 66) (i := 0) dX3_copyFrom_66 rfl (sn_gR (r0 := 19) (pc := 67) (h := 18) (f := 7) dX3_copyFrom_67 am_CL_3 sh_18 rfl (Nat.le_of_ble_eq_true rfl) tw_107 (sn_iconst (pc := 70) (v := 0) dX3_copyFrom_70 rfl (sn_iconst (pc := 71) (v := 4) dX3_copyFrom_71 rfl (sn_cpy (pc := 72) (src := 2) (dst := 19) (n := 4) (v := 4) dX3_copyFrom_72 sh_2 sh_19 tw_300 tw_302 tw_301 tw_13 (by decide) (by decide) (sn_aload_n (pc := 75) (i := 1) dX3_copyFrom_75 rfl (sn_gR (r0 := 3) (pc := 76) (h := 1) (f := 8) dX3_copyFrom_76 am_CL_3 sh_1 rfl (Nat.le_of_ble_eq_true rfl) tw_108 (sn_iconst (pc := 79) (v := 0) dX3_copyFrom_79 rfl (sn_aload_n (pc := 80) (i := 0) dX3_copyFrom_80 rfl (sn_gR (r0 := 20) (pc := 81) (h := 18) (f := 8) dX3_copyFrom_81 am_CL_3 sh_18 rfl (Nat.le_of_ble_eq_true rfl) tw_108 (sn_iconst (pc := 84) (v := 0) dX3_copyFrom_84 rfl (sn_iconst (pc := 85) (v := 4) dX3_copyFrom_85 rfl (sn_cpy (pc := 86) (src := 3) (dst := 20) (n := 4) (v := 4) dX3_copyFrom_86 sh_3 sh_20 tw_300 tw_302 tw_301 tw_13 (by decide) (by decide) (sn_lf (pc := 89) (ln_a (i := 0) (q := 18) (ln_a (i := 1) (q := 1) (ln_end (o := fun τ => f_H_copyFrom_18_1_89 τ) (fun _ _ _ e h => s_H_copyFrom_18_1_89 G  _ _ _ e h)))))))))))))))))))))))))))))) _ _ _ _ _ ((eq_H_copyFrom_18_1_45  σ).symm.trans e) hr
noncomputable def g_H_copyFrom_18_1 (σ : am_St) : Option (am_St) :=
  let s1 := am_sI σ 18 0 (σ.1 1 0)
  let s2 := am_sI s1 18 1 (s1.1 1 1)
  let s3 := am_sI s2 18 2 (s2.1 1 2)
  let s4 := am_sI s3 18 3 (s3.1 1 3)
  let s5 := am_sI s4 18 4 (s4.1 1 4)
  f_H_copyFrom_18_1_45 s5
noncomputable def f_H_copyFrom_18_1 (σ : am_St) : Option (am_St) := am_lk (g_H_copyFrom_18_1  σ)
theorem eq_H_copyFrom_18_1 (σ : am_St) : f_H_copyFrom_18_1  σ = g_H_copyFrom_18_1  σ := am_lk_eq _
set_option maxRecDepth 100000 in
set_option maxHeartbeats 4000000 in
theorem s_H_copyFrom_18_1 (G : am_G) (σ : am_St) (r : am_St) (Q : am_AQ) (e : f_H_copyFrom_18_1  σ = some r) (hr : am_Pv r Q) : am_AW G M_H_copyFrom 0 [(0, .ref 18), (1, .ref 1)] [] σ Q :=
  (show am_Snd G M_H_copyFrom 0 am_Pv _ from (sn_aload_n (pc := 0) (i := 1) dX3_copyFrom_0 rfl (sn_ifnn (pc := 1) (tgt := 5) dX3_copyFrom_1 rfl (sn_aload_n (pc := 5) (i := 0) dX3_copyFrom_5 rfl (sn_aload_n (pc := 6) (i := 1) dX3_copyFrom_6 rfl (sn_gI (pc := 7) (h := 1) (f := 0) dX3_copyFrom_7 am_CL_3 sh_1 rfl (Nat.le_of_ble_eq_true rfl) tw_75 (sn_pI (pc := 10) (h := 18) (f := 0) dX3_copyFrom_10 am_CL_3 sh_18 rfl (Nat.le_of_ble_eq_true rfl) tw_75 rfl rfl (sn_aload_n (pc := 13) (i := 0) dX3_copyFrom_13 rfl (sn_aload_n (pc := 14) (i := 1) dX3_copyFrom_14 rfl (sn_gI (pc := 15) (h := 1) (f := 1) dX3_copyFrom_15 am_CL_3 sh_1 rfl (Nat.le_of_ble_eq_true rfl) tw_78 (sn_pI (pc := 18) (h := 18) (f := 1) dX3_copyFrom_18 am_CL_3 sh_18 rfl (Nat.le_of_ble_eq_true rfl) tw_78 rfl rfl (sn_aload_n (pc := 21) (i := 0) dX3_copyFrom_21 rfl (sn_aload_n (pc := 22) (i := 1) dX3_copyFrom_22 rfl (sn_gI (pc := 23) (h := 1) (f := 2) dX3_copyFrom_23 am_CL_3 sh_1 rfl (Nat.le_of_ble_eq_true rfl) tw_83 (sn_pI (pc := 26) (h := 18) (f := 2) dX3_copyFrom_26 am_CL_3 sh_18 rfl (Nat.le_of_ble_eq_true rfl) tw_83 rfl rfl (sn_aload_n (pc := 29) (i := 0) dX3_copyFrom_29 rfl (sn_aload_n (pc := 30) (i := 1) dX3_copyFrom_30 rfl (sn_gI (pc := 31) (h := 1) (f := 3) dX3_copyFrom_31 am_CL_3 sh_1 rfl (Nat.le_of_ble_eq_true rfl) tw_88 (sn_pI (pc := 34) (h := 18) (f := 3) dX3_copyFrom_34 am_CL_3 sh_18 rfl (Nat.le_of_ble_eq_true rfl) tw_88 rfl rfl (sn_aload_n (pc := 37) (i := 0) dX3_copyFrom_37 rfl (sn_aload_n (pc := 38) (i := 1) dX3_copyFrom_38 rfl (sn_gI (pc := 39) (h := 1) (f := 4) dX3_copyFrom_39 am_CL_3 sh_1 rfl (Nat.le_of_ble_eq_true rfl) tw_94 (sn_pI (pc := 42) (h := 18) (f := 4) dX3_copyFrom_42 am_CL_3 sh_18 rfl (Nat.le_of_ble_eq_true rfl) tw_94 rfl rfl (sn_lf (pc := 45) (ln_a (i := 0) (q := 18) (ln_a (i := 1) (q := 1) (ln_end (o := fun τ => f_H_copyFrom_18_1_45 τ) (fun _ _ _ e h => s_H_copyFrom_18_1_45 G  _ _ _ e h)))))))))))))))))))))))))))) _ _ _ _ _ ((eq_H_copyFrom_18_1  σ).symm.trans e) hr
noncomputable def cF_H_copyFrom_18_1 : am_Fn := fun _ args σ K => match args with
  | [.ref q0, .ref q1] => match Nat.beq q0 18, Nat.beq q1 1 with
    | true, true => (f_H_copyFrom_18_1 σ).bind (fun p => K none p)
    | _, _ => none
  | _ => none
theorem cal_H_copyFrom_18_1 (G : am_G) : am_Cal G M_H_copyFrom cF_H_copyFrom_18_1 := by
  intro ρ args σ K r e
  unfold cF_H_copyFrom_18_1 at e
  split at e
  · split at e
    · rename_i hq0 hq1
      obtain ⟨p, h1, h2⟩ := am_bind_some e
      rw [Nat.eq_of_beq_eq_true hq0]
      rw [Nat.eq_of_beq_eq_true hq1]
      exact ⟨none, p, am_Met.of rfl (Nat.le_of_ble_eq_true rfl) (s_H_copyFrom_18_1 G  σ p _ h1 ⟨rfl, rfl⟩), h2⟩
    · cases e
  · cases e
abbrev M_X_image : am_MD := (yX11_image, cX11_image, 1, (some .int), 2, 39)
theorem dX11_image_0 : decode cX11_image 0 = .ok (.aload_n 0, 1) := by decide +kernel
theorem dX11_image_1 : decode cX11_image 1 = .ok (.getfield 16, 3) := by decide +kernel
theorem dX11_image_4 : decode cX11_image 4 = .ok (.aload_n 0, 1) := by decide +kernel
theorem dX11_image_5 : decode cX11_image 5 = .ok (.getfield 10, 3) := by decide +kernel
theorem dX11_image_8 : decode cX11_image 8 = .ok (.invokevirtual 74, 3) := by decide +kernel
theorem dX11_image_11 : decode cX11_image 11 = .ok (.aload_n 0, 1) := by decide +kernel
theorem dX11_image_12 : decode cX11_image 12 = .ok (.iconst 1, 1) := by decide +kernel
theorem dX11_image_13 : decode cX11_image 13 = .ok (.putfield 19, 3) := by decide +kernel
theorem dX11_image_16 : decode cX11_image 16 = .ok (.aload_n 0, 1) := by decide +kernel
theorem dX11_image_17 : decode cX11_image 17 = .ok (.getfield 10, 3) := by decide +kernel
theorem dX11_image_20 : decode cX11_image 20 = .ok (.getfield 135, 3) := by decide +kernel
theorem dX11_image_23 : decode cX11_image 23 = .ok (.ireturn, 1) := by decide +kernel
noncomputable def g_X_image (σ : am_St) : Option (Int32 × am_St) :=
  (f_H_copyFrom_18_1 σ).bind (fun p1 =>
    let s2 := am_sI p1 0 2 1
    some ((s2.1 1 5, s2)))
noncomputable def f_X_image (σ : am_St) : Option (Int32 × am_St) := am_lk (g_X_image  σ)
theorem eq_X_image (σ : am_St) : f_X_image  σ = g_X_image  σ := am_lk_eq _
set_option maxRecDepth 100000 in
set_option maxHeartbeats 4000000 in
theorem s_X_image (G : am_G) (σ : am_St) (r : Int32 × am_St) (Q : am_AQ) (e : f_X_image  σ = some r) (hr : am_Pi r Q) : am_AW G M_X_image 0 [(0, .ref 0)] [] σ Q :=
  (show am_Snd G M_X_image 0 am_Pi _ from (sn_aload_n (pc := 0) (i := 0) dX11_image_0 rfl (sn_gR (r0 := 18) (pc := 1) (h := 0) (f := 1) dX11_image_1 am_CL_10 sh_0 rfl (Nat.le_of_ble_eq_true rfl) tw_220 (sn_aload_n (pc := 4) (i := 0) dX11_image_4 rfl (sn_gR (r0 := 1) (pc := 5) (h := 0) (f := 0) dX11_image_5 am_CL_10 sh_0 rfl (Nat.le_of_ble_eq_true rfl) tw_219 (sn_callV (pc := 8) (N := M_H_copyFrom) dX11_image_8 (cal_H_copyFrom_18_1 G) sh_18 rfl tw_425 tw_297 tw_298 tw_2 tw_299 dsc_X3_copyFrom rfl (sn_aload_n (pc := 11) (i := 0) dX11_image_11 rfl (sn_iconst (pc := 12) (v := 1) dX11_image_12 rfl (sn_pZ (pc := 13) (h := 0) (f := 2) dX11_image_13 am_CL_10 sh_0 rfl (Nat.le_of_ble_eq_true rfl) tw_221 rfl rfl (sn_aload_n (pc := 16) (i := 0) dX11_image_16 rfl (sn_gR (r0 := 1) (pc := 17) (h := 0) (f := 0) dX11_image_17 am_CL_10 sh_0 rfl (Nat.le_of_ble_eq_true rfl) tw_219 (sn_gI (pc := 20) (h := 1) (f := 5) dX11_image_20 am_CL_3 sh_1 rfl (Nat.le_of_ble_eq_true rfl) tw_102 (sn_reti (pc := 23) (R := fun x τ => (some ((x, τ)))) dX11_image_23 rfl (fun _ _ _ _ e h => by cases e; exact h)))))))))))))) _ _ _ _ _ ((eq_X_image  σ).symm.trans e) hr
noncomputable def cF_X_image : am_Fn := fun _ args σ K => match args with
  | [.ref q0] => match Nat.beq q0 0 with
    | true => (f_X_image σ).bind (fun p => K (some (.int p.1)) p.2)
    | _ => none
  | _ => none
theorem cal_X_image (G : am_G) : am_Cal G M_X_image cF_X_image := by
  intro ρ args σ K r e
  unfold cF_X_image at e
  split at e
  · split at e
    · rename_i hq0
      obtain ⟨p, h1, h2⟩ := am_bind_some e
      rw [Nat.eq_of_beq_eq_true hq0]
      exact ⟨some (.int p.1), p.2, am_Met.of rfl (Nat.le_of_ble_eq_true rfl) (s_X_image G  σ p _ h1 ⟨rfl, rfl⟩), h2⟩
    · cases e
  · cases e
noncomputable def g_H_copyFrom_1_18_175 (σ : am_St) : Option (am_St) :=
  let s1 := am_rI σ 10 (va_cpy (σ.1 27) (σ.1 10) 0 0 8)
  some (s1)
noncomputable def f_H_copyFrom_1_18_175 (σ : am_St) : Option (am_St) := am_lk (g_H_copyFrom_1_18_175  σ)
theorem eq_H_copyFrom_1_18_175 (σ : am_St) : f_H_copyFrom_1_18_175  σ = g_H_copyFrom_1_18_175  σ := am_lk_eq _
set_option maxRecDepth 100000 in
set_option maxHeartbeats 4000000 in
theorem s_H_copyFrom_1_18_175 (G : am_G) (σ : am_St) (r : am_St) (Q : am_AQ) (e : f_H_copyFrom_1_18_175  σ = some r) (hr : am_Pv r Q) : am_AW G M_H_copyFrom 175 [(1, .ref 18), (0, .ref 1)] [] σ Q :=
  (show am_Snd G M_H_copyFrom 175 am_Pv _ from (sn_aload_n (pc := 175) (i := 1) dX3_copyFrom_175 rfl (sn_gR (r0 := 27) (pc := 176) (h := 18) (f := 15) dX3_copyFrom_176 am_CL_3 sh_18 rfl (Nat.le_of_ble_eq_true rfl) tw_115 (sn_iconst (pc := 179) (v := 0) dX3_copyFrom_179 rfl (sn_aload_n (pc := 180) (i := 0) dX3_copyFrom_180 rfl (sn_gR (r0 := 10) (pc := 181) (h := 1) (f := 15) dX3_copyFrom_181 am_CL_3 sh_1 rfl (Nat.le_of_ble_eq_true rfl) tw_115 (sn_iconst (pc := 184) (v := 0) dX3_copyFrom_184 rfl (sn_bipush (pc := 185) (v := 8) dX3_copyFrom_185 rfl (sn_cpy (pc := 187) (src := 27) (dst := 10) (n := 8) (v := 8) dX3_copyFrom_187 sh_27 sh_10 tw_300 tw_302 tw_301 tw_13 (by decide) (by decide) (sn_retv (pc := 190) (R := fun τ => (some (τ))) dX3_copyFrom_190 rfl (fun _ _ _ e h => by cases e; exact h))))))))))) _ _ _ _ _ ((eq_H_copyFrom_1_18_175  σ).symm.trans e) hr
noncomputable def g_H_copyFrom_1_18_146 (σ : am_St) : Option (am_St) :=
  let s1 := am_rI σ 8 (va_cpy (σ.1 25) (σ.1 8) 0 0 3)
  let s2 := am_rI s1 9 (va_cpy (s1.1 26) (s1.1 9) 0 0 16)
  f_H_copyFrom_1_18_175 s2
noncomputable def f_H_copyFrom_1_18_146 (σ : am_St) : Option (am_St) := am_lk (g_H_copyFrom_1_18_146  σ)
theorem eq_H_copyFrom_1_18_146 (σ : am_St) : f_H_copyFrom_1_18_146  σ = g_H_copyFrom_1_18_146  σ := am_lk_eq _
set_option maxRecDepth 100000 in
set_option maxHeartbeats 4000000 in
theorem s_H_copyFrom_1_18_146 (G : am_G) (σ : am_St) (r : am_St) (Q : am_AQ) (e : f_H_copyFrom_1_18_146  σ = some r) (hr : am_Pv r Q) : am_AW G M_H_copyFrom 146 [(1, .ref 18), (0, .ref 1)] [] σ Q :=
  (show am_Snd G M_H_copyFrom 146 am_Pv _ from (sn_aload_n (pc := 146) (i := 1) dX3_copyFrom_146 rfl (sn_gR (r0 := 25) (pc := 147) (h := 18) (f := 13) dX3_copyFrom_147 am_CL_3 sh_18 rfl (Nat.le_of_ble_eq_true rfl) tw_113 (sn_iconst (pc := 150) (v := 0) dX3_copyFrom_150 rfl (sn_aload_n (pc := 151) (i := 0) dX3_copyFrom_151 rfl (sn_gR (r0 := 8) (pc := 152) (h := 1) (f := 13) dX3_copyFrom_152 am_CL_3 sh_1 rfl (Nat.le_of_ble_eq_true rfl) tw_113 (sn_iconst (pc := 155) (v := 0) dX3_copyFrom_155 rfl (sn_iconst (pc := 156) (v := 3) dX3_copyFrom_156 rfl (sn_cpy (pc := 157) (src := 25) (dst := 8) (n := 3) (v := 3) dX3_copyFrom_157 sh_25 sh_8 tw_300 tw_302 tw_301 tw_13 (by decide) (by decide) (sn_aload_n (pc := 160) (i := 1) dX3_copyFrom_160 rfl (sn_gR (r0 := 26) (pc := 161) (h := 18) (f := 14) dX3_copyFrom_161 am_CL_3 sh_18 rfl (Nat.le_of_ble_eq_true rfl) tw_114 (sn_iconst (pc := 164) (v := 0) dX3_copyFrom_164 rfl (sn_aload_n (pc := 165) (i := 0) dX3_copyFrom_165 rfl (sn_gR (r0 := 9) (pc := 166) (h := 1) (f := 14) dX3_copyFrom_166 am_CL_3 sh_1 rfl (Nat.le_of_ble_eq_true rfl) tw_114 (sn_iconst (pc := 169) (v := 0) dX3_copyFrom_169 rfl (sn_bipush (pc := 170) (v := 16) dX3_copyFrom_170 rfl (sn_cpy (pc := 172) (src := 26) (dst := 9) (n := 16) (v := 16) dX3_copyFrom_172 sh_26 sh_9 tw_300 tw_302 tw_301 tw_13 (by decide) (by decide) (sn_lf (pc := 175) (ln_a (i := 0) (q := 1) (ln_a (i := 1) (q := 18) (ln_end (o := fun τ => f_H_copyFrom_1_18_175 τ) (fun _ _ _ e h => s_H_copyFrom_1_18_175 G  _ _ _ e h)))))))))))))))))))))) _ _ _ _ _ ((eq_H_copyFrom_1_18_146  σ).symm.trans e) hr
noncomputable def g_H_copyFrom_1_18_117 (σ : am_St) : Option (am_St) :=
  let s1 := am_rI σ 6 (va_cpy (σ.1 23) (σ.1 6) 0 0 4)
  let s2 := am_rI s1 7 (va_cpy (s1.1 24) (s1.1 7) 0 0 24)
  f_H_copyFrom_1_18_146 s2
noncomputable def f_H_copyFrom_1_18_117 (σ : am_St) : Option (am_St) := am_lk (g_H_copyFrom_1_18_117  σ)
theorem eq_H_copyFrom_1_18_117 (σ : am_St) : f_H_copyFrom_1_18_117  σ = g_H_copyFrom_1_18_117  σ := am_lk_eq _
set_option maxRecDepth 100000 in
set_option maxHeartbeats 4000000 in
theorem s_H_copyFrom_1_18_117 (G : am_G) (σ : am_St) (r : am_St) (Q : am_AQ) (e : f_H_copyFrom_1_18_117  σ = some r) (hr : am_Pv r Q) : am_AW G M_H_copyFrom 117 [(1, .ref 18), (0, .ref 1)] [] σ Q :=
  (show am_Snd G M_H_copyFrom 117 am_Pv _ from (sn_aload_n (pc := 117) (i := 1) dX3_copyFrom_117 rfl (sn_gR (r0 := 23) (pc := 118) (h := 18) (f := 11) dX3_copyFrom_118 am_CL_3 sh_18 rfl (Nat.le_of_ble_eq_true rfl) tw_111 (sn_iconst (pc := 121) (v := 0) dX3_copyFrom_121 rfl (sn_aload_n (pc := 122) (i := 0) dX3_copyFrom_122 rfl (sn_gR (r0 := 6) (pc := 123) (h := 1) (f := 11) dX3_copyFrom_123 am_CL_3 sh_1 rfl (Nat.le_of_ble_eq_true rfl) tw_111 (sn_iconst (pc := 126) (v := 0) dX3_copyFrom_126 rfl (sn_iconst (pc := 127) (v := 4) dX3_copyFrom_127 rfl (sn_cpy (pc := 128) (src := 23) (dst := 6) (n := 4) (v := 4) dX3_copyFrom_128 sh_23 sh_6 tw_300 tw_302 tw_301 tw_13 (by decide) (by decide) (sn_aload_n (pc := 131) (i := 1) dX3_copyFrom_131 rfl (sn_gR (r0 := 24) (pc := 132) (h := 18) (f := 12) dX3_copyFrom_132 am_CL_3 sh_18 rfl (Nat.le_of_ble_eq_true rfl) tw_112 (sn_iconst (pc := 135) (v := 0) dX3_copyFrom_135 rfl (sn_aload_n (pc := 136) (i := 0) dX3_copyFrom_136 rfl (sn_gR (r0 := 7) (pc := 137) (h := 1) (f := 12) dX3_copyFrom_137 am_CL_3 sh_1 rfl (Nat.le_of_ble_eq_true rfl) tw_112 (sn_iconst (pc := 140) (v := 0) dX3_copyFrom_140 rfl (sn_bipush (pc := 141) (v := 24) dX3_copyFrom_141 rfl (sn_cpy (pc := 143) (src := 24) (dst := 7) (n := 24) (v := 24) dX3_copyFrom_143 sh_24 sh_7 tw_300 tw_302 tw_301 tw_13 (by decide) (by decide) (sn_lf (pc := 146) (ln_a (i := 0) (q := 1) (ln_a (i := 1) (q := 18) (ln_end (o := fun τ => f_H_copyFrom_1_18_146 τ) (fun _ _ _ e h => s_H_copyFrom_1_18_146 G  _ _ _ e h)))))))))))))))))))))) _ _ _ _ _ ((eq_H_copyFrom_1_18_117  σ).symm.trans e) hr
noncomputable def g_H_copyFrom_1_18_89 (σ : am_St) : Option (am_St) :=
  let s1 := am_rI σ 4 (va_cpy (σ.1 21) (σ.1 4) 0 0 4)
  let s2 := am_rI s1 5 (va_cpy (s1.1 22) (s1.1 5) 0 0 4)
  f_H_copyFrom_1_18_117 s2
noncomputable def f_H_copyFrom_1_18_89 (σ : am_St) : Option (am_St) := am_lk (g_H_copyFrom_1_18_89  σ)
theorem eq_H_copyFrom_1_18_89 (σ : am_St) : f_H_copyFrom_1_18_89  σ = g_H_copyFrom_1_18_89  σ := am_lk_eq _
set_option maxRecDepth 100000 in
set_option maxHeartbeats 4000000 in
theorem s_H_copyFrom_1_18_89 (G : am_G) (σ : am_St) (r : am_St) (Q : am_AQ) (e : f_H_copyFrom_1_18_89  σ = some r) (hr : am_Pv r Q) : am_AW G M_H_copyFrom 89 [(1, .ref 18), (0, .ref 1)] [] σ Q :=
  (show am_Snd G M_H_copyFrom 89 am_Pv _ from (sn_aload_n (pc := 89) (i := 1) dX3_copyFrom_89 rfl (sn_gR (r0 := 21) (pc := 90) (h := 18) (f := 9) dX3_copyFrom_90 am_CL_3 sh_18 rfl (Nat.le_of_ble_eq_true rfl) tw_109 (sn_iconst (pc := 93) (v := 0) dX3_copyFrom_93 rfl (sn_aload_n (pc := 94) (i := 0) dX3_copyFrom_94 rfl (sn_gR (r0 := 4) (pc := 95) (h := 1) (f := 9) dX3_copyFrom_95 am_CL_3 sh_1 rfl (Nat.le_of_ble_eq_true rfl) tw_109 (sn_iconst (pc := 98) (v := 0) dX3_copyFrom_98 rfl (sn_iconst (pc := 99) (v := 4) dX3_copyFrom_99 rfl (sn_cpy (pc := 100) (src := 21) (dst := 4) (n := 4) (v := 4) dX3_copyFrom_100 sh_21 sh_4 tw_300 tw_302 tw_301 tw_13 (by decide) (by decide) (sn_aload_n (pc := 103) (i := 1) dX3_copyFrom_103 rfl (sn_gR (r0 := 22) (pc := 104) (h := 18) (f := 10) dX3_copyFrom_104 am_CL_3 sh_18 rfl (Nat.le_of_ble_eq_true rfl) tw_110 (sn_iconst (pc := 107) (v := 0) dX3_copyFrom_107 rfl (sn_aload_n (pc := 108) (i := 0) dX3_copyFrom_108 rfl (sn_gR (r0 := 5) (pc := 109) (h := 1) (f := 10) dX3_copyFrom_109 am_CL_3 sh_1 rfl (Nat.le_of_ble_eq_true rfl) tw_110 (sn_iconst (pc := 112) (v := 0) dX3_copyFrom_112 rfl (sn_iconst (pc := 113) (v := 4) dX3_copyFrom_113 rfl (sn_cpy (pc := 114) (src := 22) (dst := 5) (n := 4) (v := 4) dX3_copyFrom_114 sh_22 sh_5 tw_300 tw_302 tw_301 tw_13 (by decide) (by decide) (sn_lf (pc := 117) (ln_a (i := 0) (q := 1) (ln_a (i := 1) (q := 18) (ln_end (o := fun τ => f_H_copyFrom_1_18_117 τ) (fun _ _ _ e h => s_H_copyFrom_1_18_117 G  _ _ _ e h)))))))))))))))))))))) _ _ _ _ _ ((eq_H_copyFrom_1_18_89  σ).symm.trans e) hr
noncomputable def g_H_copyFrom_1_18_45 (σ : am_St) : Option (am_St) :=
  let s1 := am_sI σ 1 5 (σ.1 18 5)
  let s2 := am_sI s1 1 6 (s1.1 18 6)
  let s3 := am_rI s2 2 (va_cpy (s2.1 19) (s2.1 2) 0 0 4)
  let s4 := am_rI s3 3 (va_cpy (s3.1 20) (s3.1 3) 0 0 4)
  f_H_copyFrom_1_18_89 s4
noncomputable def f_H_copyFrom_1_18_45 (σ : am_St) : Option (am_St) := am_lk (g_H_copyFrom_1_18_45  σ)
theorem eq_H_copyFrom_1_18_45 (σ : am_St) : f_H_copyFrom_1_18_45  σ = g_H_copyFrom_1_18_45  σ := am_lk_eq _
set_option maxRecDepth 100000 in
set_option maxHeartbeats 4000000 in
theorem s_H_copyFrom_1_18_45 (G : am_G) (σ : am_St) (r : am_St) (Q : am_AQ) (e : f_H_copyFrom_1_18_45  σ = some r) (hr : am_Pv r Q) : am_AW G M_H_copyFrom 45 [(1, .ref 18), (0, .ref 1)] [] σ Q :=
  (show am_Snd G M_H_copyFrom 45 am_Pv _ from (sn_aload_n (pc := 45) (i := 0) dX3_copyFrom_45 rfl (sn_aload_n (pc := 46) (i := 1) dX3_copyFrom_46 rfl (sn_gI (pc := 47) (h := 18) (f := 5) dX3_copyFrom_47 am_CL_3 sh_18 rfl (Nat.le_of_ble_eq_true rfl) tw_100 (sn_pI (pc := 50) (h := 1) (f := 5) dX3_copyFrom_50 am_CL_3 sh_1 rfl (Nat.le_of_ble_eq_true rfl) tw_100 rfl rfl (sn_aload_n (pc := 53) (i := 0) dX3_copyFrom_53 rfl (sn_aload_n (pc := 54) (i := 1) dX3_copyFrom_54 rfl (sn_gI (pc := 55) (h := 18) (f := 6) dX3_copyFrom_55 am_CL_3 sh_18 rfl (Nat.le_of_ble_eq_true rfl) tw_103 (sn_pI (pc := 58) (h := 1) (f := 6) dX3_copyFrom_58 am_CL_3 sh_1 rfl (Nat.le_of_ble_eq_true rfl) tw_103 rfl rfl (sn_aload_n (pc := 61) (i := 1) dX3_copyFrom_61 rfl (sn_gR (r0 := 19) (pc := 62) (h := 18) (f := 7) dX3_copyFrom_62 am_CL_3 sh_18 rfl (Nat.le_of_ble_eq_true rfl) tw_107 (sn_iconst (pc := 65) (v := 0) dX3_copyFrom_65 rfl (sn_aload_n (pc := 66) (i := 0) dX3_copyFrom_66 rfl (sn_gR (r0 := 2) (pc := 67) (h := 1) (f := 7) dX3_copyFrom_67 am_CL_3 sh_1 rfl (Nat.le_of_ble_eq_true rfl) tw_107 (sn_iconst (pc := 70) (v := 0) dX3_copyFrom_70 rfl (sn_iconst (pc := 71) (v := 4) dX3_copyFrom_71 rfl (sn_cpy (pc := 72) (src := 19) (dst := 2) (n := 4) (v := 4) dX3_copyFrom_72 sh_19 sh_2 tw_300 tw_302 tw_301 tw_13 (by decide) (by decide) (sn_aload_n (pc := 75) (i := 1) dX3_copyFrom_75 rfl (sn_gR (r0 := 20) (pc := 76) (h := 18) (f := 8) dX3_copyFrom_76 am_CL_3 sh_18 rfl (Nat.le_of_ble_eq_true rfl) tw_108 (sn_iconst (pc := 79) (v := 0) dX3_copyFrom_79 rfl (sn_aload_n (pc := 80) (i := 0) dX3_copyFrom_80 rfl (sn_gR (r0 := 3) (pc := 81) (h := 1) (f := 8) dX3_copyFrom_81 am_CL_3 sh_1 rfl (Nat.le_of_ble_eq_true rfl) tw_108 (sn_iconst (pc := 84) (v := 0) dX3_copyFrom_84 rfl (sn_iconst (pc := 85) (v := 4) dX3_copyFrom_85 rfl (sn_cpy (pc := 86) (src := 20) (dst := 3) (n := 4) (v := 4) dX3_copyFrom_86 sh_20 sh_3 tw_300 tw_302 tw_301 tw_13 (by decide) (by decide) (sn_lf (pc := 89) (ln_a (i := 0) (q := 1) (ln_a (i := 1) (q := 18) (ln_end (o := fun τ => f_H_copyFrom_1_18_89 τ) (fun _ _ _ e h => s_H_copyFrom_1_18_89 G  _ _ _ e h)))))))))))))))))))))))))))))) _ _ _ _ _ ((eq_H_copyFrom_1_18_45  σ).symm.trans e) hr
noncomputable def g_H_copyFrom_1_18 (σ : am_St) : Option (am_St) :=
  let s1 := am_sI σ 1 0 (σ.1 18 0)
  let s2 := am_sI s1 1 1 (s1.1 18 1)
  let s3 := am_sI s2 1 2 (s2.1 18 2)
  let s4 := am_sI s3 1 3 (s3.1 18 3)
  let s5 := am_sI s4 1 4 (s4.1 18 4)
  f_H_copyFrom_1_18_45 s5
noncomputable def f_H_copyFrom_1_18 (σ : am_St) : Option (am_St) := am_lk (g_H_copyFrom_1_18  σ)
theorem eq_H_copyFrom_1_18 (σ : am_St) : f_H_copyFrom_1_18  σ = g_H_copyFrom_1_18  σ := am_lk_eq _
set_option maxRecDepth 100000 in
set_option maxHeartbeats 4000000 in
theorem s_H_copyFrom_1_18 (G : am_G) (σ : am_St) (r : am_St) (Q : am_AQ) (e : f_H_copyFrom_1_18  σ = some r) (hr : am_Pv r Q) : am_AW G M_H_copyFrom 0 [(0, .ref 1), (1, .ref 18)] [] σ Q :=
  (show am_Snd G M_H_copyFrom 0 am_Pv _ from (sn_aload_n (pc := 0) (i := 1) dX3_copyFrom_0 rfl (sn_ifnn (pc := 1) (tgt := 5) dX3_copyFrom_1 rfl (sn_aload_n (pc := 5) (i := 0) dX3_copyFrom_5 rfl (sn_aload_n (pc := 6) (i := 1) dX3_copyFrom_6 rfl (sn_gI (pc := 7) (h := 18) (f := 0) dX3_copyFrom_7 am_CL_3 sh_18 rfl (Nat.le_of_ble_eq_true rfl) tw_75 (sn_pI (pc := 10) (h := 1) (f := 0) dX3_copyFrom_10 am_CL_3 sh_1 rfl (Nat.le_of_ble_eq_true rfl) tw_75 rfl rfl (sn_aload_n (pc := 13) (i := 0) dX3_copyFrom_13 rfl (sn_aload_n (pc := 14) (i := 1) dX3_copyFrom_14 rfl (sn_gI (pc := 15) (h := 18) (f := 1) dX3_copyFrom_15 am_CL_3 sh_18 rfl (Nat.le_of_ble_eq_true rfl) tw_78 (sn_pI (pc := 18) (h := 1) (f := 1) dX3_copyFrom_18 am_CL_3 sh_1 rfl (Nat.le_of_ble_eq_true rfl) tw_78 rfl rfl (sn_aload_n (pc := 21) (i := 0) dX3_copyFrom_21 rfl (sn_aload_n (pc := 22) (i := 1) dX3_copyFrom_22 rfl (sn_gI (pc := 23) (h := 18) (f := 2) dX3_copyFrom_23 am_CL_3 sh_18 rfl (Nat.le_of_ble_eq_true rfl) tw_83 (sn_pI (pc := 26) (h := 1) (f := 2) dX3_copyFrom_26 am_CL_3 sh_1 rfl (Nat.le_of_ble_eq_true rfl) tw_83 rfl rfl (sn_aload_n (pc := 29) (i := 0) dX3_copyFrom_29 rfl (sn_aload_n (pc := 30) (i := 1) dX3_copyFrom_30 rfl (sn_gI (pc := 31) (h := 18) (f := 3) dX3_copyFrom_31 am_CL_3 sh_18 rfl (Nat.le_of_ble_eq_true rfl) tw_88 (sn_pI (pc := 34) (h := 1) (f := 3) dX3_copyFrom_34 am_CL_3 sh_1 rfl (Nat.le_of_ble_eq_true rfl) tw_88 rfl rfl (sn_aload_n (pc := 37) (i := 0) dX3_copyFrom_37 rfl (sn_aload_n (pc := 38) (i := 1) dX3_copyFrom_38 rfl (sn_gI (pc := 39) (h := 18) (f := 4) dX3_copyFrom_39 am_CL_3 sh_18 rfl (Nat.le_of_ble_eq_true rfl) tw_94 (sn_pI (pc := 42) (h := 1) (f := 4) dX3_copyFrom_42 am_CL_3 sh_1 rfl (Nat.le_of_ble_eq_true rfl) tw_94 rfl rfl (sn_lf (pc := 45) (ln_a (i := 0) (q := 1) (ln_a (i := 1) (q := 18) (ln_end (o := fun τ => f_H_copyFrom_1_18_45 τ) (fun _ _ _ e h => s_H_copyFrom_1_18_45 G  _ _ _ e h)))))))))))))))))))))))))))) _ _ _ _ _ ((eq_H_copyFrom_1_18  σ).symm.trans e) hr
noncomputable def cF_H_copyFrom_1_18 : am_Fn := fun _ args σ K => match args with
  | [.ref q0, .ref q1] => match Nat.beq q0 1, Nat.beq q1 18 with
    | true, true => (f_H_copyFrom_1_18 σ).bind (fun p => K none p)
    | _, _ => none
  | _ => none
theorem cal_H_copyFrom_1_18 (G : am_G) : am_Cal G M_H_copyFrom cF_H_copyFrom_1_18 := by
  intro ρ args σ K r e
  unfold cF_H_copyFrom_1_18 at e
  split at e
  · split at e
    · rename_i hq0 hq1
      obtain ⟨p, h1, h2⟩ := am_bind_some e
      rw [Nat.eq_of_beq_eq_true hq0]
      rw [Nat.eq_of_beq_eq_true hq1]
      exact ⟨none, p, am_Met.of rfl (Nat.le_of_ble_eq_true rfl) (s_H_copyFrom_1_18 G  σ p _ h1 ⟨rfl, rfl⟩), h2⟩
    · cases e
  · cases e
abbrev M_X_restore : am_MD := (yX11_restore, cX11_restore, 1, (some .int), 2, 39)
theorem dX11_restore_0 : decode cX11_restore 0 = .ok (.aload_n 0, 1) := by decide +kernel
theorem dX11_restore_1 : decode cX11_restore 1 = .ok (.getfield 19, 3) := by decide +kernel
theorem dX11_restore_4 : decode cX11_restore 4 = .ok (.ifCond .ne 10, 3) := by decide +kernel
theorem dX11_restore_7 : decode cX11_restore 7 = .ok (.aload_n 0, 1) := by decide +kernel
theorem dX11_restore_8 : decode cX11_restore 8 = .ok (.bipush (-3), 2) := by decide +kernel
theorem dX11_restore_10 : decode cX11_restore 10 = .ok (.invokevirtual 55, 3) := by decide +kernel
theorem dX11_restore_13 : decode cX11_restore 13 = .ok (.ireturn, 1) := by decide +kernel
theorem dX11_restore_14 : decode cX11_restore 14 = .ok (.aload_n 0, 1) := by decide +kernel
theorem dX11_restore_15 : decode cX11_restore 15 = .ok (.getfield 10, 3) := by decide +kernel
theorem dX11_restore_18 : decode cX11_restore 18 = .ok (.aload_n 0, 1) := by decide +kernel
theorem dX11_restore_19 : decode cX11_restore 19 = .ok (.getfield 16, 3) := by decide +kernel
theorem dX11_restore_22 : decode cX11_restore 22 = .ok (.invokevirtual 74, 3) := by decide +kernel
theorem dX11_restore_25 : decode cX11_restore 25 = .ok (.aload_n 0, 1) := by decide +kernel
theorem dX11_restore_26 : decode cX11_restore 26 = .ok (.getfield 10, 3) := by decide +kernel
theorem dX11_restore_29 : decode cX11_restore 29 = .ok (.getfield 135, 3) := by decide +kernel
theorem dX11_restore_32 : decode cX11_restore 32 = .ok (.ireturn, 1) := by decide +kernel
noncomputable def g_X_restore (σ : am_St) : Option (Int32 × am_St) :=
  if (σ.1 0 2) = 0 then
    (f_X_refuse (-3) σ).bind (fun p2 =>
      some ((p2.1, p2.2)))
  else
    (f_H_copyFrom_1_18 σ).bind (fun p1 =>
      some ((p1.1 1 5, p1)))
noncomputable def f_X_restore (σ : am_St) : Option (Int32 × am_St) := am_lk (g_X_restore  σ)
theorem eq_X_restore (σ : am_St) : f_X_restore  σ = g_X_restore  σ := am_lk_eq _
set_option maxRecDepth 100000 in
set_option maxHeartbeats 4000000 in
theorem s_X_restore (G : am_G) (σ : am_St) (r : Int32 × am_St) (Q : am_AQ) (e : f_X_restore  σ = some r) (hr : am_Pi r Q) : am_AW G M_X_restore 0 [(0, .ref 0)] [] σ Q :=
  (show am_Snd G M_X_restore 0 am_Pi _ from (sn_aload_n (pc := 0) (i := 0) dX11_restore_0 rfl (sn_gI (pc := 1) (h := 0) (f := 2) dX11_restore_1 am_CL_10 sh_0 rfl (Nat.le_of_ble_eq_true rfl) tw_221 (sn_if_ne (pc := 4) (tgt := 14) dX11_restore_4 rfl (sn_aload_n (pc := 14) (i := 0) dX11_restore_14 rfl (sn_gR (r0 := 1) (pc := 15) (h := 0) (f := 0) dX11_restore_15 am_CL_10 sh_0 rfl (Nat.le_of_ble_eq_true rfl) tw_219 (sn_aload_n (pc := 18) (i := 0) dX11_restore_18 rfl (sn_gR (r0 := 18) (pc := 19) (h := 0) (f := 1) dX11_restore_19 am_CL_10 sh_0 rfl (Nat.le_of_ble_eq_true rfl) tw_220 (sn_callV (pc := 22) (N := M_H_copyFrom) dX11_restore_22 (cal_H_copyFrom_1_18 G) sh_1 rfl tw_425 tw_297 tw_298 tw_2 tw_299 dsc_X3_copyFrom rfl (sn_aload_n (pc := 25) (i := 0) dX11_restore_25 rfl (sn_gR (r0 := 1) (pc := 26) (h := 0) (f := 0) dX11_restore_26 am_CL_10 sh_0 rfl (Nat.le_of_ble_eq_true rfl) tw_219 (sn_gI (pc := 29) (h := 1) (f := 5) dX11_restore_29 am_CL_3 sh_1 rfl (Nat.le_of_ble_eq_true rfl) tw_102 (sn_reti (pc := 32) (R := fun x τ => (some ((x, τ)))) dX11_restore_32 rfl (fun _ _ _ _ e h => by cases e; exact h)))))))))) (sn_aload_n (pc := 7) (i := 0) dX11_restore_7 rfl (sn_bipush (pc := 8) (v := (-3)) dX11_restore_8 (show (Int8.ofInt (-3)).toInt32 = (-3) by decide) (sn_callV (pc := 10) (N := M_X_refuse) dX11_restore_10 (cal_X_refuse G) sh_0 rfl tw_251 tw_253 tp_0 tw_1 tw_254 dsc_X11_refuse rfl (sn_reti (pc := 13) (R := fun x τ => (some ((x, τ)))) dX11_restore_13 rfl (fun _ _ _ _ e h => by cases e; exact h))))))))) _ _ _ _ _ ((eq_X_restore  σ).symm.trans e) hr
noncomputable def cF_X_restore : am_Fn := fun _ args σ K => match args with
  | [.ref q0] => match Nat.beq q0 0 with
    | true => (f_X_restore σ).bind (fun p => K (some (.int p.1)) p.2)
    | _ => none
  | _ => none
theorem cal_X_restore (G : am_G) : am_Cal G M_X_restore cF_X_restore := by
  intro ρ args σ K r e
  unfold cF_X_restore at e
  split at e
  · split at e
    · rename_i hq0
      obtain ⟨p, h1, h2⟩ := am_bind_some e
      rw [Nat.eq_of_beq_eq_true hq0]
      exact ⟨some (.int p.1), p.2, am_Met.of rfl (Nat.le_of_ble_eq_true rfl) (s_X_restore G  σ p _ h1 ⟨rfl, rfl⟩), h2⟩
    · cases e
  · cases e
