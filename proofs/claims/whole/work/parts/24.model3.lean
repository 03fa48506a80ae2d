abbrev M_M_child : am_MD := (yX12_child, cX12_child, 3, (some .int), 2, 46)
theorem dX12_child_0 : decode cX12_child 0 = .ok (.aload_n 0, 1) := by decide +kernel
theorem dX12_child_1 : decode cX12_child 1 = .ok (.iconst 0, 1) := by decide +kernel
theorem dX12_child_2 : decode cX12_child 2 = .ok (.putfield 102, 3) := by decide +kernel
theorem dX12_child_5 : decode cX12_child 5 = .ok (.aload_n 0, 1) := by decide +kernel
theorem dX12_child_6 : decode cX12_child 6 = .ok (.iload_n 1, 1) := by decide +kernel
theorem dX12_child_7 : decode cX12_child 7 = .ok (.invokevirtual 203, 3) := by decide +kernel
theorem dX12_child_10 : decode cX12_child 10 = .ok (.ifCond .eq 15, 3) := by decide +kernel
theorem dX12_child_13 : decode cX12_child 13 = .ok (.iload_n 2, 1) := by decide +kernel
theorem dX12_child_14 : decode cX12_child 14 = .ok (.i2l, 1) := by decide +kernel
theorem dX12_child_15 : decode cX12_child 15 = .ok (.lconst 0, 1) := by decide +kernel
theorem dX12_child_16 : decode cX12_child 16 = .ok (.ldc2_w 260, 3) := by decide +kernel
theorem dX12_child_19 : decode cX12_child 19 = .ok (.invokestatic 108, 3) := by decide +kernel
theorem dX12_child_22 : decode cX12_child 22 = .ok (.ifCond .ne 22, 3) := by decide +kernel
theorem dX12_child_25 : decode cX12_child 25 = .ok (.aload_n 0, 1) := by decide +kernel
theorem dX12_child_26 : decode cX12_child 26 = .ok (.aload_n 0, 1) := by decide +kernel
theorem dX12_child_27 : decode cX12_child 27 = .ok (.iload_n 1, 1) := by decide +kernel
theorem dX12_child_28 : decode cX12_child 28 = .ok (.invokevirtual 203, 3) := by decide +kernel
theorem dX12_child_31 : decode cX12_child 31 = .ok (.ifCond .eq 8, 3) := by decide +kernel
theorem dX12_child_34 : decode cX12_child 34 = .ok (.bipush (-2), 2) := by decide +kernel
theorem dX12_child_36 : decode cX12_child 36 = .ok (.goto 4, 3) := by decide +kernel
theorem dX12_child_39 : decode cX12_child 39 = .ok (.iconst (-1), 1) := by decide +kernel
theorem dX12_child_40 : decode cX12_child 40 = .ok (.invokevirtual 154, 3) := by decide +kernel
theorem dX12_child_43 : decode cX12_child 43 = .ok (.ireturn, 1) := by decide +kernel
theorem dX12_child_44 : decode cX12_child 44 = .ok (.iload_n 2, 1) := by decide +kernel
theorem dX12_child_45 : decode cX12_child 45 = .ok (.tableswitch 69 0 4 #[35, 42, 49, 56, 63], 35) := by decide +kernel
theorem dX12_child_80 : decode cX12_child 80 = .ok (.aload_n 0, 1) := by decide +kernel
theorem dX12_child_81 : decode cX12_child 81 = .ok (.getfield 20, 3) := by decide +kernel
theorem dX12_child_84 : decode cX12_child 84 = .ok (.iload_n 1, 1) := by decide +kernel
theorem dX12_child_85 : decode cX12_child 85 = .ok (.iaload, 1) := by decide +kernel
theorem dX12_child_86 : decode cX12_child 86 = .ok (.ireturn, 1) := by decide +kernel
theorem dX12_child_87 : decode cX12_child 87 = .ok (.aload_n 0, 1) := by decide +kernel
theorem dX12_child_88 : decode cX12_child 88 = .ok (.getfield 23, 3) := by decide +kernel
theorem dX12_child_91 : decode cX12_child 91 = .ok (.iload_n 1, 1) := by decide +kernel
theorem dX12_child_92 : decode cX12_child 92 = .ok (.iaload, 1) := by decide +kernel
theorem dX12_child_93 : decode cX12_child 93 = .ok (.ireturn, 1) := by decide +kernel
theorem dX12_child_94 : decode cX12_child 94 = .ok (.aload_n 0, 1) := by decide +kernel
theorem dX12_child_95 : decode cX12_child 95 = .ok (.getfield 26, 3) := by decide +kernel
theorem dX12_child_98 : decode cX12_child 98 = .ok (.iload_n 1, 1) := by decide +kernel
theorem dX12_child_99 : decode cX12_child 99 = .ok (.iaload, 1) := by decide +kernel
theorem dX12_child_100 : decode cX12_child 100 = .ok (.ireturn, 1) := by decide +kernel
theorem dX12_child_101 : decode cX12_child 101 = .ok (.aload_n 0, 1) := by decide +kernel
theorem dX12_child_102 : decode cX12_child 102 = .ok (.getfield 29, 3) := by decide +kernel
theorem dX12_child_105 : decode cX12_child 105 = .ok (.iload_n 1, 1) := by decide +kernel
theorem dX12_child_106 : decode cX12_child 106 = .ok (.iaload, 1) := by decide +kernel
theorem dX12_child_107 : decode cX12_child 107 = .ok (.ireturn, 1) := by decide +kernel
theorem dX12_child_108 : decode cX12_child 108 = .ok (.aload_n 0, 1) := by decide +kernel
theorem dX12_child_109 : decode cX12_child 109 = .ok (.iload_n 1, 1) := by decide +kernel
theorem dX12_child_110 : decode cX12_child 110 = .ok (.invokevirtual 262, 3) := by decide +kernel
theorem dX12_child_113 : decode cX12_child 113 = .ok (.ireturn, 1) := by decide +kernel
theorem dX12_child_114 : decode cX12_child 114 = .ok (.aload_n 0, 1) := by decide +kernel
theorem dX12_child_115 : decode cX12_child 115 = .ok (.iload_n 1, 1) := by decide +kernel
theorem dX12_child_116 : decode cX12_child 116 = .ok (.invokevirtual 265, 3) := by decide +kernel
theorem dX12_child_119 : decode cX12_child 119 = .ok (.ireturn, 1) := by decide +kernel
noncomputable def g_M_child_40 (y1 : Int32) (σ : am_St) : Option (Int32 × am_St) :=
  (f_M_refuse y1 σ).bind (fun p1 =>
    some ((p1.1, p1.2)))
noncomputable def f_M_child_40 (y1 : Int32) (σ : am_St) : Option (Int32 × am_St) := am_lk (g_M_child_40 y1 σ)
theorem eq_M_child_40 (y1 : Int32) (σ : am_St) : f_M_child_40 y1 σ = g_M_child_40 y1 σ := am_lk_eq _
set_option maxRecDepth 100000 in
set_option maxHeartbeats 4000000 in
theorem s_M_child_40 (G : am_G) (y1 : Int32) (σ : am_St) (r : Int32 × am_St) (Q : am_AQ) (e : f_M_child_40 y1 σ = some r) (hr : am_Pi r Q) : am_AW G M_M_child 40 [] [.int y1, .ref 66] σ Q :=
  (show am_Snd G M_M_child 40 am_Pi _ from (sn_callV (pc := 40) (N := M_M_refuse) dX12_child_40 (cal_M_refuse G) sh_66 rfl tw_1090 tw_1092 tp_23 tw_12 tw_1093 dsc_X12_refuse rfl (sn_reti (pc := 43) (R := fun x τ => (some ((x, τ)))) dX12_child_43 rfl (fun _ _ _ _ e h => by cases e; exact h)))) _ _ _ _ _ ((eq_M_child_40 y1 σ).symm.trans e) hr
noncomputable def g_M_child_25 (x1 : Int32) (σ : am_St) : Option (Int32 × am_St) :=
  (f_M_isChild x1 σ).bind (fun p1 =>
    if p1.1 = 0 then
      f_M_child_40 ((-1)) p1.2
    else
      f_M_child_40 ((-2)) p1.2)
noncomputable def f_M_child_25 (x1 : Int32) (σ : am_St) : Option (Int32 × am_St) := am_lk (g_M_child_25 x1 σ)
theorem eq_M_child_25 (x1 : Int32) (σ : am_St) : f_M_child_25 x1 σ = g_M_child_25 x1 σ := am_lk_eq _
set_option maxRecDepth 100000 in
set_option maxHeartbeats 4000000 in
theorem s_M_child_25 (G : am_G) (x1 : Int32) (σ : am_St) (r : Int32 × am_St) (Q : am_AQ) (e : f_M_child_25 x1 σ = some r) (hr : am_Pi r Q) : am_AW G M_M_child 25 [(1, .int x1), (0, .ref 66)] [] σ Q :=
  (show am_Snd G M_M_child 25 am_Pi _ from (sn_aload_n (pc := 25) (i := 0) dX12_child_25 rfl (sn_aload_n (pc := 26) (i := 0) dX12_child_26 rfl (sn_iload_n (pc := 27) (i := 1) dX12_child_27 rfl (sn_callV (pc := 28) (N := M_M_isChild) dX12_child_28 (cal_M_isChild G) sh_66 rfl tw_1181 tw_1183 tp_42 tw_12 tw_1184 dsc_X12_isChild rfl (sn_if_eq (pc := 31) (tgt := 39) dX12_child_31 rfl (sn_iconst (pc := 39) (v := (-1)) dX12_child_39 (show Int32.ofInt (-1) = (-1) by decide) (sn_lf (pc := 40) (ln_si (fun w1 => (ln_sa (q := 66) (ln_end (o := fun τ => f_M_child_40 w1 τ) (fun _ _ _ e h => s_M_child_40 G w1 _ _ _ e h))))))) (sn_bipush (pc := 34) (v := (-2)) dX12_child_34 (show (Int8.ofInt (-2)).toInt32 = (-2) by decide) (sn_goto (pc := 36) (tgt := 40) dX12_child_36 rfl (sn_lf (pc := 40) (ln_si (fun w1 => (ln_sa (q := 66) (ln_end (o := fun τ => f_M_child_40 w1 τ) (fun _ _ _ e h => s_M_child_40 G w1 _ _ _ e h)))))))))))))) _ _ _ _ _ ((eq_M_child_25 x1 σ).symm.trans e) hr
noncomputable def g_M_child_44 (x1 : Int32) (x2 : Int32) (σ : am_St) : Option (Int32 × am_St) :=
  if x2 = 0 then
    if am_ix x1 4 = true then
      some ((σ.1 68 x1.toNatClampNeg, σ))
    else none
  else
  if x2 = 1 then
    if am_ix x1 4 = true then
      some ((σ.1 69 x1.toNatClampNeg, σ))
    else none
  else
  if x2 = 2 then
    if am_ix x1 4 = true then
      some ((σ.1 70 x1.toNatClampNeg, σ))
    else none
  else
  if x2 = 3 then
    if am_ix x1 4 = true then
      some ((σ.1 71 x1.toNatClampNeg, σ))
    else none
  else
  if x2 = 4 then
    (f_M_guiltOf x1 σ).bind (fun p1 =>
      some ((p1.1, p1.2)))
  else
  (f_M_slipsOf x1 σ).bind (fun p2 =>
    some ((p2.1, p2.2)))
noncomputable def f_M_child_44 (x1 : Int32) (x2 : Int32) (σ : am_St) : Option (Int32 × am_St) := am_lk (g_M_child_44 x1 x2 σ)
theorem eq_M_child_44 (x1 : Int32) (x2 : Int32) (σ : am_St) : f_M_child_44 x1 x2 σ = g_M_child_44 x1 x2 σ := am_lk_eq _
set_option maxRecDepth 100000 in
set_option maxHeartbeats 4000000 in
theorem s_M_child_44 (G : am_G) (x1 : Int32) (x2 : Int32) (σ : am_St) (r : Int32 × am_St) (Q : am_AQ) (e : f_M_child_44 x1 x2 σ = some r) (hr : am_Pi r Q) : am_AW G M_M_child 44 [(2, .int x2), (1, .int x1), (0, .ref 66)] [] σ Q :=
  (show am_Snd G M_M_child 44 am_Pi _ from (sn_iload_n (pc := 44) (i := 2) dX12_child_44 rfl (sn_tsw (pc := 45) (dt := 114) (vs := [0, 1, 2, 3, 4]) (ts := [80, 87, 94, 101, 108]) dX12_child_45 (by decide +kernel) (sn_aload_n (pc := 114) (i := 0) dX12_child_114 rfl (sn_iload_n (pc := 115) (i := 1) dX12_child_115 rfl (sn_callV (pc := 116) (N := M_M_slipsOf) dX12_child_116 (cal_M_slipsOf G) sh_66 rfl tw_1214 tw_1216 tp_47 tw_12 tw_1217 dsc_X12_slipsOf rfl (sn_reti (pc := 119) (R := fun x τ => (some ((x, τ)))) dX12_child_119 rfl (fun _ _ _ _ e h => by cases e; exact h))))) (am_all_cons (sn_aload_n (pc := 80) (i := 0) dX12_child_80 rfl (sn_gR (r0 := 68) (pc := 81) (h := 66) (f := 8) dX12_child_81 am_CL_11 sh_66 rfl (Nat.le_of_ble_eq_true rfl) tw_949 (sn_iload_n (pc := 84) (i := 1) dX12_child_84 rfl (sn_aI (pc := 85) (h := 68) dX12_child_85 sh_68 (sn_reti (pc := 86) (R := fun x τ => (some ((x, τ)))) dX12_child_86 rfl (fun _ _ _ _ e h => by cases e; exact h)))))) (am_all_cons (sn_aload_n (pc := 87) (i := 0) dX12_child_87 rfl (sn_gR (r0 := 69) (pc := 88) (h := 66) (f := 9) dX12_child_88 am_CL_11 sh_66 rfl (Nat.le_of_ble_eq_true rfl) tw_950 (sn_iload_n (pc := 91) (i := 1) dX12_child_91 rfl (sn_aI (pc := 92) (h := 69) dX12_child_92 sh_69 (sn_reti (pc := 93) (R := fun x τ => (some ((x, τ)))) dX12_child_93 rfl (fun _ _ _ _ e h => by cases e; exact h)))))) (am_all_cons (sn_aload_n (pc := 94) (i := 0) dX12_child_94 rfl (sn_gR (r0 := 70) (pc := 95) (h := 66) (f := 10) dX12_child_95 am_CL_11 sh_66 rfl (Nat.le_of_ble_eq_true rfl) tw_951 (sn_iload_n (pc := 98) (i := 1) dX12_child_98 rfl (sn_aI (pc := 99) (h := 70) dX12_child_99 sh_70 (sn_reti (pc := 100) (R := fun x τ => (some ((x, τ)))) dX12_child_100 rfl (fun _ _ _ _ e h => by cases e; exact h)))))) (am_all_cons (sn_aload_n (pc := 101) (i := 0) dX12_child_101 rfl (sn_gR (r0 := 71) (pc := 102) (h := 66) (f := 11) dX12_child_102 am_CL_11 sh_66 rfl (Nat.le_of_ble_eq_true rfl) tw_952 (sn_iload_n (pc := 105) (i := 1) dX12_child_105 rfl (sn_aI (pc := 106) (h := 71) dX12_child_106 sh_71 (sn_reti (pc := 107) (R := fun x τ => (some ((x, τ)))) dX12_child_107 rfl (fun _ _ _ _ e h => by cases e; exact h)))))) (am_all_cons (sn_aload_n (pc := 108) (i := 0) dX12_child_108 rfl (sn_iload_n (pc := 109) (i := 1) dX12_child_109 rfl (sn_callV (pc := 110) (N := M_M_guiltOf) dX12_child_110 (cal_M_guiltOf G) sh_66 rfl tw_1210 tw_1212 tp_46 tw_12 tw_1213 dsc_X12_guiltOf rfl (sn_reti (pc := 113) (R := fun x τ => (some ((x, τ)))) dX12_child_113 rfl (fun _ _ _ _ e h => by cases e; exact h))))) am_all_nil)))))))) _ _ _ _ _ ((eq_M_child_44 x1 x2 σ).symm.trans e) hr
noncomputable def g_M_child (x1 : Int32) (x2 : Int32) (σ : am_St) : Option (Int32 × am_St) :=
  let s1 := am_sI σ 66 22 0
  (f_M_isChild x1 s1).bind (fun p2 =>
    if p2.1 = 0 then
      f_M_child_25 x1 p2.2
    else
      (f_M_in x2.toInt64 0 5 p2.2).bind (fun p3 =>
        if p3.1 = 0 then
          f_M_child_25 x1 p3.2
        else
          f_M_child_44 x1 x2 p3.2))
noncomputable def f_M_child (x1 : Int32) (x2 : Int32) (σ : am_St) : Option (Int32 × am_St) := am_lk (g_M_child x1 x2 σ)
theorem eq_M_child (x1 : Int32) (x2 : Int32) (σ : am_St) : f_M_child x1 x2 σ = g_M_child x1 x2 σ := am_lk_eq _
set_option maxRecDepth 100000 in
set_option maxHeartbeats 4000000 in
theorem s_M_child (G : am_G) (x1 : Int32) (x2 : Int32) (σ : am_St) (r : Int32 × am_St) (Q : am_AQ) (e : f_M_child x1 x2 σ = some r) (hr : am_Pi r Q) : am_AW G M_M_child 0 [(0, .ref 66), (1, .int x1), (2, .int x2)] [] σ Q :=
  (show am_Snd G M_M_child 0 am_Pi _ from (sn_aload_n (pc := 0) (i := 0) dX12_child_0 rfl (sn_iconst (pc := 1) (v := 0) dX12_child_1 rfl (sn_pI (pc := 2) (h := 66) (f := 22) dX12_child_2 am_CL_11 sh_66 rfl (Nat.le_of_ble_eq_true rfl) tw_963 rfl rfl (sn_aload_n (pc := 5) (i := 0) dX12_child_5 rfl (sn_iload_n (pc := 6) (i := 1) dX12_child_6 rfl (sn_callV (pc := 7) (N := M_M_isChild) dX12_child_7 (cal_M_isChild G) sh_66 rfl tw_1181 tw_1183 tp_42 tw_12 tw_1184 dsc_X12_isChild rfl (sn_if_eq (pc := 10) (tgt := 25) dX12_child_10 rfl (sn_lf (pc := 25) (ln_a (i := 0) (q := 66) (ln_i (i := 1) (fun z0 => (ln_end (o := fun τ => f_M_child_25 z0 τ) (fun _ _ _ e h => s_M_child_25 G z0 _ _ _ e h)))))) (sn_iload_n (pc := 13) (i := 2) dX12_child_13 rfl (sn_i2l (pc := 14) dX12_child_14 (sn_lconst (pc := 15) (v := 0) dX12_child_15 rfl (sn_ldc2 (pc := 16) dX12_child_16 tw_1209 (sn_callS (pc := 19) (N := M_M_in) dX12_child_19 (cal_M_in G) tw_1116 tw_1117 tw_12 tw_1118 dsc_X12_in rfl (sn_if_ne (pc := 22) (tgt := 44) dX12_child_22 rfl (sn_lf (pc := 44) (ln_a (i := 0) (q := 66) (ln_i (i := 1) (fun z0 => (ln_i (i := 2) (fun z1 => (ln_end (o := fun τ => f_M_child_44 z0 z1 τ) (fun _ _ _ e h => s_M_child_44 G z0 z1 _ _ _ e h)))))))) (sn_lf (pc := 25) (ln_a (i := 0) (q := 66) (ln_i (i := 1) (fun z0 => (ln_end (o := fun τ => f_M_child_25 z0 τ) (fun _ _ _ e h => s_M_child_25 G z0 _ _ _ e h)))))))))))))))))))) _ _ _ _ _ ((eq_M_child x1 x2 σ).symm.trans e) hr
noncomputable def cF_M_child : am_Fn := fun _ args σ K => match args with
  | [.ref q0, .int z1, .int z2] => match Nat.beq q0 66 with
    | true => (f_M_child z1 z2 σ).bind (fun p => K (some (.int p.1)) p.2)
    | _ => none
  | _ => none
theorem cal_M_child (G : am_G) : am_Cal G M_M_child cF_M_child := by
  intro ρ args σ K r e
  unfold cF_M_child at e
  split at e
  · split at e
    · rename_i hq0
      obtain ⟨p, h1, h2⟩ := am_bind_some e
      rw [Nat.eq_of_beq_eq_true hq0]
      exact ⟨some (.int p.1), p.2, am_Met.of rfl (Nat.le_of_ble_eq_true rfl) (s_M_child G _ _ σ p _ h1 ⟨rfl, rfl⟩), h2⟩
    · cases e
  · cases e
abbrev M_M_trulyAt : am_MD := (yX12_trulyAt, cX12_trulyAt, 3, (some .int), 0, 0)
theorem dX12_trulyAt_0 : decode cX12_trulyAt 0 = .ok (.aload_n 0, 1) := by decide +kernel
theorem dX12_trulyAt_1 : decode cX12_trulyAt 1 = .ok (.getfield 32, 3) := by decide +kernel
theorem dX12_trulyAt_4 : decode cX12_trulyAt 4 = .ok (.bipush 6, 2) := by decide +kernel
theorem dX12_trulyAt_6 : decode cX12_trulyAt 6 = .ok (.iload_n 1, 1) := by decide +kernel
theorem dX12_trulyAt_7 : decode cX12_trulyAt 7 = .ok (.imul, 1) := by decide +kernel
theorem dX12_trulyAt_8 : decode cX12_trulyAt 8 = .ok (.iload_n 2, 1) := by decide +kernel
theorem dX12_trulyAt_9 : decode cX12_trulyAt 9 = .ok (.iadd, 1) := by decide +kernel
theorem dX12_trulyAt_10 : decode cX12_trulyAt 10 = .ok (.iaload, 1) := by decide +kernel
theorem dX12_trulyAt_11 : decode cX12_trulyAt 11 = .ok (.ireturn, 1) := by decide +kernel
noncomputable def g_M_trulyAt (x1 : Int32) (x2 : Int32) (σ : am_St) : Option (Int32 × am_St) :=
  if am_ix ((6 * x1) + x2) 24 = true then
    some ((σ.1 72 ((6 * x1) + x2).toNatClampNeg, σ))
  else none
noncomputable def f_M_trulyAt (x1 : Int32) (x2 : Int32) (σ : am_St) : Option (Int32 × am_St) := am_lk (g_M_trulyAt x1 x2 σ)
theorem eq_M_trulyAt (x1 : Int32) (x2 : Int32) (σ : am_St) : f_M_trulyAt x1 x2 σ = g_M_trulyAt x1 x2 σ := am_lk_eq _
set_option maxRecDepth 100000 in
set_option maxHeartbeats 4000000 in
theorem s_M_trulyAt (G : am_G) (x1 : Int32) (x2 : Int32) (σ : am_St) (r : Int32 × am_St) (Q : am_AQ) (e : f_M_trulyAt x1 x2 σ = some r) (hr : am_Pi r Q) : am_AW G M_M_trulyAt 0 [(0, .ref 66), (1, .int x1), (2, .int x2)] [] σ Q :=
  (show am_Snd G M_M_trulyAt 0 am_Pi _ from (sn_aload_n (pc := 0) (i := 0) dX12_trulyAt_0 rfl (sn_gR (r0 := 72) (pc := 1) (h := 66) (f := 12) dX12_trulyAt_1 am_CL_11 sh_66 rfl (Nat.le_of_ble_eq_true rfl) tw_953 (sn_bipush (pc := 4) (v := 6) dX12_trulyAt_4 rfl (sn_iload_n (pc := 6) (i := 1) dX12_trulyAt_6 rfl (sn_imul (pc := 7) dX12_trulyAt_7 (sn_iload_n (pc := 8) (i := 2) dX12_trulyAt_8 rfl (sn_iadd (pc := 9) dX12_trulyAt_9 (sn_aI (pc := 10) (h := 72) dX12_trulyAt_10 sh_72 (sn_reti (pc := 11) (R := fun x τ => (some ((x, τ)))) dX12_trulyAt_11 rfl (fun _ _ _ _ e h => by cases e; exact h))))))))))) _ _ _ _ _ ((eq_M_trulyAt x1 x2 σ).symm.trans e) hr
noncomputable def cF_M_trulyAt : am_Fn := fun _ args σ K => match args with
  | [.ref q0, .int z1, .int z2] => match Nat.beq q0 66 with
    | true => (f_M_trulyAt z1 z2 σ).bind (fun p => K (some (.int p.1)) p.2)
    | _ => none
  | _ => none
theorem cal_M_trulyAt (G : am_G) : am_Cal G M_M_trulyAt cF_M_trulyAt := by
  intro ρ args σ K r e
  unfold cF_M_trulyAt at e
  split at e
  · split at e
    · rename_i hq0
      obtain ⟨p, h1, h2⟩ := am_bind_some e
      rw [Nat.eq_of_beq_eq_true hq0]
      exact ⟨some (.int p.1), p.2, am_Met.of rfl (Nat.le_of_ble_eq_true rfl) (s_M_trulyAt G _ _ σ p _ h1 ⟨rfl, rfl⟩), h2⟩
    · cases e
  · cases e
abbrev M_M_was : am_MD := (yX12_was, cX12_was, 3, (some .int), 2, 46)
theorem dX12_was_0 : decode cX12_was 0 = .ok (.aload_n 0, 1) := by decide +kernel
theorem dX12_was_1 : decode cX12_was 1 = .ok (.iconst 0, 1) := by decide +kernel
theorem dX12_was_2 : decode cX12_was 2 = .ok (.putfield 102, 3) := by decide +kernel
theorem dX12_was_5 : decode cX12_was 5 = .ok (.aload_n 0, 1) := by decide +kernel
theorem dX12_was_6 : decode cX12_was 6 = .ok (.iload_n 1, 1) := by decide +kernel
theorem dX12_was_7 : decode cX12_was 7 = .ok (.invokevirtual 203, 3) := by decide +kernel
theorem dX12_was_10 : decode cX12_was 10 = .ok (.ifCond .eq 20, 3) := by decide +kernel
theorem dX12_was_13 : decode cX12_was 13 = .ok (.aload_n 0, 1) := by decide +kernel
theorem dX12_was_14 : decode cX12_was 14 = .ok (.iload_n 2, 1) := by decide +kernel
theorem dX12_was_15 : decode cX12_was 15 = .ok (.invokevirtual 206, 3) := by decide +kernel
theorem dX12_was_18 : decode cX12_was 18 = .ok (.ifCond .eq 12, 3) := by decide +kernel
theorem dX12_was_21 : decode cX12_was 21 = .ok (.aload_n 0, 1) := by decide +kernel
theorem dX12_was_22 : decode cX12_was 22 = .ok (.iload_n 1, 1) := by decide +kernel
theorem dX12_was_23 : decode cX12_was 23 = .ok (.iload_n 2, 1) := by decide +kernel
theorem dX12_was_24 : decode cX12_was 24 = .ok (.invokevirtual 144, 3) := by decide +kernel
theorem dX12_was_27 : decode cX12_was 27 = .ok (.goto 8, 3) := by decide +kernel
theorem dX12_was_30 : decode cX12_was 30 = .ok (.aload_n 0, 1) := by decide +kernel
theorem dX12_was_31 : decode cX12_was 31 = .ok (.iconst (-1), 1) := by decide +kernel
theorem dX12_was_32 : decode cX12_was 32 = .ok (.invokevirtual 154, 3) := by decide +kernel
theorem dX12_was_35 : decode cX12_was 35 = .ok (.ireturn, 1) := by decide +kernel
noncomputable def g_M_was_21 (x1 : Int32) (x2 : Int32) (σ : am_St) : Option (Int32 × am_St) :=
  (f_M_trulyAt x1 x2 σ).bind (fun p1 =>
    some ((p1.1, p1.2)))
noncomputable def f_M_was_21 (x1 : Int32) (x2 : Int32) (σ : am_St) : Option (Int32 × am_St) := am_lk (g_M_was_21 x1 x2 σ)
theorem eq_M_was_21 (x1 : Int32) (x2 : Int32) (σ : am_St) : f_M_was_21 x1 x2 σ = g_M_was_21 x1 x2 σ := am_lk_eq _
set_option maxRecDepth 100000 in
set_option maxHeartbeats 4000000 in
theorem s_M_was_21 (G : am_G) (x1 : Int32) (x2 : Int32) (σ : am_St) (r : Int32 × am_St) (Q : am_AQ) (e : f_M_was_21 x1 x2 σ = some r) (hr : am_Pi r Q) : am_AW G M_M_was 21 [(2, .int x2), (1, .int x1), (0, .ref 66)] [] σ Q :=
  (show am_Snd G M_M_was 21 am_Pi _ from (sn_aload_n (pc := 21) (i := 0) dX12_was_21 rfl (sn_iload_n (pc := 22) (i := 1) dX12_was_22 rfl (sn_iload_n (pc := 23) (i := 2) dX12_was_23 rfl (sn_callV (pc := 24) (N := M_M_trulyAt) dX12_was_24 (cal_M_trulyAt G) sh_66 rfl tw_1226 tw_1228 tp_49 tw_12 tw_1229 dsc_X12_trulyAt rfl (sn_goto (pc := 27) (tgt := 35) dX12_was_27 rfl (sn_reti (pc := 35) (R := fun x τ => (some ((x, τ)))) dX12_was_35 rfl (fun _ _ _ _ e h => by cases e; exact h)))))))) _ _ _ _ _ ((eq_M_was_21 x1 x2 σ).symm.trans e) hr
noncomputable def g_M_was_30 (σ : am_St) : Option (Int32 × am_St) :=
  (f_M_refuse (-1) σ).bind (fun p1 =>
    some ((p1.1, p1.2)))
noncomputable def f_M_was_30 (σ : am_St) : Option (Int32 × am_St) := am_lk (g_M_was_30  σ)
theorem eq_M_was_30 (σ : am_St) : f_M_was_30  σ = g_M_was_30  σ := am_lk_eq _
set_option maxRecDepth 100000 in
set_option maxHeartbeats 4000000 in
theorem s_M_was_30 (G : am_G) (σ : am_St) (r : Int32 × am_St) (Q : am_AQ) (e : f_M_was_30  σ = some r) (hr : am_Pi r Q) : am_AW G M_M_was 30 [(0, .ref 66)] [] σ Q :=
  (show am_Snd G M_M_was 30 am_Pi _ from (sn_aload_n (pc := 30) (i := 0) dX12_was_30 rfl (sn_iconst (pc := 31) (v := (-1)) dX12_was_31 (show Int32.ofInt (-1) = (-1) by decide) (sn_callV (pc := 32) (N := M_M_refuse) dX12_was_32 (cal_M_refuse G) sh_66 rfl tw_1090 tw_1092 tp_23 tw_12 tw_1093 dsc_X12_refuse rfl (sn_reti (pc := 35) (R := fun x τ => (some ((x, τ)))) dX12_was_35 rfl (fun _ _ _ _ e h => by cases e; exact h)))))) _ _ _ _ _ ((eq_M_was_30  σ).symm.trans e) hr
noncomputable def g_M_was (x1 : Int32) (x2 : Int32) (σ : am_St) : Option (Int32 × am_St) :=
  let s1 := am_sI σ 66 22 0
  (f_M_isChild x1 s1).bind (fun p2 =>
    if p2.1 = 0 then
      f_M_was_30 p2.2
    else
      (f_M_isMinute x2 p2.2).bind (fun p3 =>
        if p3.1 = 0 then
          f_M_was_30 p3.2
        else
          f_M_was_21 x1 x2 p3.2))
noncomputable def f_M_was (x1 : Int32) (x2 : Int32) (σ : am_St) : Option (Int32 × am_St) := am_lk (g_M_was x1 x2 σ)
theorem eq_M_was (x1 : Int32) (x2 : Int32) (σ : am_St) : f_M_was x1 x2 σ = g_M_was x1 x2 σ := am_lk_eq _
set_option maxRecDepth 100000 in
set_option maxHeartbeats 4000000 in
theorem s_M_was (G : am_G) (x1 : Int32) (x2 : Int32) (σ : am_St) (r : Int32 × am_St) (Q : am_AQ) (e : f_M_was x1 x2 σ = some r) (hr : am_Pi r Q) : am_AW G M_M_was 0 [(0, .ref 66), (1, .int x1), (2, .int x2)] [] σ Q :=
  (show am_Snd G M_M_was 0 am_Pi _ from (sn_aload_n (pc := 0) (i := 0) dX12_was_0 rfl (sn_iconst (pc := 1) (v := 0) dX12_was_1 rfl (sn_pI (pc := 2) (h := 66) (f := 22) dX12_was_2 am_CL_11 sh_66 rfl (Nat.le_of_ble_eq_true rfl) tw_963 rfl rfl (sn_aload_n (pc := 5) (i := 0) dX12_was_5 rfl (sn_iload_n (pc := 6) (i := 1) dX12_was_6 rfl (sn_callV (pc := 7) (N := M_M_isChild) dX12_was_7 (cal_M_isChild G) sh_66 rfl tw_1181 tw_1183 tp_42 tw_12 tw_1184 dsc_X12_isChild rfl (sn_if_eq (pc := 10) (tgt := 30) dX12_was_10 rfl (sn_lf (pc := 30) (ln_a (i := 0) (q := 66) (ln_end (o := fun τ => f_M_was_30 τ) (fun _ _ _ e h => s_M_was_30 G  _ _ _ e h)))) (sn_aload_n (pc := 13) (i := 0) dX12_was_13 rfl (sn_iload_n (pc := 14) (i := 2) dX12_was_14 rfl (sn_callV (pc := 15) (N := M_M_isMinute) dX12_was_15 (cal_M_isMinute G) sh_66 rfl tw_1189 tw_1191 tp_44 tw_12 tw_1192 dsc_X12_isMinute rfl (sn_if_eq (pc := 18) (tgt := 30) dX12_was_18 rfl (sn_lf (pc := 30) (ln_a (i := 0) (q := 66) (ln_end (o := fun τ => f_M_was_30 τ) (fun _ _ _ e h => s_M_was_30 G  _ _ _ e h)))) (sn_lf (pc := 21) (ln_a (i := 0) (q := 66) (ln_i (i := 1) (fun z0 => (ln_i (i := 2) (fun z1 => (ln_end (o := fun τ => f_M_was_21 z0 z1 τ) (fun _ _ _ e h => s_M_was_21 G z0 z1 _ _ _ e h)))))))))))))))))))) _ _ _ _ _ ((eq_M_was x1 x2 σ).symm.trans e) hr
noncomputable def cF_M_was : am_Fn := fun _ args σ K => match args with
  | [.ref q0, .int z1, .int z2] => match Nat.beq q0 66 with
    | true => (f_M_was z1 z2 σ).bind (fun p => K (some (.int p.1)) p.2)
    | _ => none
  | _ => none
theorem cal_M_was (G : am_G) : am_Cal G M_M_was cF_M_was := by
  intro ρ args σ K r e
  unfold cF_M_was at e
  split at e
  · split at e
    · rename_i hq0
      obtain ⟨p, h1, h2⟩ := am_bind_some e
      rw [Nat.eq_of_beq_eq_true hq0]
      exact ⟨some (.int p.1), p.2, am_Met.of rfl (Nat.le_of_ble_eq_true rfl) (s_M_was G _ _ σ p _ h1 ⟨rfl, rfl⟩), h2⟩
    · cases e
  · cases e
abbrev M_M_door : am_MD := (yX12_door, cX12_door, 3, (some .int), 2, 46)
theorem dX12_door_0 : decode cX12_door 0 = .ok (.aload_n 0, 1) := by decide +kernel
theorem dX12_door_1 : decode cX12_door 1 = .ok (.iconst 0, 1) := by decide +kernel
theorem dX12_door_2 : decode cX12_door 2 = .ok (.putfield 102, 3) := by decide +kernel
theorem dX12_door_5 : decode cX12_door 5 = .ok (.aload_n 0, 1) := by decide +kernel
theorem dX12_door_6 : decode cX12_door 6 = .ok (.iload_n 1, 1) := by decide +kernel
theorem dX12_door_7 : decode cX12_door 7 = .ok (.invokevirtual 195, 3) := by decide +kernel
theorem dX12_door_10 : decode cX12_door 10 = .ok (.ifCond .eq 16, 3) := by decide +kernel
theorem dX12_door_13 : decode cX12_door 13 = .ok (.aload_n 0, 1) := by decide +kernel
theorem dX12_door_14 : decode cX12_door 14 = .ok (.iload_n 2, 1) := by decide +kernel
theorem dX12_door_15 : decode cX12_door 15 = .ok (.invokevirtual 195, 3) := by decide +kernel
theorem dX12_door_18 : decode cX12_door 18 = .ok (.ifCond .eq 8, 3) := by decide +kernel
theorem dX12_door_21 : decode cX12_door 21 = .ok (.iload_n 1, 1) := by decide +kernel
theorem dX12_door_22 : decode cX12_door 22 = .ok (.iload_n 2, 1) := by decide +kernel
theorem dX12_door_23 : decode cX12_door 23 = .ok (.if_icmp .ne 9, 3) := by decide +kernel
theorem dX12_door_26 : decode cX12_door 26 = .ok (.aload_n 0, 1) := by decide +kernel
theorem dX12_door_27 : decode cX12_door 27 = .ok (.iconst (-1), 1) := by decide +kernel
theorem dX12_door_28 : decode cX12_door 28 = .ok (.invokevirtual 154, 3) := by decide +kernel
theorem dX12_door_31 : decode cX12_door 31 = .ok (.ireturn, 1) := by decide +kernel
theorem dX12_door_32 : decode cX12_door 32 = .ok (.aload_n 0, 1) := by decide +kernel
theorem dX12_door_33 : decode cX12_door 33 = .ok (.getfield 16, 3) := by decide +kernel
theorem dX12_door_36 : decode cX12_door 36 = .ok (.iload_n 1, 1) := by decide +kernel
theorem dX12_door_37 : decode cX12_door 37 = .ok (.iaload, 1) := by decide +kernel
theorem dX12_door_38 : decode cX12_door 38 = .ok (.iload_n 2, 1) := by decide +kernel
theorem dX12_door_39 : decode cX12_door 39 = .ok (.invokestatic 115, 3) := by decide +kernel
theorem dX12_door_42 : decode cX12_door 42 = .ok (.ifCond .eq 7, 3) := by decide +kernel
theorem dX12_door_45 : decode cX12_door 45 = .ok (.iconst 1, 1) := by decide +kernel
theorem dX12_door_46 : decode cX12_door 46 = .ok (.goto 4, 3) := by decide +kernel
theorem dX12_door_49 : decode cX12_door 49 = .ok (.iconst 0, 1) := by decide +kernel
theorem dX12_door_50 : decode cX12_door 50 = .ok (.ireturn, 1) := by decide +kernel
noncomputable def g_M_door_26 (σ : am_St) : Option (Int32 × am_St) :=
  (f_M_refuse (-1) σ).bind (fun p1 =>
    some ((p1.1, p1.2)))
noncomputable def f_M_door_26 (σ : am_St) : Option (Int32 × am_St) := am_lk (g_M_door_26  σ)
theorem eq_M_door_26 (σ : am_St) : f_M_door_26  σ = g_M_door_26  σ := am_lk_eq _
set_option maxRecDepth 100000 in
set_option maxHeartbeats 4000000 in
theorem s_M_door_26 (G : am_G) (σ : am_St) (r : Int32 × am_St) (Q : am_AQ) (e : f_M_door_26  σ = some r) (hr : am_Pi r Q) : am_AW G M_M_door 26 [(0, .ref 66)] [] σ Q :=
  (show am_Snd G M_M_door 26 am_Pi _ from (sn_aload_n (pc := 26) (i := 0) dX12_door_26 rfl (sn_iconst (pc := 27) (v := (-1)) dX12_door_27 (show Int32.ofInt (-1) = (-1) by decide) (sn_callV (pc := 28) (N := M_M_refuse) dX12_door_28 (cal_M_refuse G) sh_66 rfl tw_1090 tw_1092 tp_23 tw_12 tw_1093 dsc_X12_refuse rfl (sn_reti (pc := 31) (R := fun x τ => (some ((x, τ)))) dX12_door_31 rfl (fun _ _ _ _ e h => by cases e; exact h)))))) _ _ _ _ _ ((eq_M_door_26  σ).symm.trans e) hr
noncomputable def g_M_door_21 (x1 : Int32) (x2 : Int32) (σ : am_St) : Option (Int32 × am_St) :=
  if x1 = x2 then
    f_M_door_26 σ
  else
    if am_ix x1 4 = true then
      (f_M_has (σ.1 67 x1.toNatClampNeg) x2 σ).bind (fun p1 =>
        if p1.1 = 0 then
          some ((0, p1.2))
        else
          some ((1, p1.2)))
    else none
noncomputable def f_M_door_21 (x1 : Int32) (x2 : Int32) (σ : am_St) : Option (Int32 × am_St) := am_lk (g_M_door_21 x1 x2 σ)
theorem eq_M_door_21 (x1 : Int32) (x2 : Int32) (σ : am_St) : f_M_door_21 x1 x2 σ = g_M_door_21 x1 x2 σ := am_lk_eq _
set_option maxRecDepth 100000 in
set_option maxHeartbeats 4000000 in
theorem s_M_door_21 (G : am_G) (x1 : Int32) (x2 : Int32) (σ : am_St) (r : Int32 × am_St) (Q : am_AQ) (e : f_M_door_21 x1 x2 σ = some r) (hr : am_Pi r Q) : am_AW G M_M_door 21 [(2, .int x2), (1, .int x1), (0, .ref 66)] [] σ Q :=
  (show am_Snd G M_M_door 21 am_Pi _ from (sn_iload_n (pc := 21) (i := 1) dX12_door_21 rfl (sn_iload_n (pc := 22) (i := 2) dX12_door_22 rfl (sn_icmp_ne (pc := 23) (tgt := 32) dX12_door_23 rfl (sn_aload_n (pc := 32) (i := 0) dX12_door_32 rfl (sn_gR (r0 := 67) (pc := 33) (h := 66) (f := 7) dX12_door_33 am_CL_11 sh_66 rfl (Nat.le_of_ble_eq_true rfl) tw_948 (sn_iload_n (pc := 36) (i := 1) dX12_door_36 rfl (sn_aI (pc := 37) (h := 67) dX12_door_37 sh_67 (sn_iload_n (pc := 38) (i := 2) dX12_door_38 rfl (sn_callS (pc := 39) (N := M_M_has) dX12_door_39 (cal_M_has G) tw_1170 tw_1171 tw_12 tw_1172 dsc_X12_has rfl (sn_if_eq (pc := 42) (tgt := 49) dX12_door_42 rfl (sn_iconst (pc := 49) (v := 0) dX12_door_49 rfl (sn_reti (pc := 50) (R := fun x τ => (some ((x, τ)))) dX12_door_50 rfl (fun _ _ _ _ e h => by cases e; exact h))) (sn_iconst (pc := 45) (v := 1) dX12_door_45 rfl (sn_goto (pc := 46) (tgt := 50) dX12_door_46 rfl (sn_reti (pc := 50) (R := fun x τ => (some ((x, τ)))) dX12_door_50 rfl (fun _ _ _ _ e h => by cases e; exact h))))))))))) (sn_lf (pc := 26) (ln_a (i := 0) (q := 66) (ln_end (o := fun τ => f_M_door_26 τ) (fun _ _ _ e h => s_M_door_26 G  _ _ _ e h)))))))) _ _ _ _ _ ((eq_M_door_21 x1 x2 σ).symm.trans e) hr
noncomputable def g_M_door (x1 : Int32) (x2 : Int32) (σ : am_St) : Option (Int32 × am_St) :=
  let s1 := am_sI σ 66 22 0
  (f_M_isRoom x1 s1).bind (fun p2 =>
    if p2.1 = 0 then
      f_M_door_26 p2.2
    else
      (f_M_isRoom x2 p2.2).bind (fun p3 =>
        if p3.1 = 0 then
          f_M_door_26 p3.2
        else
          f_M_door_21 x1 x2 p3.2))
noncomputable def f_M_door (x1 : Int32) (x2 : Int32) (σ : am_St) : Option (Int32 × am_St) := am_lk (g_M_door x1 x2 σ)
theorem eq_M_door (x1 : Int32) (x2 : Int32) (σ : am_St) : f_M_door x1 x2 σ = g_M_door x1 x2 σ := am_lk_eq _
set_option maxRecDepth 100000 in
set_option maxHeartbeats 4000000 in
theorem s_M_door (G : am_G) (x1 : Int32) (x2 : Int32) (σ : am_St) (r : Int32 × am_St) (Q : am_AQ) (e : f_M_door x1 x2 σ = some r) (hr : am_Pi r Q) : am_AW G M_M_door 0 [(0, .ref 66), (1, .int x1), (2, .int x2)] [] σ Q :=
  (show am_Snd G M_M_door 0 am_Pi _ from (sn_aload_n (pc := 0) (i := 0) dX12_door_0 rfl (sn_iconst (pc := 1) (v := 0) dX12_door_1 rfl (sn_pI (pc := 2) (h := 66) (f := 22) dX12_door_2 am_CL_11 sh_66 rfl (Nat.le_of_ble_eq_true rfl) tw_963 rfl rfl (sn_aload_n (pc := 5) (i := 0) dX12_door_5 rfl (sn_iload_n (pc := 6) (i := 1) dX12_door_6 rfl (sn_callV (pc := 7) (N := M_M_isRoom) dX12_door_7 (cal_M_isRoom G) sh_66 rfl tw_1150 tw_1152 tp_35 tw_12 tw_1153 dsc_X12_isRoom rfl (sn_if_eq (pc := 10) (tgt := 26) dX12_door_10 rfl (sn_lf (pc := 26) (ln_a (i := 0) (q := 66) (ln_end (o := fun τ => f_M_door_26 τ) (fun _ _ _ e h => s_M_door_26 G  _ _ _ e h)))) (sn_aload_n (pc := 13) (i := 0) dX12_door_13 rfl (sn_iload_n (pc := 14) (i := 2) dX12_door_14 rfl (sn_callV (pc := 15) (N := M_M_isRoom) dX12_door_15 (cal_M_isRoom G) sh_66 rfl tw_1150 tw_1152 tp_35 tw_12 tw_1153 dsc_X12_isRoom rfl (sn_if_eq (pc := 18) (tgt := 26) dX12_door_18 rfl (sn_lf (pc := 26) (ln_a (i := 0) (q := 66) (ln_end (o := fun τ => f_M_door_26 τ) (fun _ _ _ e h => s_M_door_26 G  _ _ _ e h)))) (sn_lf (pc := 21) (ln_a (i := 0) (q := 66) (ln_i (i := 1) (fun z0 => (ln_i (i := 2) (fun z1 => (ln_end (o := fun τ => f_M_door_21 z0 z1 τ) (fun _ _ _ e h => s_M_door_21 G z0 z1 _ _ _ e h)))))))))))))))))))) _ _ _ _ _ ((eq_M_door x1 x2 σ).symm.trans e) hr
noncomputable def cF_M_door : am_Fn := fun _ args σ K => match args with
  | [.ref q0, .int z1, .int z2] => match Nat.beq q0 66 with
    | true => (f_M_door z1 z2 σ).bind (fun p => K (some (.int p.1)) p.2)
    | _ => none
  | _ => none
theorem cal_M_door (G : am_G) : am_Cal G M_M_door cF_M_door := by
  intro ρ args σ K r e
  unfold cF_M_door at e
  split at e
  · split at e
    · rename_i hq0
      obtain ⟨p, h1, h2⟩ := am_bind_some e
      rw [Nat.eq_of_beq_eq_true hq0]
      exact ⟨some (.int p.1), p.2, am_Met.of rfl (Nat.le_of_ble_eq_true rfl) (s_M_door G _ _ σ p _ h1 ⟨rfl, rfl⟩), h2⟩
    · cases e
  · cases e
abbrev M_M_deed : am_MD := (yX12_deed, cX12_deed, 4, (some .int), 3, 69)
theorem dX12_deed_0 : decode cX12_deed 0 = .ok (.aload_n 0, 1) := by decide +kernel
theorem dX12_deed_1 : decode cX12_deed 1 = .ok (.iconst 0, 1) := by decide +kernel
theorem dX12_deed_2 : decode cX12_deed 2 = .ok (.putfield 102, 3) := by decide +kernel
theorem dX12_deed_5 : decode cX12_deed 5 = .ok (.bipush 10, 2) := by decide +kernel
theorem dX12_deed_7 : decode cX12_deed 7 = .ok (.aload_n 0, 1) := by decide +kernel
theorem dX12_deed_8 : decode cX12_deed 8 = .ok (.getfield 130, 3) := by decide +kernel
theorem dX12_deed_11 : decode cX12_deed 11 = .ok (.imul, 1) := by decide +kernel
theorem dX12_deed_12 : decode cX12_deed 12 = .ok (.aload_n 0, 1) := by decide +kernel
theorem dX12_deed_13 : decode cX12_deed 13 = .ok (.getfield 127, 3) := by decide +kernel
theorem dX12_deed_16 : decode cX12_deed 16 = .ok (.iadd, 1) := by decide +kernel
theorem dX12_deed_17 : decode cX12_deed 17 = .ok (.istore_n 3, 1) := by decide +kernel
theorem dX12_deed_18 : decode cX12_deed 18 = .ok (.aload_n 0, 1) := by decide +kernel
theorem dX12_deed_19 : decode cX12_deed 19 = .ok (.iload_n 1, 1) := by decide +kernel
theorem dX12_deed_20 : decode cX12_deed 20 = .ok (.iload_n 2, 1) := by decide +kernel
theorem dX12_deed_21 : decode cX12_deed 21 = .ok (.invokevirtual 222, 3) := by decide +kernel
theorem dX12_deed_24 : decode cX12_deed 24 = .ok (.ifCond .eq 7, 3) := by decide +kernel
theorem dX12_deed_27 : decode cX12_deed 27 = .ok (.iload_n 3, 1) := by decide +kernel
theorem dX12_deed_28 : decode cX12_deed 28 = .ok (.goto 8, 3) := by decide +kernel
theorem dX12_deed_31 : decode cX12_deed 31 = .ok (.aload_n 0, 1) := by decide +kernel
theorem dX12_deed_32 : decode cX12_deed 32 = .ok (.iconst (-1), 1) := by decide +kernel
theorem dX12_deed_33 : decode cX12_deed 33 = .ok (.invokevirtual 154, 3) := by decide +kernel
theorem dX12_deed_36 : decode cX12_deed 36 = .ok (.ireturn, 1) := by decide +kernel
noncomputable def g_M_deed (x1 : Int32) (x2 : Int32) (σ : am_St) : Option (Int32 × am_St) :=
  let s1 := am_sI σ 66 22 0
  let v2 := (10 * (s1.1 66 5)) + (s1.1 66 6)
  (f_M_deedComes x1 x2 s1).bind (fun p3 =>
    if p3.1 = 0 then
      (f_M_refuse (-1) p3.2).bind (fun p4 =>
        some ((p4.1, p4.2)))
    else
      some ((v2, p3.2)))
noncomputable def f_M_deed (x1 : Int32) (x2 : Int32) (σ : am_St) : Option (Int32 × am_St) := am_lk (g_M_deed x1 x2 σ)
theorem eq_M_deed (x1 : Int32) (x2 : Int32) (σ : am_St) : f_M_deed x1 x2 σ = g_M_deed x1 x2 σ := am_lk_eq _
set_option maxRecDepth 100000 in
set_option maxHeartbeats 4000000 in
theorem s_M_deed (G : am_G) (x1 : Int32) (x2 : Int32) (σ : am_St) (r : Int32 × am_St) (Q : am_AQ) (e : f_M_deed x1 x2 σ = some r) (hr : am_Pi r Q) : am_AW G M_M_deed 0 [(0, .ref 66), (1, .int x1), (2, .int x2)] [] σ Q :=
  (show am_Snd G M_M_deed 0 am_Pi _ from (sn_aload_n (pc := 0) (i := 0) dX12_deed_0 rfl (sn_iconst (pc := 1) (v := 0) dX12_deed_1 rfl (sn_pI (pc := 2) (h := 66) (f := 22) dX12_deed_2 am_CL_11 sh_66 rfl (Nat.le_of_ble_eq_true rfl) tw_963 rfl rfl (sn_bipush (pc := 5) (v := 10) dX12_deed_5 rfl (sn_aload_n (pc := 7) (i := 0) dX12_deed_7 rfl (sn_gI (pc := 8) (h := 66) (f := 5) dX12_deed_8 am_CL_11 sh_66 rfl (Nat.le_of_ble_eq_true rfl) tw_946 (sn_imul (pc := 11) dX12_deed_11 (sn_aload_n (pc := 12) (i := 0) dX12_deed_12 rfl (sn_gI (pc := 13) (h := 66) (f := 6) dX12_deed_13 am_CL_11 sh_66 rfl (Nat.le_of_ble_eq_true rfl) tw_947 (sn_iadd (pc := 16) dX12_deed_16 (sn_istore_n (pc := 17) (i := 3) dX12_deed_17 rfl (Nat.le_of_ble_eq_true rfl) (sn_aload_n (pc := 18) (i := 0) dX12_deed_18 rfl (sn_iload_n (pc := 19) (i := 1) dX12_deed_19 rfl (sn_iload_n (pc := 20) (i := 2) dX12_deed_20 rfl (sn_callV (pc := 21) (N := M_M_deedComes) dX12_deed_21 (cal_M_deedComes G) sh_66 rfl tw_1185 tw_1187 tp_43 tw_12 tw_1188 dsc_X12_deedComes rfl (sn_if_eq (pc := 24) (tgt := 31) dX12_deed_24 rfl (sn_aload_n (pc := 31) (i := 0) dX12_deed_31 rfl (sn_iconst (pc := 32) (v := (-1)) dX12_deed_32 (show Int32.ofInt (-1) = (-1) by decide) (sn_callV (pc := 33) (N := M_M_refuse) dX12_deed_33 (cal_M_refuse G) sh_66 rfl tw_1090 tw_1092 tp_23 tw_12 tw_1093 dsc_X12_refuse rfl (sn_reti (pc := 36) (R := fun x τ => (some ((x, τ)))) dX12_deed_36 rfl (fun _ _ _ _ e h => by cases e; exact h))))) (sn_iload_n (pc := 27) (i := 3) dX12_deed_27 rfl (sn_goto (pc := 28) (tgt := 36) dX12_deed_28 rfl (sn_reti (pc := 36) (R := fun x τ => (some ((x, τ)))) dX12_deed_36 rfl (fun _ _ _ _ e h => by cases e; exact h))))))))))))))))))))) _ _ _ _ _ ((eq_M_deed x1 x2 σ).symm.trans e) hr
noncomputable def cF_M_deed : am_Fn := fun _ args σ K => match args with
  | [.ref q0, .int z1, .int z2] => match Nat.beq q0 66 with
    | true => (f_M_deed z1 z2 σ).bind (fun p => K (some (.int p.1)) p.2)
    | _ => none
  | _ => none
theorem cal_M_deed (G : am_G) : am_Cal G M_M_deed cF_M_deed := by
  intro ρ args σ K r e
  unfold cF_M_deed at e
  split at e
  · split at e
    · rename_i hq0
      obtain ⟨p, h1, h2⟩ := am_bind_some e
      rw [Nat.eq_of_beq_eq_true hq0]
      exact ⟨some (.int p.1), p.2, am_Met.of rfl (Nat.le_of_ble_eq_true rfl) (s_M_deed G _ _ σ p _ h1 ⟨rfl, rfl⟩), h2⟩
    · cases e
  · cases e
abbrev M_M_fact : am_MD := (yX12_fact, cX12_fact, 5, (some .int), 4, 90)
theorem dX12_fact_0 : decode cX12_fact 0 = .ok (.aload_n 0, 1) := by decide +kernel
theorem dX12_fact_1 : decode cX12_fact 1 = .ok (.iconst 0, 1) := by decide +kernel
theorem dX12_fact_2 : decode cX12_fact 2 = .ok (.putfield 102, 3) := by decide +kernel
theorem dX12_fact_5 : decode cX12_fact 5 = .ok (.aload_n 0, 1) := by decide +kernel
theorem dX12_fact_6 : decode cX12_fact 6 = .ok (.iload_n 1, 1) := by decide +kernel
theorem dX12_fact_7 : decode cX12_fact 7 = .ok (.invokevirtual 203, 3) := by decide +kernel
theorem dX12_fact_10 : decode cX12_fact 10 = .ok (.ifCond .eq 19, 3) := by decide +kernel
theorem dX12_fact_13 : decode cX12_fact 13 = .ok (.aload_n 0, 1) := by decide +kernel
theorem dX12_fact_14 : decode cX12_fact 14 = .ok (.iload_n 2, 1) := by decide +kernel
theorem dX12_fact_15 : decode cX12_fact 15 = .ok (.invokevirtual 206, 3) := by decide +kernel
theorem dX12_fact_18 : decode cX12_fact 18 = .ok (.ifCond .eq 11, 3) := by decide +kernel
theorem dX12_fact_21 : decode cX12_fact 21 = .ok (.aload_n 0, 1) := by decide +kernel
theorem dX12_fact_22 : decode cX12_fact 22 = .ok (.iload_n 3, 1) := by decide +kernel
theorem dX12_fact_23 : decode cX12_fact 23 = .ok (.invokevirtual 195, 3) := by decide +kernel
theorem dX12_fact_26 : decode cX12_fact 26 = .ok (.ifCond .ne 9, 3) := by decide +kernel
theorem dX12_fact_29 : decode cX12_fact 29 = .ok (.aload_n 0, 1) := by decide +kernel
theorem dX12_fact_30 : decode cX12_fact 30 = .ok (.iconst (-1), 1) := by decide +kernel
theorem dX12_fact_31 : decode cX12_fact 31 = .ok (.invokevirtual 154, 3) := by decide +kernel
theorem dX12_fact_34 : decode cX12_fact 34 = .ok (.ireturn, 1) := by decide +kernel
theorem dX12_fact_35 : decode cX12_fact 35 = .ok (.iload 4, 2) := by decide +kernel
theorem dX12_fact_37 : decode cX12_fact 37 = .ok (.i2l, 1) := by decide +kernel
theorem dX12_fact_38 : decode cX12_fact 38 = .ok (.lconst 0, 1) := by decide +kernel
theorem dX12_fact_39 : decode cX12_fact 39 = .ok (.lconst 1, 1) := by decide +kernel
theorem dX12_fact_40 : decode cX12_fact 40 = .ok (.invokestatic 108, 3) := by decide +kernel
theorem dX12_fact_43 : decode cX12_fact 43 = .ok (.ifCond .ne 10, 3) := by decide +kernel
theorem dX12_fact_46 : decode cX12_fact 46 = .ok (.aload_n 0, 1) := by decide +kernel
theorem dX12_fact_47 : decode cX12_fact 47 = .ok (.bipush (-2), 2) := by decide +kernel
theorem dX12_fact_49 : decode cX12_fact 49 = .ok (.invokevirtual 154, 3) := by decide +kernel
theorem dX12_fact_52 : decode cX12_fact 52 = .ok (.ireturn, 1) := by decide +kernel
theorem dX12_fact_53 : decode cX12_fact 53 = .ok (.aload_n 0, 1) := by decide +kernel
theorem dX12_fact_54 : decode cX12_fact 54 = .ok (.getfield 112, 3) := by decide +kernel
theorem dX12_fact_57 : decode cX12_fact 57 = .ok (.bipush 16, 2) := by decide +kernel
theorem dX12_fact_59 : decode cX12_fact 59 = .ok (.if_icmp .ne 10, 3) := by decide +kernel
theorem dX12_fact_62 : decode cX12_fact 62 = .ok (.aload_n 0, 1) := by decide +kernel
theorem dX12_fact_63 : decode cX12_fact 63 = .ok (.bipush (-6), 2) := by decide +kernel
theorem dX12_fact_65 : decode cX12_fact 65 = .ok (.invokevirtual 154, 3) := by decide +kernel
theorem dX12_fact_68 : decode cX12_fact 68 = .ok (.ireturn, 1) := by decide +kernel
theorem dX12_fact_69 : decode cX12_fact 69 = .ok (.aload_n 0, 1) := by decide +kernel
theorem dX12_fact_70 : decode cX12_fact 70 = .ok (.iload_n 1, 1) := by decide +kernel
theorem dX12_fact_71 : decode cX12_fact 71 = .ok (.iload_n 2, 1) := by decide +kernel
theorem dX12_fact_72 : decode cX12_fact 72 = .ok (.iload_n 3, 1) := by decide +kernel
theorem dX12_fact_73 : decode cX12_fact 73 = .ok (.iload 4, 2) := by decide +kernel
theorem dX12_fact_75 : decode cX12_fact 75 = .ok (.invokevirtual 225, 3) := by decide +kernel
theorem dX12_fact_78 : decode cX12_fact 78 = .ok (.ifCond .ne 20, 3) := by decide +kernel
theorem dX12_fact_81 : decode cX12_fact 81 = .ok (.aload_n 0, 1) := by decide +kernel
theorem dX12_fact_82 : decode cX12_fact 82 = .ok (.dup, 1) := by decide +kernel
theorem dX12_fact_83 : decode cX12_fact 83 = .ok (.getfield 112, 3) := by decide +kernel
theorem dX12_fact_86 : decode cX12_fact 86 = .ok (.iconst 1, 1) := by decide +kernel
theorem dX12_fact_87 : decode cX12_fact 87 = .ok (.isub, 1) := by decide +kernel
theorem dX12_fact_88 : decode cX12_fact 88 = .ok (.putfield 112, 3) := by decide +kernel
theorem dX12_fact_91 : decode cX12_fact 91 = .ok (.aload_n 0, 1) := by decide +kernel
theorem dX12_fact_92 : decode cX12_fact 92 = .ok (.bipush (-3), 2) := by decide +kernel
theorem dX12_fact_94 : decode cX12_fact 94 = .ok (.invokevirtual 154, 3) := by decide +kernel
theorem dX12_fact_97 : decode cX12_fact 97 = .ok (.ireturn, 1) := by decide +kernel
theorem dX12_fact_98 : decode cX12_fact 98 = .ok (.aload_n 0, 1) := by decide +kernel
theorem dX12_fact_99 : decode cX12_fact 99 = .ok (.getfield 112, 3) := by decide +kernel
theorem dX12_fact_102 : decode cX12_fact 102 = .ok (.ireturn, 1) := by decide +kernel
noncomputable def g_M_fact_29 (σ : am_St) : Option (Int32 × am_St) :=
  (f_M_refuse (-1) σ).bind (fun p1 =>
    some ((p1.1, p1.2)))
noncomputable def f_M_fact_29 (σ : am_St) : Option (Int32 × am_St) := am_lk (g_M_fact_29  σ)
theorem eq_M_fact_29 (σ : am_St) : f_M_fact_29  σ = g_M_fact_29  σ := am_lk_eq _
set_option maxRecDepth 100000 in
set_option maxHeartbeats 4000000 in
theorem s_M_fact_29 (G : am_G) (σ : am_St) (r : Int32 × am_St) (Q : am_AQ) (e : f_M_fact_29  σ = some r) (hr : am_Pi r Q) : am_AW G M_M_fact 29 [(0, .ref 66)] [] σ Q :=
  (show am_Snd G M_M_fact 29 am_Pi _ from (sn_aload_n (pc := 29) (i := 0) dX12_fact_29 rfl (sn_iconst (pc := 30) (v := (-1)) dX12_fact_30 (show Int32.ofInt (-1) = (-1) by decide) (sn_callV (pc := 31) (N := M_M_refuse) dX12_fact_31 (cal_M_refuse G) sh_66 rfl tw_1090 tw_1092 tp_23 tw_12 tw_1093 dsc_X12_refuse rfl (sn_reti (pc := 34) (R := fun x τ => (some ((x, τ)))) dX12_fact_34 rfl (fun _ _ _ _ e h => by cases e; exact h)))))) _ _ _ _ _ ((eq_M_fact_29  σ).symm.trans e) hr
noncomputable def g_M_fact_62 (σ : am_St) : Option (Int32 × am_St) :=
  (f_M_refuse (-6) σ).bind (fun p1 =>
    some ((p1.1, p1.2)))
noncomputable def f_M_fact_62 (σ : am_St) : Option (Int32 × am_St) := am_lk (g_M_fact_62  σ)
theorem eq_M_fact_62 (σ : am_St) : f_M_fact_62  σ = g_M_fact_62  σ := am_lk_eq _
set_option maxRecDepth 100000 in
set_option maxHeartbeats 4000000 in
theorem s_M_fact_62 (G : am_G) (σ : am_St) (r : Int32 × am_St) (Q : am_AQ) (e : f_M_fact_62  σ = some r) (hr : am_Pi r Q) : am_AW G M_M_fact 62 [(0, .ref 66)] [] σ Q :=
  (show am_Snd G M_M_fact 62 am_Pi _ from (sn_aload_n (pc := 62) (i := 0) dX12_fact_62 rfl (sn_bipush (pc := 63) (v := (-6)) dX12_fact_63 (show (Int8.ofInt (-6)).toInt32 = (-6) by decide) (sn_callV (pc := 65) (N := M_M_refuse) dX12_fact_65 (cal_M_refuse G) sh_66 rfl tw_1090 tw_1092 tp_23 tw_12 tw_1093 dsc_X12_refuse rfl (sn_reti (pc := 68) (R := fun x τ => (some ((x, τ)))) dX12_fact_68 rfl (fun _ _ _ _ e h => by cases e; exact h)))))) _ _ _ _ _ ((eq_M_fact_62  σ).symm.trans e) hr
noncomputable def g_M_fact_69 (x1 : Int32) (x2 : Int32) (x3 : Int32) (x4 : Int32) (σ : am_St) : Option (Int32 × am_St) :=
  (f_M_factComes x1 x2 x3 x4 σ).bind (fun p1 =>
    if p1.1 = 0 then
      let s2 := am_sI p1.2 66 3 ((p1.2.1 66 3) - 1)
      (f_M_refuse (-3) s2).bind (fun p3 =>
        some ((p3.1, p3.2)))
    else
      some ((p1.2.1 66 3, p1.2)))
noncomputable def f_M_fact_69 (x1 : Int32) (x2 : Int32) (x3 : Int32) (x4 : Int32) (σ : am_St) : Option (Int32 × am_St) := am_lk (g_M_fact_69 x1 x2 x3 x4 σ)
theorem eq_M_fact_69 (x1 : Int32) (x2 : Int32) (x3 : Int32) (x4 : Int32) (σ : am_St) : f_M_fact_69 x1 x2 x3 x4 σ = g_M_fact_69 x1 x2 x3 x4 σ := am_lk_eq _
set_option maxRecDepth 100000 in
set_option maxHeartbeats 4000000 in
theorem s_M_fact_69 (G : am_G) (x1 : Int32) (x2 : Int32) (x3 : Int32) (x4 : Int32) (σ : am_St) (r : Int32 × am_St) (Q : am_AQ) (e : f_M_fact_69 x1 x2 x3 x4 σ = some r) (hr : am_Pi r Q) : am_AW G M_M_fact 69 [(4, .int x4), (3, .int x3), (2, .int x2), (1, .int x1), (0, .ref 66)] [] σ Q :=
  (show am_Snd G M_M_fact 69 am_Pi _ from (sn_aload_n (pc := 69) (i := 0) dX12_fact_69 rfl (sn_iload_n (pc := 70) (i := 1) dX12_fact_70 rfl (sn_iload_n (pc := 71) (i := 2) dX12_fact_71 rfl (sn_iload_n (pc := 72) (i := 3) dX12_fact_72 rfl (sn_iload (pc := 73) dX12_fact_73 (sn_callV (pc := 75) (N := M_M_factComes) dX12_fact_75 (cal_M_factComes G) sh_66 rfl tw_1193 tw_1195 tp_45 tw_12 tw_1196 dsc_X12_factComes rfl (sn_if_ne (pc := 78) (tgt := 98) dX12_fact_78 rfl (sn_aload_n (pc := 98) (i := 0) dX12_fact_98 rfl (sn_gI (pc := 99) (h := 66) (f := 3) dX12_fact_99 am_CL_11 sh_66 rfl (Nat.le_of_ble_eq_true rfl) tw_944 (sn_reti (pc := 102) (R := fun x τ => (some ((x, τ)))) dX12_fact_102 rfl (fun _ _ _ _ e h => by cases e; exact h)))) (sn_aload_n (pc := 81) (i := 0) dX12_fact_81 rfl (sn_dup (pc := 82) dX12_fact_82 (sn_gI (pc := 83) (h := 66) (f := 3) dX12_fact_83 am_CL_11 sh_66 rfl (Nat.le_of_ble_eq_true rfl) tw_944 (sn_iconst (pc := 86) (v := 1) dX12_fact_86 rfl (sn_isub (pc := 87) dX12_fact_87 (sn_pI (pc := 88) (h := 66) (f := 3) dX12_fact_88 am_CL_11 sh_66 rfl (Nat.le_of_ble_eq_true rfl) tw_944 rfl rfl (sn_aload_n (pc := 91) (i := 0) dX12_fact_91 rfl (sn_bipush (pc := 92) (v := (-3)) dX12_fact_92 (show (Int8.ofInt (-3)).toInt32 = (-3) by decide) (sn_callV (pc := 94) (N := M_M_refuse) dX12_fact_94 (cal_M_refuse G) sh_66 rfl tw_1090 tw_1092 tp_23 tw_12 tw_1093 dsc_X12_refuse rfl (sn_reti (pc := 97) (R := fun x τ => (some ((x, τ)))) dX12_fact_97 rfl (fun _ _ _ _ e h => by cases e; exact h))))))))))))))))))) _ _ _ _ _ ((eq_M_fact_69 x1 x2 x3 x4 σ).symm.trans e) hr
noncomputable def g_M_fact_21 (x1 : Int32) (x2 : Int32) (x3 : Int32) (x4 : Int32) (σ : am_St) : Option (Int32 × am_St) :=
  (f_M_isRoom x3 σ).bind (fun p1 =>
    if p1.1 = 0 then
      f_M_fact_29 p1.2
    else
      (f_M_in x4.toInt64 0 1 p1.2).bind (fun p2 =>
        if p2.1 = 0 then
          (f_M_refuse (-2) p2.2).bind (fun p3 =>
            some ((p3.1, p3.2)))
        else
          if (p2.2.1 66 3) = 16 then
            f_M_fact_62 p2.2
          else
            f_M_fact_69 x1 x2 x3 x4 p2.2))
noncomputable def f_M_fact_21 (x1 : Int32) (x2 : Int32) (x3 : Int32) (x4 : Int32) (σ : am_St) : Option (Int32 × am_St) := am_lk (g_M_fact_21 x1 x2 x3 x4 σ)
theorem eq_M_fact_21 (x1 : Int32) (x2 : Int32) (x3 : Int32) (x4 : Int32) (σ : am_St) : f_M_fact_21 x1 x2 x3 x4 σ = g_M_fact_21 x1 x2 x3 x4 σ := am_lk_eq _
set_option maxRecDepth 100000 in
set_option maxHeartbeats 4000000 in
theorem s_M_fact_21 (G : am_G) (x1 : Int32) (x2 : Int32) (x3 : Int32) (x4 : Int32) (σ : am_St) (r : Int32 × am_St) (Q : am_AQ) (e : f_M_fact_21 x1 x2 x3 x4 σ = some r) (hr : am_Pi r Q) : am_AW G M_M_fact 21 [(4, .int x4), (3, .int x3), (2, .int x2), (1, .int x1), (0, .ref 66)] [] σ Q :=
  (show am_Snd G M_M_fact 21 am_Pi _ from (sn_aload_n (pc := 21) (i := 0) dX12_fact_21 rfl (sn_iload_n (pc := 22) (i := 3) dX12_fact_22 rfl (sn_callV (pc := 23) (N := M_M_isRoom) dX12_fact_23 (cal_M_isRoom G) sh_66 rfl tw_1150 tw_1152 tp_35 tw_12 tw_1153 dsc_X12_isRoom rfl (sn_if_ne (pc := 26) (tgt := 35) dX12_fact_26 rfl (sn_iload (pc := 35) dX12_fact_35 (sn_i2l (pc := 37) dX12_fact_37 (sn_lconst (pc := 38) (v := 0) dX12_fact_38 rfl (sn_lconst (pc := 39) (v := 1) dX12_fact_39 rfl (sn_callS (pc := 40) (N := M_M_in) dX12_fact_40 (cal_M_in G) tw_1116 tw_1117 tw_12 tw_1118 dsc_X12_in rfl (sn_if_ne (pc := 43) (tgt := 53) dX12_fact_43 rfl (sn_aload_n (pc := 53) (i := 0) dX12_fact_53 rfl (sn_gI (pc := 54) (h := 66) (f := 3) dX12_fact_54 am_CL_11 sh_66 rfl (Nat.le_of_ble_eq_true rfl) tw_944 (sn_bipush (pc := 57) (v := 16) dX12_fact_57 rfl (sn_icmp_ne (pc := 59) (tgt := 69) dX12_fact_59 rfl (sn_lf (pc := 69) (ln_a (i := 0) (q := 66) (ln_i (i := 1) (fun z0 => (ln_i (i := 2) (fun z1 => (ln_i (i := 3) (fun z2 => (ln_i (i := 4) (fun z3 => (ln_end (o := fun τ => f_M_fact_69 z0 z1 z2 z3 τ) (fun _ _ _ e h => s_M_fact_69 G z0 z1 z2 z3 _ _ _ e h)))))))))))) (sn_lf (pc := 62) (ln_a (i := 0) (q := 66) (ln_end (o := fun τ => f_M_fact_62 τ) (fun _ _ _ e h => s_M_fact_62 G  _ _ _ e h)))))))) (sn_aload_n (pc := 46) (i := 0) dX12_fact_46 rfl (sn_bipush (pc := 47) (v := (-2)) dX12_fact_47 (show (Int8.ofInt (-2)).toInt32 = (-2) by decide) (sn_callV (pc := 49) (N := M_M_refuse) dX12_fact_49 (cal_M_refuse G) sh_66 rfl tw_1090 tw_1092 tp_23 tw_12 tw_1093 dsc_X12_refuse rfl (sn_reti (pc := 52) (R := fun x τ => (some ((x, τ)))) dX12_fact_52 rfl (fun _ _ _ _ e h => by cases e; exact h))))))))))) (sn_lf (pc := 29) (ln_a (i := 0) (q := 66) (ln_end (o := fun τ => f_M_fact_29 τ) (fun _ _ _ e h => s_M_fact_29 G  _ _ _ e h))))))))) _ _ _ _ _ ((eq_M_fact_21 x1 x2 x3 x4 σ).symm.trans e) hr
noncomputable def g_M_fact (x1 : Int32) (x2 : Int32) (x3 : Int32) (x4 : Int32) (σ : am_St) : Option (Int32 × am_St) :=
  let s1 := am_sI σ 66 22 0
  (f_M_isChild x1 s1).bind (fun p2 =>
    if p2.1 = 0 then
      f_M_fact_29 p2.2
    else
      (f_M_isMinute x2 p2.2).bind (fun p3 =>
        if p3.1 = 0 then
          f_M_fact_29 p3.2
        else
          f_M_fact_21 x1 x2 x3 x4 p3.2))
noncomputable def f_M_fact (x1 : Int32) (x2 : Int32) (x3 : Int32) (x4 : Int32) (σ : am_St) : Option (Int32 × am_St) := am_lk (g_M_fact x1 x2 x3 x4 σ)
theorem eq_M_fact (x1 : Int32) (x2 : Int32) (x3 : Int32) (x4 : Int32) (σ : am_St) : f_M_fact x1 x2 x3 x4 σ = g_M_fact x1 x2 x3 x4 σ := am_lk_eq _
set_option maxRecDepth 100000 in
set_option maxHeartbeats 4000000 in
theorem s_M_fact (G : am_G) (x1 : Int32) (x2 : Int32) (x3 : Int32) (x4 : Int32) (σ : am_St) (r : Int32 × am_St) (Q : am_AQ) (e : f_M_fact x1 x2 x3 x4 σ = some r) (hr : am_Pi r Q) : am_AW G M_M_fact 0 [(0, .ref 66), (1, .int x1), (2, .int x2), (3, .int x3), (4, .int x4)] [] σ Q :=
  (show am_Snd G M_M_fact 0 am_Pi _ from (sn_aload_n (pc := 0) (i := 0) dX12_fact_0 rfl (sn_iconst (pc := 1) (v := 0) dX12_fact_1 rfl (sn_pI (pc := 2) (h := 66) (f := 22) dX12_fact_2 am_CL_11 sh_66 rfl (Nat.le_of_ble_eq_true rfl) tw_963 rfl rfl (sn_aload_n (pc := 5) (i := 0) dX12_fact_5 rfl (sn_iload_n (pc := 6) (i := 1) dX12_fact_6 rfl (sn_callV (pc := 7) (N := M_M_isChild) dX12_fact_7 (cal_M_isChild G) sh_66 rfl tw_1181 tw_1183 tp_42 tw_12 tw_1184 dsc_X12_isChild rfl (sn_if_eq (pc := 10) (tgt := 29) dX12_fact_10 rfl (sn_lf (pc := 29) (ln_a (i := 0) (q := 66) (ln_end (o := fun τ => f_M_fact_29 τ) (fun _ _ _ e h => s_M_fact_29 G  _ _ _ e h)))) (sn_aload_n (pc := 13) (i := 0) dX12_fact_13 rfl (sn_iload_n (pc := 14) (i := 2) dX12_fact_14 rfl (sn_callV (pc := 15) (N := M_M_isMinute) dX12_fact_15 (cal_M_isMinute G) sh_66 rfl tw_1189 tw_1191 tp_44 tw_12 tw_1192 dsc_X12_isMinute rfl (sn_if_eq (pc := 18) (tgt := 29) dX12_fact_18 rfl (sn_lf (pc := 29) (ln_a (i := 0) (q := 66) (ln_end (o := fun τ => f_M_fact_29 τ) (fun _ _ _ e h => s_M_fact_29 G  _ _ _ e h)))) (sn_lf (pc := 21) (ln_a (i := 0) (q := 66) (ln_i (i := 1) (fun z0 => (ln_i (i := 2) (fun z1 => (ln_i (i := 3) (fun z2 => (ln_i (i := 4) (fun z3 => (ln_end (o := fun τ => f_M_fact_21 z0 z1 z2 z3 τ) (fun _ _ _ e h => s_M_fact_21 G z0 z1 z2 z3 _ _ _ e h)))))))))))))))))))))))) _ _ _ _ _ ((eq_M_fact x1 x2 x3 x4 σ).symm.trans e) hr
noncomputable def cF_M_fact : am_Fn := fun _ args σ K => match args with
  | [.ref q0, .int z1, .int z2, .int z3, .int z4] => match Nat.beq q0 66 with
    | true => (f_M_fact z1 z2 z3 z4 σ).bind (fun p => K (some (.int p.1)) p.2)
    | _ => none
  | _ => none
theorem cal_M_fact (G : am_G) : am_Cal G M_M_fact cF_M_fact := by
  intro ρ args σ K r e
  unfold cF_M_fact at e
  split at e
  · split at e
    · rename_i hq0
      obtain ⟨p, h1, h2⟩ := am_bind_some e
      rw [Nat.eq_of_beq_eq_true hq0]
      exact ⟨some (.int p.1), p.2, am_Met.of rfl (Nat.le_of_ble_eq_true rfl) (s_M_fact G _ _ _ _ σ p _ h1 ⟨rfl, rfl⟩), h2⟩
    · cases e
  · cases e
abbrev M_M_unfact : am_MD := (yX12_unfact, cX12_unfact, 1, (some .int), 1, 21)
theorem dX12_unfact_0 : decode cX12_unfact 0 = .ok (.aload_n 0, 1) := by decide +kernel
theorem dX12_unfact_1 : decode cX12_unfact 1 = .ok (.iconst 0, 1) := by decide +kernel
theorem dX12_unfact_2 : decode cX12_unfact 2 = .ok (.putfield 102, 3) := by decide +kernel
theorem dX12_unfact_5 : decode cX12_unfact 5 = .ok (.aload_n 0, 1) := by decide +kernel
theorem dX12_unfact_6 : decode cX12_unfact 6 = .ok (.getfield 112, 3) := by decide +kernel
theorem dX12_unfact_9 : decode cX12_unfact 9 = .ok (.ifCond .ne 10, 3) := by decide +kernel
theorem dX12_unfact_12 : decode cX12_unfact 12 = .ok (.aload_n 0, 1) := by decide +kernel
theorem dX12_unfact_13 : decode cX12_unfact 13 = .ok (.bipush (-3), 2) := by decide +kernel
theorem dX12_unfact_15 : decode cX12_unfact 15 = .ok (.invokevirtual 154, 3) := by decide +kernel
theorem dX12_unfact_18 : decode cX12_unfact 18 = .ok (.ireturn, 1) := by decide +kernel
theorem dX12_unfact_19 : decode cX12_unfact 19 = .ok (.aload_n 0, 1) := by decide +kernel
theorem dX12_unfact_20 : decode cX12_unfact 20 = .ok (.dup, 1) := by decide +kernel
theorem dX12_unfact_21 : decode cX12_unfact 21 = .ok (.getfield 112, 3) := by decide +kernel
theorem dX12_unfact_24 : decode cX12_unfact 24 = .ok (.iconst 1, 1) := by decide +kernel
theorem dX12_unfact_25 : decode cX12_unfact 25 = .ok (.isub, 1) := by decide +kernel
theorem dX12_unfact_26 : decode cX12_unfact 26 = .ok (.putfield 112, 3) := by decide +kernel
theorem dX12_unfact_29 : decode cX12_unfact 29 = .ok (.aload_n 0, 1) := by decide +kernel
theorem dX12_unfact_30 : decode cX12_unfact 30 = .ok (.getfield 112, 3) := by decide +kernel
theorem dX12_unfact_33 : decode cX12_unfact 33 = .ok (.ireturn, 1) := by decide +kernel
noncomputable def g_M_unfact (σ : am_St) : Option (Int32 × am_St) :=
  let s1 := am_sI σ 66 22 0
  if (s1.1 66 3) = 0 then
    (f_M_refuse (-3) s1).bind (fun p3 =>
      some ((p3.1, p3.2)))
  else
    let s2 := am_sI s1 66 3 ((s1.1 66 3) - 1)
    some ((s2.1 66 3, s2))
noncomputable def f_M_unfact (σ : am_St) : Option (Int32 × am_St) := am_lk (g_M_unfact  σ)
theorem eq_M_unfact (σ : am_St) : f_M_unfact  σ = g_M_unfact  σ := am_lk_eq _
set_option maxRecDepth 100000 in
set_option maxHeartbeats 4000000 in
theorem s_M_unfact (G : am_G) (σ : am_St) (r : Int32 × am_St) (Q : am_AQ) (e : f_M_unfact  σ = some r) (hr : am_Pi r Q) : am_AW G M_M_unfact 0 [(0, .ref 66)] [] σ Q :=
  (show am_Snd G M_M_unfact 0 am_Pi _ from (sn_aload_n (pc := 0) (i := 0) dX12_unfact_0 rfl (sn_iconst (pc := 1) (v := 0) dX12_unfact_1 rfl (sn_pI (pc := 2) (h := 66) (f := 22) dX12_unfact_2 am_CL_11 sh_66 rfl (Nat.le_of_ble_eq_true rfl) tw_963 rfl rfl (sn_aload_n (pc := 5) (i := 0) dX12_unfact_5 rfl (sn_gI (pc := 6) (h := 66) (f := 3) dX12_unfact_6 am_CL_11 sh_66 rfl (Nat.le_of_ble_eq_true rfl) tw_944 (sn_if_ne (pc := 9) (tgt := 19) dX12_unfact_9 rfl (sn_aload_n (pc := 19) (i := 0) dX12_unfact_19 rfl (sn_dup (pc := 20) dX12_unfact_20 (sn_gI (pc := 21) (h := 66) (f := 3) dX12_unfact_21 am_CL_11 sh_66 rfl (Nat.le_of_ble_eq_true rfl) tw_944 (sn_iconst (pc := 24) (v := 1) dX12_unfact_24 rfl (sn_isub (pc := 25) dX12_unfact_25 (sn_pI (pc := 26) (h := 66) (f := 3) dX12_unfact_26 am_CL_11 sh_66 rfl (Nat.le_of_ble_eq_true rfl) tw_944 rfl rfl (sn_aload_n (pc := 29) (i := 0) dX12_unfact_29 rfl (sn_gI (pc := 30) (h := 66) (f := 3) dX12_unfact_30 am_CL_11 sh_66 rfl (Nat.le_of_ble_eq_true rfl) tw_944 (sn_reti (pc := 33) (R := fun x τ => (some ((x, τ)))) dX12_unfact_33 rfl (fun _ _ _ _ e h => by cases e; exact h)))))))))) (sn_aload_n (pc := 12) (i := 0) dX12_unfact_12 rfl (sn_bipush (pc := 13) (v := (-3)) dX12_unfact_13 (show (Int8.ofInt (-3)).toInt32 = (-3) by decide) (sn_callV (pc := 15) (N := M_M_refuse) dX12_unfact_15 (cal_M_refuse G) sh_66 rfl tw_1090 tw_1092 tp_23 tw_12 tw_1093 dsc_X12_refuse rfl (sn_reti (pc := 18) (R := fun x τ => (some ((x, τ)))) dX12_unfact_18 rfl (fun _ _ _ _ e h => by cases e; exact h)))))))))))) _ _ _ _ _ ((eq_M_unfact  σ).symm.trans e) hr
noncomputable def cF_M_unfact : am_Fn := fun _ args σ K => match args with
  | [.ref q0] => match Nat.beq q0 66 with
    | true => (f_M_unfact σ).bind (fun p => K (some (.int p.1)) p.2)
    | _ => none
  | _ => none
theorem cal_M_unfact (G : am_G) : am_Cal G M_M_unfact cF_M_unfact := by
  intro ρ args σ K r e
  unfold cF_M_unfact at e
  split at e
  · split at e
    · rename_i hq0
      obtain ⟨p, h1, h2⟩ := am_bind_some e
      rw [Nat.eq_of_beq_eq_true hq0]
      exact ⟨some (.int p.1), p.2, am_Met.of rfl (Nat.le_of_ble_eq_true rfl) (s_M_unfact G  σ p _ h1 ⟨rfl, rfl⟩), h2⟩
    · cases e
  · cases e
abbrev M_M_wrongNumber : am_MD := (yX12_wrongNumber, cX12_wrongNumber, 3, (some .int), 0, 0)
theorem dX12_wrongNumber_0 : decode cX12_wrongNumber 0 = .ok (.iload_n 0, 1) := by decide +kernel
theorem dX12_wrongNumber_1 : decode cX12_wrongNumber 1 = .ok (.iload_n 1, 1) := by decide +kernel
theorem dX12_wrongNumber_2 : decode cX12_wrongNumber 2 = .ok (.if_icmp .ge 8, 3) := by decide +kernel
theorem dX12_wrongNumber_5 : decode cX12_wrongNumber 5 = .ok (.bipush (-4), 2) := by decide +kernel
theorem dX12_wrongNumber_7 : decode cX12_wrongNumber 7 = .ok (.goto 14, 3) := by decide +kernel
theorem dX12_wrongNumber_10 : decode cX12_wrongNumber 10 = .ok (.iload_n 0, 1) := by decide +kernel
theorem dX12_wrongNumber_11 : decode cX12_wrongNumber 11 = .ok (.iload_n 2, 1) := by decide +kernel
theorem dX12_wrongNumber_12 : decode cX12_wrongNumber 12 = .ok (.if_icmp .le 8, 3) := by decide +kernel
theorem dX12_wrongNumber_15 : decode cX12_wrongNumber 15 = .ok (.bipush (-6), 2) := by decide +kernel
theorem dX12_wrongNumber_17 : decode cX12_wrongNumber 17 = .ok (.goto 4, 3) := by decide +kernel
theorem dX12_wrongNumber_20 : decode cX12_wrongNumber 20 = .ok (.iconst 0, 1) := by decide +kernel
theorem dX12_wrongNumber_21 : decode cX12_wrongNumber 21 = .ok (.ireturn, 1) := by decide +kernel
noncomputable def g_M_wrongNumber (x0 : Int32) (x1 : Int32) (x2 : Int32) (σ : am_St) : Option (Int32 × am_St) :=
  if x1 ≤ x0 then
    if x0 ≤ x2 then
      some ((0, σ))
    else
      some (((-6), σ))
  else
    some (((-4), σ))
noncomputable def f_M_wrongNumber (x0 : Int32) (x1 : Int32) (x2 : Int32) (σ : am_St) : Option (Int32 × am_St) := am_lk (g_M_wrongNumber x0 x1 x2 σ)
theorem eq_M_wrongNumber (x0 : Int32) (x1 : Int32) (x2 : Int32) (σ : am_St) : f_M_wrongNumber x0 x1 x2 σ = g_M_wrongNumber x0 x1 x2 σ := am_lk_eq _
set_option maxRecDepth 100000 in
set_option maxHeartbeats 4000000 in
theorem s_M_wrongNumber (G : am_G) (x0 : Int32) (x1 : Int32) (x2 : Int32) (σ : am_St) (r : Int32 × am_St) (Q : am_AQ) (e : f_M_wrongNumber x0 x1 x2 σ = some r) (hr : am_Pi r Q) : am_AW G M_M_wrongNumber 0 [(0, .int x0), (1, .int x1), (2, .int x2)] [] σ Q :=
  (show am_Snd G M_M_wrongNumber 0 am_Pi _ from (sn_iload_n (pc := 0) (i := 0) dX12_wrongNumber_0 rfl (sn_iload_n (pc := 1) (i := 1) dX12_wrongNumber_1 rfl (sn_icmp_ge (pc := 2) (tgt := 10) dX12_wrongNumber_2 rfl (sn_iload_n (pc := 10) (i := 0) dX12_wrongNumber_10 rfl (sn_iload_n (pc := 11) (i := 2) dX12_wrongNumber_11 rfl (sn_icmp_le (pc := 12) (tgt := 20) dX12_wrongNumber_12 rfl (sn_iconst (pc := 20) (v := 0) dX12_wrongNumber_20 rfl (sn_reti (pc := 21) (R := fun x τ => (some ((x, τ)))) dX12_wrongNumber_21 rfl (fun _ _ _ _ e h => by cases e; exact h))) (sn_bipush (pc := 15) (v := (-6)) dX12_wrongNumber_15 (show (Int8.ofInt (-6)).toInt32 = (-6) by decide) (sn_goto (pc := 17) (tgt := 21) dX12_wrongNumber_17 rfl (sn_reti (pc := 21) (R := fun x τ => (some ((x, τ)))) dX12_wrongNumber_21 rfl (fun _ _ _ _ e h => by cases e; exact h))))))) (sn_bipush (pc := 5) (v := (-4)) dX12_wrongNumber_5 (show (Int8.ofInt (-4)).toInt32 = (-4) by decide) (sn_goto (pc := 7) (tgt := 21) dX12_wrongNumber_7 rfl (sn_reti (pc := 21) (R := fun x τ => (some ((x, τ)))) dX12_wrongNumber_21 rfl (fun _ _ _ _ e h => by cases e; exact h)))))))) _ _ _ _ _ ((eq_M_wrongNumber x0 x1 x2 σ).symm.trans e) hr
noncomputable def cF_M_wrongNumber : am_Fn := fun _ args σ K => match args with
  | [.int z0, .int z1, .int z2] => (f_M_wrongNumber z0 z1 z2 σ).bind (fun p => K (some (.int p.1)) p.2)
  | _ => none
theorem cal_M_wrongNumber (G : am_G) : am_Cal G M_M_wrongNumber cF_M_wrongNumber := by
  intro ρ args σ K r e
  unfold cF_M_wrongNumber at e
  split at e
  · obtain ⟨p, h1, h2⟩ := am_bind_some e
    exact ⟨some (.int p.1), p.2, am_Met.of rfl (Nat.le_of_ble_eq_true rfl) (s_M_wrongNumber G _ _ _ σ p _ h1 ⟨rfl, rfl⟩), h2⟩
  · cases e
abbrev M_M_chance : am_MD := (yX12_chance, cX12_chance, 5, (some .int), 1, 25)
theorem dX12_chance_0 : decode cX12_chance 0 = .ok (.aload_n 0, 1) := by decide +kernel
theorem dX12_chance_1 : decode cX12_chance 1 = .ok (.iconst 0, 1) := by decide +kernel
theorem dX12_chance_2 : decode cX12_chance 2 = .ok (.putfield 102, 3) := by decide +kernel
theorem dX12_chance_5 : decode cX12_chance 5 = .ok (.iload_n 1, 1) := by decide +kernel
theorem dX12_chance_6 : decode cX12_chance 6 = .ok (.i2l, 1) := by decide +kernel
theorem dX12_chance_7 : decode cX12_chance 7 = .ok (.ldc2_w 191, 3) := by decide +kernel
theorem dX12_chance_10 : decode cX12_chance 10 = .ok (.ldc2_w 193, 3) := by decide +kernel
theorem dX12_chance_13 : decode cX12_chance 13 = .ok (.invokestatic 108, 3) := by decide +kernel
theorem dX12_chance_16 : decode cX12_chance 16 = .ok (.ifCond .eq 13, 3) := by decide +kernel
theorem dX12_chance_19 : decode cX12_chance 19 = .ok (.iload_n 2, 1) := by decide +kernel
theorem dX12_chance_20 : decode cX12_chance 20 = .ok (.iconst 0, 1) := by decide +kernel
theorem dX12_chance_21 : decode cX12_chance 21 = .ok (.bipush 99, 2) := by decide +kernel
theorem dX12_chance_23 : decode cX12_chance 23 = .ok (.invokestatic 268, 3) := by decide +kernel
theorem dX12_chance_26 : decode cX12_chance 26 = .ok (.goto 4, 3) := by decide +kernel
theorem dX12_chance_29 : decode cX12_chance 29 = .ok (.iconst (-1), 1) := by decide +kernel
theorem dX12_chance_30 : decode cX12_chance 30 = .ok (.istore_n 3, 1) := by decide +kernel
theorem dX12_chance_31 : decode cX12_chance 31 = .ok (.iload_n 3, 1) := by decide +kernel
theorem dX12_chance_32 : decode cX12_chance 32 = .ok (.ifCond .ge 9, 3) := by decide +kernel
theorem dX12_chance_35 : decode cX12_chance 35 = .ok (.aload_n 0, 1) := by decide +kernel
theorem dX12_chance_36 : decode cX12_chance 36 = .ok (.iload_n 3, 1) := by decide +kernel
theorem dX12_chance_37 : decode cX12_chance 37 = .ok (.invokevirtual 154, 3) := by decide +kernel
theorem dX12_chance_40 : decode cX12_chance 40 = .ok (.ireturn, 1) := by decide +kernel
theorem dX12_chance_41 : decode cX12_chance 41 = .ok (.aload_n 0, 1) := by decide +kernel
theorem dX12_chance_42 : decode cX12_chance 42 = .ok (.getfield 47, 3) := by decide +kernel
theorem dX12_chance_45 : decode cX12_chance 45 = .ok (.iload_n 1, 1) := by decide +kernel
theorem dX12_chance_46 : decode cX12_chance 46 = .ok (.iconst 4, 1) := by decide +kernel
theorem dX12_chance_47 : decode cX12_chance 47 = .ok (.isub, 1) := by decide +kernel
theorem dX12_chance_48 : decode cX12_chance 48 = .ok (.iaload, 1) := by decide +kernel
theorem dX12_chance_49 : decode cX12_chance 49 = .ok (.istore 4, 2) := by decide +kernel
theorem dX12_chance_51 : decode cX12_chance 51 = .ok (.aload_n 0, 1) := by decide +kernel
theorem dX12_chance_52 : decode cX12_chance 52 = .ok (.getfield 47, 3) := by decide +kernel
theorem dX12_chance_55 : decode cX12_chance 55 = .ok (.iload_n 1, 1) := by decide +kernel
theorem dX12_chance_56 : decode cX12_chance 56 = .ok (.iconst 4, 1) := by decide +kernel
theorem dX12_chance_57 : decode cX12_chance 57 = .ok (.isub, 1) := by decide +kernel
theorem dX12_chance_58 : decode cX12_chance 58 = .ok (.iload_n 2, 1) := by decide +kernel
theorem dX12_chance_59 : decode cX12_chance 59 = .ok (.iastore, 1) := by decide +kernel
theorem dX12_chance_60 : decode cX12_chance 60 = .ok (.iload 4, 2) := by decide +kernel
theorem dX12_chance_62 : decode cX12_chance 62 = .ok (.ireturn, 1) := by decide +kernel
noncomputable def g_M_chance_30 (x1 : Int32) (x2 : Int32) (y0 : Int32) (σ : am_St) : Option (Int32 × am_St) :=
  if 0 ≤ y0 then
    if am_ix (x1 - 4) 3 = true then
      let v1 := σ.1 77 (x1 - 4).toNatClampNeg
      if am_ix (x1 - 4) 3 = true then
        let s2 := am_sI σ 77 (x1 - 4).toNatClampNeg x2
        some ((v1, s2))
      else none
    else none
  else
    (f_M_refuse y0 σ).bind (fun p3 =>
      some ((p3.1, p3.2)))
noncomputable def f_M_chance_30 (x1 : Int32) (x2 : Int32) (y0 : Int32) (σ : am_St) : Option (Int32 × am_St) := am_lk (g_M_chance_30 x1 x2 y0 σ)
theorem eq_M_chance_30 (x1 : Int32) (x2 : Int32) (y0 : Int32) (σ : am_St) : f_M_chance_30 x1 x2 y0 σ = g_M_chance_30 x1 x2 y0 σ := am_lk_eq _
set_option maxRecDepth 100000 in
set_option maxHeartbeats 4000000 in
theorem s_M_chance_30 (G : am_G) (x1 : Int32) (x2 : Int32) (y0 : Int32) (σ : am_St) (r : Int32 × am_St) (Q : am_AQ) (e : f_M_chance_30 x1 x2 y0 σ = some r) (hr : am_Pi r Q) : am_AW G M_M_chance 30 [(2, .int x2), (1, .int x1), (0, .ref 66)] [.int y0] σ Q :=
  (show am_Snd G M_M_chance 30 am_Pi _ from (sn_istore_n (pc := 30) (i := 3) dX12_chance_30 rfl (Nat.le_of_ble_eq_true rfl) (sn_iload_n (pc := 31) (i := 3) dX12_chance_31 rfl (sn_if_ge (pc := 32) (tgt := 41) dX12_chance_32 rfl (sn_aload_n (pc := 41) (i := 0) dX12_chance_41 rfl (sn_gR (r0 := 77) (pc := 42) (h := 66) (f := 17) dX12_chance_42 am_CL_11 sh_66 rfl (Nat.le_of_ble_eq_true rfl) tw_958 (sn_iload_n (pc := 45) (i := 1) dX12_chance_45 rfl (sn_iconst (pc := 46) (v := 4) dX12_chance_46 rfl (sn_isub (pc := 47) dX12_chance_47 (sn_aI (pc := 48) (h := 77) dX12_chance_48 sh_77 (sn_istore (pc := 49) dX12_chance_49 (Nat.le_of_ble_eq_true rfl) (sn_aload_n (pc := 51) (i := 0) dX12_chance_51 rfl (sn_gR (r0 := 77) (pc := 52) (h := 66) (f := 17) dX12_chance_52 am_CL_11 sh_66 rfl (Nat.le_of_ble_eq_true rfl) tw_958 (sn_iload_n (pc := 55) (i := 1) dX12_chance_55 rfl (sn_iconst (pc := 56) (v := 4) dX12_chance_56 rfl (sn_isub (pc := 57) dX12_chance_57 (sn_iload_n (pc := 58) (i := 2) dX12_chance_58 rfl (sn_sI (pc := 59) (h := 77) dX12_chance_59 sh_77 (sn_iload (pc := 60) dX12_chance_60 (sn_reti (pc := 62) (R := fun x τ => (some ((x, τ)))) dX12_chance_62 rfl (fun _ _ _ _ e h => by cases e; exact h))))))))))))))))) (sn_aload_n (pc := 35) (i := 0) dX12_chance_35 rfl (sn_iload_n (pc := 36) (i := 3) dX12_chance_36 rfl (sn_callV (pc := 37) (N := M_M_refuse) dX12_chance_37 (cal_M_refuse G) sh_66 rfl tw_1090 tw_1092 tp_23 tw_12 tw_1093 dsc_X12_refuse rfl (sn_reti (pc := 40) (R := fun x τ => (some ((x, τ)))) dX12_chance_40 rfl (fun _ _ _ _ e h => by cases e; exact h))))))))) _ _ _ _ _ ((eq_M_chance_30 x1 x2 y0 σ).symm.trans e) hr
noncomputable def g_M_chance (x1 : Int32) (x2 : Int32) (σ : am_St) : Option (Int32 × am_St) :=
  let s1 := am_sI σ 66 22 0
  (f_M_in x1.toInt64 4 6 s1).bind (fun p2 =>
    if p2.1 = 0 then
      f_M_chance_30 x1 x2 ((-1)) p2.2
    else
      (f_M_wrongNumber x2 0 99 p2.2).bind (fun p3 =>
        f_M_chance_30 x1 x2 p3.1 p3.2))
noncomputable def f_M_chance (x1 : Int32) (x2 : Int32) (σ : am_St) : Option (Int32 × am_St) := am_lk (g_M_chance x1 x2 σ)
theorem eq_M_chance (x1 : Int32) (x2 : Int32) (σ : am_St) : f_M_chance x1 x2 σ = g_M_chance x1 x2 σ := am_lk_eq _
set_option maxRecDepth 100000 in
set_option maxHeartbeats 4000000 in
theorem s_M_chance (G : am_G) (x1 : Int32) (x2 : Int32) (σ : am_St) (r : Int32 × am_St) (Q : am_AQ) (e : f_M_chance x1 x2 σ = some r) (hr : am_Pi r Q) : am_AW G M_M_chance 0 [(0, .ref 66), (1, .int x1), (2, .int x2)] [] σ Q :=
  (show am_Snd G M_M_chance 0 am_Pi _ from (sn_aload_n (pc := 0) (i := 0) dX12_chance_0 rfl (sn_iconst (pc := 1) (v := 0) dX12_chance_1 rfl (sn_pI (pc := 2) (h := 66) (f := 22) dX12_chance_2 am_CL_11 sh_66 rfl (Nat.le_of_ble_eq_true rfl) tw_963 rfl rfl (sn_iload_n (pc := 5) (i := 1) dX12_chance_5 rfl (sn_i2l (pc := 6) dX12_chance_6 (sn_ldc2 (pc := 7) dX12_chance_7 tw_1124 (sn_ldc2 (pc := 10) dX12_chance_10 tw_1125 (sn_callS (pc := 13) (N := M_M_in) dX12_chance_13 (cal_M_in G) tw_1116 tw_1117 tw_12 tw_1118 dsc_X12_in rfl (sn_if_eq (pc := 16) (tgt := 29) dX12_chance_16 rfl (sn_iconst (pc := 29) (v := (-1)) dX12_chance_29 (show Int32.ofInt (-1) = (-1) by decide) (sn_lf (pc := 30) (ln_a (i := 0) (q := 66) (ln_i (i := 1) (fun z0 => (ln_i (i := 2) (fun z1 => (ln_si (fun w0 => (ln_end (o := fun τ => f_M_chance_30 z0 z1 w0 τ) (fun _ _ _ e h => s_M_chance_30 G z0 z1 w0 _ _ _ e h))))))))))) (sn_iload_n (pc := 19) (i := 2) dX12_chance_19 rfl (sn_iconst (pc := 20) (v := 0) dX12_chance_20 rfl (sn_bipush (pc := 21) (v := 99) dX12_chance_21 rfl (sn_callS (pc := 23) (N := M_M_wrongNumber) dX12_chance_23 (cal_M_wrongNumber G) tw_1250 tw_1251 tw_12 tw_1252 dsc_X12_wrongNumber rfl (sn_goto (pc := 26) (tgt := 30) dX12_chance_26 rfl (sn_lf (pc := 30) (ln_a (i := 0) (q := 66) (ln_i (i := 1) (fun z0 => (ln_i (i := 2) (fun z1 => (ln_si (fun w0 => (ln_end (o := fun τ => f_M_chance_30 z0 z1 w0 τ) (fun _ _ _ e h => s_M_chance_30 G z0 z1 w0 _ _ _ e h))))))))))))))))))))))))) _ _ _ _ _ ((eq_M_chance x1 x2 σ).symm.trans e) hr
noncomputable def cF_M_chance : am_Fn := fun _ args σ K => match args with
  | [.ref q0, .int z1, .int z2] => match Nat.beq q0 66 with
    | true => (f_M_chance z1 z2 σ).bind (fun p => K (some (.int p.1)) p.2)
    | _ => none
  | _ => none
theorem cal_M_chance (G : am_G) : am_Cal G M_M_chance cF_M_chance := by
  intro ρ args σ K r e
  unfold cF_M_chance at e
  split at e
  · split at e
    · rename_i hq0
      obtain ⟨p, h1, h2⟩ := am_bind_some e
      rw [Nat.eq_of_beq_eq_true hq0]
      exact ⟨some (.int p.1), p.2, am_Met.of rfl (Nat.le_of_ble_eq_true rfl) (s_M_chance G _ _ σ p _ h1 ⟨rfl, rfl⟩), h2⟩
    · cases e
  · cases e
abbrev M_M_waysAt : am_MD := (yX12_waysAt, cX12_waysAt, 4, (some .int), 2, 45)
theorem dX12_waysAt_0 : decode cX12_waysAt 0 = .ok (.aload_n 0, 1) := by decide +kernel
theorem dX12_waysAt_1 : decode cX12_waysAt 1 = .ok (.iload_n 1, 1) := by decide +kernel
theorem dX12_waysAt_2 : decode cX12_waysAt 2 = .ok (.invokevirtual 119, 3) := by decide +kernel
theorem dX12_waysAt_5 : decode cX12_waysAt 5 = .ok (.aload_n 0, 1) := by decide +kernel
theorem dX12_waysAt_6 : decode cX12_waysAt 6 = .ok (.getfield 65, 3) := by decide +kernel
theorem dX12_waysAt_9 : decode cX12_waysAt 9 = .ok (.iload_n 2, 1) := by decide +kernel
theorem dX12_waysAt_10 : decode cX12_waysAt 10 = .ok (.dup2, 1) := by decide +kernel
theorem dX12_waysAt_11 : decode cX12_waysAt 11 = .ok (.iaload, 1) := by decide +kernel
theorem dX12_waysAt_12 : decode cX12_waysAt 12 = .ok (.iconst 1, 1) := by decide +kernel
theorem dX12_waysAt_13 : decode cX12_waysAt 13 = .ok (.iload_n 3, 1) := by decide +kernel
theorem dX12_waysAt_14 : decode cX12_waysAt 14 = .ok (.ishl, 1) := by decide +kernel
theorem dX12_waysAt_15 : decode cX12_waysAt 15 = .ok (.iand, 1) := by decide +kernel
theorem dX12_waysAt_16 : decode cX12_waysAt 16 = .ok (.iastore, 1) := by decide +kernel
theorem dX12_waysAt_17 : decode cX12_waysAt 17 = .ok (.aload_n 0, 1) := by decide +kernel
theorem dX12_waysAt_18 : decode cX12_waysAt 18 = .ok (.invokevirtual 123, 3) := by decide +kernel
theorem dX12_waysAt_21 : decode cX12_waysAt 21 = .ok (.ireturn, 1) := by decide +kernel
noncomputable def g_M_waysAt (x1 : Int32) (x2 : Int32) (x3 : Int32) (σ : am_St) : Option (Int32 × am_St) :=
  (f_M_layMay x1 σ).bind (fun p1 =>
    if am_ix x2 6 = true then
      if am_ix x2 6 = true then
        let s2 := am_sI p1 83 x2.toNatClampNeg ((p1.1 83 x2.toNatClampNeg) &&& (1 <<< (x3 &&& 31)))
        (f_M_countWays s2).bind (fun p3 =>
          some ((p3.1, p3.2)))
      else none
    else none)
noncomputable def f_M_waysAt (x1 : Int32) (x2 : Int32) (x3 : Int32) (σ : am_St) : Option (Int32 × am_St) := am_lk (g_M_waysAt x1 x2 x3 σ)
theorem eq_M_waysAt (x1 : Int32) (x2 : Int32) (x3 : Int32) (σ : am_St) : f_M_waysAt x1 x2 x3 σ = g_M_waysAt x1 x2 x3 σ := am_lk_eq _
set_option maxRecDepth 100000 in
set_option maxHeartbeats 4000000 in
theorem s_M_waysAt (G : am_G) (x1 : Int32) (x2 : Int32) (x3 : Int32) (σ : am_St) (r : Int32 × am_St) (Q : am_AQ) (e : f_M_waysAt x1 x2 x3 σ = some r) (hr : am_Pi r Q) : am_AW G M_M_waysAt 0 [(0, .ref 66), (1, .int x1), (2, .int x2), (3, .int x3)] [] σ Q :=
  (show am_Snd G M_M_waysAt 0 am_Pi _ from (sn_aload_n (pc := 0) (i := 0) dX12_waysAt_0 rfl (sn_iload_n (pc := 1) (i := 1) dX12_waysAt_1 rfl (sn_callV (pc := 2) (N := M_M_layMay) dX12_waysAt_2 (cal_M_layMay G) sh_66 rfl tw_1162 tw_1164 tp_38 tw_12 tw_1165 dsc_X12_layMay rfl (sn_aload_n (pc := 5) (i := 0) dX12_waysAt_5 rfl (sn_gR (r0 := 83) (pc := 6) (h := 66) (f := 24) dX12_waysAt_6 am_CL_11 sh_66 rfl (Nat.le_of_ble_eq_true rfl) tw_965 (sn_iload_n (pc := 9) (i := 2) dX12_waysAt_9 rfl (sn_dup2 (pc := 10) dX12_waysAt_10 (sn_aI (pc := 11) (h := 83) dX12_waysAt_11 sh_83 (sn_iconst (pc := 12) (v := 1) dX12_waysAt_12 rfl (sn_iload_n (pc := 13) (i := 3) dX12_waysAt_13 rfl (sn_ishl (pc := 14) dX12_waysAt_14 (sn_iand (pc := 15) dX12_waysAt_15 (sn_sI (pc := 16) (h := 83) dX12_waysAt_16 sh_83 (sn_aload_n (pc := 17) (i := 0) dX12_waysAt_17 rfl (sn_callV (pc := 18) (N := M_M_countWays) dX12_waysAt_18 (cal_M_countWays G) sh_66 rfl tw_1166 tw_1168 tp_39 tw_12 tw_1169 dsc_X12_countWays rfl (sn_reti (pc := 21) (R := fun x τ => (some ((x, τ)))) dX12_waysAt_21 rfl (fun _ _ _ _ e h => by cases e; exact h)))))))))))))))))) _ _ _ _ _ ((eq_M_waysAt x1 x2 x3 σ).symm.trans e) hr
noncomputable def cF_M_waysAt : am_Fn := fun _ args σ K => match args with
  | [.ref q0, .int z1, .int z2, .int z3] => match Nat.beq q0 66 with
    | true => (f_M_waysAt z1 z2 z3 σ).bind (fun p => K (some (.int p.1)) p.2)
    | _ => none
  | _ => none
theorem cal_M_waysAt (G : am_G) : am_Cal G M_M_waysAt cF_M_waysAt := by
  intro ρ args σ K r e
  unfold cF_M_waysAt at e
  split at e
  · split at e
    · rename_i hq0
      obtain ⟨p, h1, h2⟩ := am_bind_some e
      rw [Nat.eq_of_beq_eq_true hq0]
      exact ⟨some (.int p.1), p.2, am_Met.of rfl (Nat.le_of_ble_eq_true rfl) (s_M_waysAt G _ _ _ σ p _ h1 ⟨rfl, rfl⟩), h2⟩
    · cases e
  · cases e
abbrev M_M_thereOf : am_MD := (yX12_thereOf, cX12_thereOf, 2, (some .int), 3, 68)
theorem dX12_thereOf_0 : decode cX12_thereOf 0 = .ok (.aload_n 0, 1) := by decide +kernel
theorem dX12_thereOf_1 : decode cX12_thereOf 1 = .ok (.iload_n 1, 1) := by decide +kernel
theorem dX12_thereOf_2 : decode cX12_thereOf 2 = .ok (.aload_n 0, 1) := by decide +kernel
theorem dX12_thereOf_3 : decode cX12_thereOf 3 = .ok (.getfield 127, 3) := by decide +kernel
theorem dX12_thereOf_6 : decode cX12_thereOf 6 = .ok (.aload_n 0, 1) := by decide +kernel
theorem dX12_thereOf_7 : decode cX12_thereOf 7 = .ok (.getfield 130, 3) := by decide +kernel
theorem dX12_thereOf_10 : decode cX12_thereOf 10 = .ok (.invokevirtual 133, 3) := by decide +kernel
theorem dX12_thereOf_13 : decode cX12_thereOf 13 = .ok (.ireturn, 1) := by decide +kernel
noncomputable def g_M_thereOf (x1 : Int32) (σ : am_St) : Option (Int32 × am_St) :=
  (f_M_waysAt x1 (σ.1 66 6) (σ.1 66 5) σ).bind (fun p1 =>
    some ((p1.1, p1.2)))
noncomputable def f_M_thereOf (x1 : Int32) (σ : am_St) : Option (Int32 × am_St) := am_lk (g_M_thereOf x1 σ)
theorem eq_M_thereOf (x1 : Int32) (σ : am_St) : f_M_thereOf x1 σ = g_M_thereOf x1 σ := am_lk_eq _
set_option maxRecDepth 100000 in
set_option maxHeartbeats 4000000 in
theorem s_M_thereOf (G : am_G) (x1 : Int32) (σ : am_St) (r : Int32 × am_St) (Q : am_AQ) (e : f_M_thereOf x1 σ = some r) (hr : am_Pi r Q) : am_AW G M_M_thereOf 0 [(0, .ref 66), (1, .int x1)] [] σ Q :=
  (show am_Snd G M_M_thereOf 0 am_Pi _ from (sn_aload_n (pc := 0) (i := 0) dX12_thereOf_0 rfl (sn_iload_n (pc := 1) (i := 1) dX12_thereOf_1 rfl (sn_aload_n (pc := 2) (i := 0) dX12_thereOf_2 rfl (sn_gI (pc := 3) (h := 66) (f := 6) dX12_thereOf_3 am_CL_11 sh_66 rfl (Nat.le_of_ble_eq_true rfl) tw_947 (sn_aload_n (pc := 6) (i := 0) dX12_thereOf_6 rfl (sn_gI (pc := 7) (h := 66) (f := 5) dX12_thereOf_7 am_CL_11 sh_66 rfl (Nat.le_of_ble_eq_true rfl) tw_946 (sn_callV (pc := 10) (N := M_M_waysAt) dX12_thereOf_10 (cal_M_waysAt G) sh_66 rfl tw_1261 tw_1263 tp_51 tw_12 tw_1264 dsc_X12_waysAt rfl (sn_reti (pc := 13) (R := fun x τ => (some ((x, τ)))) dX12_thereOf_13 rfl (fun _ _ _ _ e h => by cases e; exact h)))))))))) _ _ _ _ _ ((eq_M_thereOf x1 σ).symm.trans e) hr
noncomputable def cF_M_thereOf : am_Fn := fun _ args σ K => match args with
  | [.ref q0, .int z1] => match Nat.beq q0 66 with
    | true => (f_M_thereOf z1 σ).bind (fun p => K (some (.int p.1)) p.2)
    | _ => none
  | _ => none
theorem cal_M_thereOf (G : am_G) : am_Cal G M_M_thereOf cF_M_thereOf := by
  intro ρ args σ K r e
  unfold cF_M_thereOf at e
  split at e
  · split at e
    · rename_i hq0
      obtain ⟨p, h1, h2⟩ := am_bind_some e
      rw [Nat.eq_of_beq_eq_true hq0]
      exact ⟨some (.int p.1), p.2, am_Met.of rfl (Nat.le_of_ble_eq_true rfl) (s_M_thereOf G _ σ p _ h1 ⟨rfl, rfl⟩), h2⟩
    · cases e
  · cases e
abbrev M_M_ways : am_MD := (yX12_ways, cX12_ways, 3, (some .int), 4, 89)
theorem dX12_ways_0 : decode cX12_ways 0 = .ok (.aload_n 0, 1) := by decide +kernel
theorem dX12_ways_1 : decode cX12_ways 1 = .ok (.iconst 0, 1) := by decide +kernel
theorem dX12_ways_2 : decode cX12_ways 2 = .ok (.putfield 102, 3) := by decide +kernel
theorem dX12_ways_5 : decode cX12_ways 5 = .ok (.aload_n 0, 1) := by decide +kernel
theorem dX12_ways_6 : decode cX12_ways 6 = .ok (.iload_n 1, 1) := by decide +kernel
theorem dX12_ways_7 : decode cX12_ways 7 = .ok (.invokevirtual 203, 3) := by decide +kernel
theorem dX12_ways_10 : decode cX12_ways 10 = .ok (.ifCond .eq 13, 3) := by decide +kernel
theorem dX12_ways_13 : decode cX12_ways 13 = .ok (.iload_n 2, 1) := by decide +kernel
theorem dX12_ways_14 : decode cX12_ways 14 = .ok (.i2l, 1) := by decide +kernel
theorem dX12_ways_15 : decode cX12_ways 15 = .ok (.lconst 0, 1) := by decide +kernel
theorem dX12_ways_16 : decode cX12_ways 16 = .ok (.lconst 1, 1) := by decide +kernel
theorem dX12_ways_17 : decode cX12_ways 17 = .ok (.invokestatic 108, 3) := by decide +kernel
theorem dX12_ways_20 : decode cX12_ways 20 = .ok (.ifCond .ne 22, 3) := by decide +kernel
theorem dX12_ways_23 : decode cX12_ways 23 = .ok (.aload_n 0, 1) := by decide +kernel
theorem dX12_ways_24 : decode cX12_ways 24 = .ok (.aload_n 0, 1) := by decide +kernel
theorem dX12_ways_25 : decode cX12_ways 25 = .ok (.iload_n 1, 1) := by decide +kernel
theorem dX12_ways_26 : decode cX12_ways 26 = .ok (.invokevirtual 203, 3) := by decide +kernel
theorem dX12_ways_29 : decode cX12_ways 29 = .ok (.ifCond .eq 8, 3) := by decide +kernel
theorem dX12_ways_32 : decode cX12_ways 32 = .ok (.bipush (-2), 2) := by decide +kernel
theorem dX12_ways_34 : decode cX12_ways 34 = .ok (.goto 4, 3) := by decide +kernel
theorem dX12_ways_37 : decode cX12_ways 37 = .ok (.iconst (-1), 1) := by decide +kernel
theorem dX12_ways_38 : decode cX12_ways 38 = .ok (.invokevirtual 154, 3) := by decide +kernel
theorem dX12_ways_41 : decode cX12_ways 41 = .ok (.ireturn, 1) := by decide +kernel
theorem dX12_ways_42 : decode cX12_ways 42 = .ok (.iload_n 2, 1) := by decide +kernel
theorem dX12_ways_43 : decode cX12_ways 43 = .ok (.ifCond .ne 11, 3) := by decide +kernel
theorem dX12_ways_46 : decode cX12_ways 46 = .ok (.aload_n 0, 1) := by decide +kernel
theorem dX12_ways_47 : decode cX12_ways 47 = .ok (.iload_n 1, 1) := by decide +kernel
theorem dX12_ways_48 : decode cX12_ways 48 = .ok (.invokevirtual 137, 3) := by decide +kernel
theorem dX12_ways_51 : decode cX12_ways 51 = .ok (.goto 8, 3) := by decide +kernel
theorem dX12_ways_54 : decode cX12_ways 54 = .ok (.aload_n 0, 1) := by decide +kernel
theorem dX12_ways_55 : decode cX12_ways 55 = .ok (.iload_n 1, 1) := by decide +kernel
theorem dX12_ways_56 : decode cX12_ways 56 = .ok (.invokevirtual 271, 3) := by decide +kernel
theorem dX12_ways_59 : decode cX12_ways 59 = .ok (.ireturn, 1) := by decide +kernel
noncomputable def g_M_ways_38 (y1 : Int32) (σ : am_St) : Option (Int32 × am_St) :=
  (f_M_refuse y1 σ).bind (fun p1 =>
    some ((p1.1, p1.2)))
noncomputable def f_M_ways_38 (y1 : Int32) (σ : am_St) : Option (Int32 × am_St) := am_lk (g_M_ways_38 y1 σ)
theorem eq_M_ways_38 (y1 : Int32) (σ : am_St) : f_M_ways_38 y1 σ = g_M_ways_38 y1 σ := am_lk_eq _
set_option maxRecDepth 100000 in
set_option maxHeartbeats 4000000 in
theorem s_M_ways_38 (G : am_G) (y1 : Int32) (σ : am_St) (r : Int32 × am_St) (Q : am_AQ) (e : f_M_ways_38 y1 σ = some r) (hr : am_Pi r Q) : am_AW G M_M_ways 38 [] [.int y1, .ref 66] σ Q :=
  (show am_Snd G M_M_ways 38 am_Pi _ from (sn_callV (pc := 38) (N := M_M_refuse) dX12_ways_38 (cal_M_refuse G) sh_66 rfl tw_1090 tw_1092 tp_23 tw_12 tw_1093 dsc_X12_refuse rfl (sn_reti (pc := 41) (R := fun x τ => (some ((x, τ)))) dX12_ways_41 rfl (fun _ _ _ _ e h => by cases e; exact h)))) _ _ _ _ _ ((eq_M_ways_38 y1 σ).symm.trans e) hr
noncomputable def g_M_ways_23 (x1 : Int32) (σ : am_St) : Option (Int32 × am_St) :=
  (f_M_isChild x1 σ).bind (fun p1 =>
    if p1.1 = 0 then
      f_M_ways_38 ((-1)) p1.2
    else
      f_M_ways_38 ((-2)) p1.2)
noncomputable def f_M_ways_23 (x1 : Int32) (σ : am_St) : Option (Int32 × am_St) := am_lk (g_M_ways_23 x1 σ)
theorem eq_M_ways_23 (x1 : Int32) (σ : am_St) : f_M_ways_23 x1 σ = g_M_ways_23 x1 σ := am_lk_eq _
set_option maxRecDepth 100000 in
set_option maxHeartbeats 4000000 in
theorem s_M_ways_23 (G : am_G) (x1 : Int32) (σ : am_St) (r : Int32 × am_St) (Q : am_AQ) (e : f_M_ways_23 x1 σ = some r) (hr : am_Pi r Q) : am_AW G M_M_ways 23 [(1, .int x1), (0, .ref 66)] [] σ Q :=
  (show am_Snd G M_M_ways 23 am_Pi _ from (sn_aload_n (pc := 23) (i := 0) dX12_ways_23 rfl (sn_aload_n (pc := 24) (i := 0) dX12_ways_24 rfl (sn_iload_n (pc := 25) (i := 1) dX12_ways_25 rfl (sn_callV (pc := 26) (N := M_M_isChild) dX12_ways_26 (cal_M_isChild G) sh_66 rfl tw_1181 tw_1183 tp_42 tw_12 tw_1184 dsc_X12_isChild rfl (sn_if_eq (pc := 29) (tgt := 37) dX12_ways_29 rfl (sn_iconst (pc := 37) (v := (-1)) dX12_ways_37 (show Int32.ofInt (-1) = (-1) by decide) (sn_lf (pc := 38) (ln_si (fun w1 => (ln_sa (q := 66) (ln_end (o := fun τ => f_M_ways_38 w1 τ) (fun _ _ _ e h => s_M_ways_38 G w1 _ _ _ e h))))))) (sn_bipush (pc := 32) (v := (-2)) dX12_ways_32 (show (Int8.ofInt (-2)).toInt32 = (-2) by decide) (sn_goto (pc := 34) (tgt := 38) dX12_ways_34 rfl (sn_lf (pc := 38) (ln_si (fun w1 => (ln_sa (q := 66) (ln_end (o := fun τ => f_M_ways_38 w1 τ) (fun _ _ _ e h => s_M_ways_38 G w1 _ _ _ e h)))))))))))))) _ _ _ _ _ ((eq_M_ways_23 x1 σ).symm.trans e) hr
noncomputable def g_M_ways_42 (x1 : Int32) (x2 : Int32) (σ : am_St) : Option (Int32 × am_St) :=
  if x2 = 0 then
    (f_M_waysOf x1 σ).bind (fun p2 =>
      some ((p2.1, p2.2)))
  else
    (f_M_thereOf x1 σ).bind (fun p1 =>
      some ((p1.1, p1.2)))
noncomputable def f_M_ways_42 (x1 : Int32) (x2 : Int32) (σ : am_St) : Option (Int32 × am_St) := am_lk (g_M_ways_42 x1 x2 σ)
theorem eq_M_ways_42 (x1 : Int32) (x2 : Int32) (σ : am_St) : f_M_ways_42 x1 x2 σ = g_M_ways_42 x1 x2 σ := am_lk_eq _
set_option maxRecDepth 100000 in
set_option maxHeartbeats 4000000 in
theorem s_M_ways_42 (G : am_G) (x1 : Int32) (x2 : Int32) (σ : am_St) (r : Int32 × am_St) (Q : am_AQ) (e : f_M_ways_42 x1 x2 σ = some r) (hr : am_Pi r Q) : am_AW G M_M_ways 42 [(2, .int x2), (1, .int x1), (0, .ref 66)] [] σ Q :=
  (show am_Snd G M_M_ways 42 am_Pi _ from (sn_iload_n (pc := 42) (i := 2) dX12_ways_42 rfl (sn_if_ne (pc := 43) (tgt := 54) dX12_ways_43 rfl (sn_aload_n (pc := 54) (i := 0) dX12_ways_54 rfl (sn_iload_n (pc := 55) (i := 1) dX12_ways_55 rfl (sn_callV (pc := 56) (N := M_M_thereOf) dX12_ways_56 (cal_M_thereOf G) sh_66 rfl tw_1257 tw_1259 tp_50 tw_12 tw_1260 dsc_X12_thereOf rfl (sn_reti (pc := 59) (R := fun x τ => (some ((x, τ)))) dX12_ways_59 rfl (fun _ _ _ _ e h => by cases e; exact h))))) (sn_aload_n (pc := 46) (i := 0) dX12_ways_46 rfl (sn_iload_n (pc := 47) (i := 1) dX12_ways_47 rfl (sn_callV (pc := 48) (N := M_M_waysOf) dX12_ways_48 (cal_M_waysOf G) sh_66 rfl tw_1158 tw_1160 tp_37 tw_12 tw_1161 dsc_X12_waysOf rfl (sn_goto (pc := 51) (tgt := 59) dX12_ways_51 rfl (sn_reti (pc := 59) (R := fun x τ => (some ((x, τ)))) dX12_ways_59 rfl (fun _ _ _ _ e h => by cases e; exact h))))))))) _ _ _ _ _ ((eq_M_ways_42 x1 x2 σ).symm.trans e) hr
noncomputable def g_M_ways (x1 : Int32) (x2 : Int32) (σ : am_St) : Option (Int32 × am_St) :=
  let s1 := am_sI σ 66 22 0
  (f_M_isChild x1 s1).bind (fun p2 =>
    if p2.1 = 0 then
      f_M_ways_23 x1 p2.2
    else
      (f_M_in x2.toInt64 0 1 p2.2).bind (fun p3 =>
        if p3.1 = 0 then
          f_M_ways_23 x1 p3.2
        else
          f_M_ways_42 x1 x2 p3.2))
noncomputable def f_M_ways (x1 : Int32) (x2 : Int32) (σ : am_St) : Option (Int32 × am_St) := am_lk (g_M_ways x1 x2 σ)
theorem eq_M_ways (x1 : Int32) (x2 : Int32) (σ : am_St) : f_M_ways x1 x2 σ = g_M_ways x1 x2 σ := am_lk_eq _
set_option maxRecDepth 100000 in
set_option maxHeartbeats 4000000 in
theorem s_M_ways (G : am_G) (x1 : Int32) (x2 : Int32) (σ : am_St) (r : Int32 × am_St) (Q : am_AQ) (e : f_M_ways x1 x2 σ = some r) (hr : am_Pi r Q) : am_AW G M_M_ways 0 [(0, .ref 66), (1, .int x1), (2, .int x2)] [] σ Q :=
  (show am_Snd G M_M_ways 0 am_Pi _ from (sn_aload_n (pc := 0) (i := 0) dX12_ways_0 rfl (sn_iconst (pc := 1) (v := 0) dX12_ways_1 rfl (sn_pI (pc := 2) (h := 66) (f := 22) dX12_ways_2 am_CL_11 sh_66 rfl (Nat.le_of_ble_eq_true rfl) tw_963 rfl rfl (sn_aload_n (pc := 5) (i := 0) dX12_ways_5 rfl (sn_iload_n (pc := 6) (i := 1) dX12_ways_6 rfl (sn_callV (pc := 7) (N := M_M_isChild) dX12_ways_7 (cal_M_isChild G) sh_66 rfl tw_1181 tw_1183 tp_42 tw_12 tw_1184 dsc_X12_isChild rfl (sn_if_eq (pc := 10) (tgt := 23) dX12_ways_10 rfl (sn_lf (pc := 23) (ln_a (i := 0) (q := 66) (ln_i (i := 1) (fun z0 => (ln_end (o := fun τ => f_M_ways_23 z0 τ) (fun _ _ _ e h => s_M_ways_23 G z0 _ _ _ e h)))))) (sn_iload_n (pc := 13) (i := 2) dX12_ways_13 rfl (sn_i2l (pc := 14) dX12_ways_14 (sn_lconst (pc := 15) (v := 0) dX12_ways_15 rfl (sn_lconst (pc := 16) (v := 1) dX12_ways_16 rfl (sn_callS (pc := 17) (N := M_M_in) dX12_ways_17 (cal_M_in G) tw_1116 tw_1117 tw_12 tw_1118 dsc_X12_in rfl (sn_if_ne (pc := 20) (tgt := 42) dX12_ways_20 rfl (sn_lf (pc := 42) (ln_a (i := 0) (q := 66) (ln_i (i := 1) (fun z0 => (ln_i (i := 2) (fun z1 => (ln_end (o := fun τ => f_M_ways_42 z0 z1 τ) (fun _ _ _ e h => s_M_ways_42 G z0 z1 _ _ _ e h)))))))) (sn_lf (pc := 23) (ln_a (i := 0) (q := 66) (ln_i (i := 1) (fun z0 => (ln_end (o := fun τ => f_M_ways_23 z0 τ) (fun _ _ _ e h => s_M_ways_23 G z0 _ _ _ e h)))))))))))))))))))) _ _ _ _ _ ((eq_M_ways x1 x2 σ).symm.trans e) hr
noncomputable def cF_M_ways : am_Fn := fun _ args σ K => match args with
  | [.ref q0, .int z1, .int z2] => match Nat.beq q0 66 with
    | true => (f_M_ways z1 z2 σ).bind (fun p => K (some (.int p.1)) p.2)
    | _ => none
  | _ => none
theorem cal_M_ways (G : am_G) : am_Cal G M_M_ways cF_M_ways := by
  intro ρ args σ K r e
  unfold cF_M_ways at e
  split at e
  · split at e
    · rename_i hq0
      obtain ⟨p, h1, h2⟩ := am_bind_some e
      rw [Nat.eq_of_beq_eq_true hq0]
      exact ⟨some (.int p.1), p.2, am_Met.of rfl (Nat.le_of_ble_eq_true rfl) (s_M_ways G _ _ σ p _ h1 ⟨rfl, rfl⟩), h2⟩
    · cases e
  · cases e
abbrev M_M_can : am_MD := (yX12_can, cX12_can, 5, (some .int), 4, 89)
theorem dX12_can_0 : decode cX12_can 0 = .ok (.aload_n 0, 1) := by decide +kernel
theorem dX12_can_1 : decode cX12_can 1 = .ok (.iconst 0, 1) := by decide +kernel
theorem dX12_can_2 : decode cX12_can 2 = .ok (.putfield 102, 3) := by decide +kernel
theorem dX12_can_5 : decode cX12_can 5 = .ok (.iload_n 1, 1) := by decide +kernel
theorem dX12_can_6 : decode cX12_can 6 = .ok (.i2l, 1) := by decide +kernel
theorem dX12_can_7 : decode cX12_can 7 = .ok (.lconst 0, 1) := by decide +kernel
theorem dX12_can_8 : decode cX12_can 8 = .ok (.lconst 1, 1) := by decide +kernel
theorem dX12_can_9 : decode cX12_can 9 = .ok (.invokestatic 108, 3) := by decide +kernel
theorem dX12_can_12 : decode cX12_can 12 = .ok (.ifCond .ne 10, 3) := by decide +kernel
theorem dX12_can_15 : decode cX12_can 15 = .ok (.aload_n 0, 1) := by decide +kernel
theorem dX12_can_16 : decode cX12_can 16 = .ok (.bipush (-2), 2) := by decide +kernel
theorem dX12_can_18 : decode cX12_can 18 = .ok (.invokevirtual 154, 3) := by decide +kernel
theorem dX12_can_21 : decode cX12_can 21 = .ok (.ireturn, 1) := by decide +kernel
theorem dX12_can_22 : decode cX12_can 22 = .ok (.iconst 0, 1) := by decide +kernel
theorem dX12_can_23 : decode cX12_can 23 = .ok (.istore_n 2, 1) := by decide +kernel
theorem dX12_can_24 : decode cX12_can 24 = .ok (.iconst 0, 1) := by decide +kernel
theorem dX12_can_25 : decode cX12_can 25 = .ok (.istore_n 3, 1) := by decide +kernel
theorem dX12_can_26 : decode cX12_can 26 = .ok (.iload_n 3, 1) := by decide +kernel
theorem dX12_can_27 : decode cX12_can 27 = .ok (.aload_n 0, 1) := by decide +kernel
theorem dX12_can_28 : decode cX12_can 28 = .ok (.getfield 105, 3) := by decide +kernel
theorem dX12_can_31 : decode cX12_can 31 = .ok (.if_icmp .ge 64, 3) := by decide +kernel
theorem dX12_can_34 : decode cX12_can 34 = .ok (.iload_n 1, 1) := by decide +kernel
theorem dX12_can_35 : decode cX12_can 35 = .ok (.ifCond .ne 19, 3) := by decide +kernel
theorem dX12_can_38 : decode cX12_can 38 = .ok (.aload_n 0, 1) := by decide +kernel
theorem dX12_can_39 : decode cX12_can 39 = .ok (.iload_n 3, 1) := by decide +kernel
theorem dX12_can_40 : decode cX12_can 40 = .ok (.invokevirtual 271, 3) := by decide +kernel
theorem dX12_can_43 : decode cX12_can 43 = .ok (.ifCond .le 7, 3) := by decide +kernel
theorem dX12_can_46 : decode cX12_can 46 = .ok (.iconst 1, 1) := by decide +kernel
theorem dX12_can_47 : decode cX12_can 47 = .ok (.goto 25, 3) := by decide +kernel
theorem dX12_can_50 : decode cX12_can 50 = .ok (.iconst 0, 1) := by decide +kernel
theorem dX12_can_51 : decode cX12_can 51 = .ok (.goto 21, 3) := by decide +kernel
theorem dX12_can_54 : decode cX12_can 54 = .ok (.aload_n 0, 1) := by decide +kernel
theorem dX12_can_55 : decode cX12_can 55 = .ok (.iload_n 3, 1) := by decide +kernel
theorem dX12_can_56 : decode cX12_can 56 = .ok (.invokevirtual 271, 3) := by decide +kernel
theorem dX12_can_59 : decode cX12_can 59 = .ok (.aload_n 0, 1) := by decide +kernel
theorem dX12_can_60 : decode cX12_can 60 = .ok (.iload_n 3, 1) := by decide +kernel
theorem dX12_can_61 : decode cX12_can 61 = .ok (.invokevirtual 137, 3) := by decide +kernel
theorem dX12_can_64 : decode cX12_can 64 = .ok (.if_icmp .ne 7, 3) := by decide +kernel
theorem dX12_can_67 : decode cX12_can 67 = .ok (.iconst 1, 1) := by decide +kernel
theorem dX12_can_68 : decode cX12_can 68 = .ok (.goto 4, 3) := by decide +kernel
theorem dX12_can_71 : decode cX12_can 71 = .ok (.iconst 0, 1) := by decide +kernel
theorem dX12_can_72 : decode cX12_can 72 = .ok (.istore 4, 2) := by decide +kernel
theorem dX12_can_74 : decode cX12_can 74 = .ok (.iload_n 2, 1) := by decide +kernel
theorem dX12_can_75 : decode cX12_can 75 = .ok (.iload 4, 2) := by decide +kernel
theorem dX12_can_77 : decode cX12_can 77 = .ok (.ifCond .eq 9, 3) := by decide +kernel
theorem dX12_can_80 : decode cX12_can 80 = .ok (.iconst 1, 1) := by decide +kernel
theorem dX12_can_81 : decode cX12_can 81 = .ok (.iload_n 3, 1) := by decide +kernel
theorem dX12_can_82 : decode cX12_can 82 = .ok (.ishl, 1) := by decide +kernel
theorem dX12_can_83 : decode cX12_can 83 = .ok (.goto 4, 3) := by decide +kernel
theorem dX12_can_86 : decode cX12_can 86 = .ok (.iconst 0, 1) := by decide +kernel
theorem dX12_can_87 : decode cX12_can 87 = .ok (.ior, 1) := by decide +kernel
theorem dX12_can_88 : decode cX12_can 88 = .ok (.istore_n 2, 1) := by decide +kernel
theorem dX12_can_89 : decode cX12_can 89 = .ok (.iinc 3 1, 3) := by decide +kernel
theorem dX12_can_92 : decode cX12_can 92 = .ok (.goto (-66), 3) := by decide +kernel
theorem dX12_can_95 : decode cX12_can 95 = .ok (.iload_n 2, 1) := by decide +kernel
theorem dX12_can_96 : decode cX12_can 96 = .ok (.ireturn, 1) := by decide +kernel
abbrev Pl_M_can_26 (G : am_G) : ((Int32 × Int32 × Int32 × am_St) ⊕ (Int32 × am_St)) → am_AQ → Prop := am_PL G M_M_can 26 (fun s : Int32 × Int32 × Int32 × am_St => [(3, .int s.2.2.1), (2, .int s.2.1), (1, .int s.1), (0, .ref 66)]) (fun s => s.2.2.2) am_Pi
noncomputable def g_M_can_87 (x1 : Int32) (x3 : Int32) (y0 : Int32) (y1 : Int32) (σ : am_St) : Option ((Int32 × Int32 × Int32 × am_St) ⊕ (Int32 × am_St)) :=
  let v1 := y0 ||| y1
  let v2 := x3 + 1
  some (.inl (x1, v1, v2, σ))
noncomputable def f_M_can_87 (x1 : Int32) (x3 : Int32) (y0 : Int32) (y1 : Int32) (σ : am_St) : Option ((Int32 × Int32 × Int32 × am_St) ⊕ (Int32 × am_St)) := am_lk (g_M_can_87 x1 x3 y0 y1 σ)
theorem eq_M_can_87 (x1 : Int32) (x3 : Int32) (y0 : Int32) (y1 : Int32) (σ : am_St) : f_M_can_87 x1 x3 y0 y1 σ = g_M_can_87 x1 x3 y0 y1 σ := am_lk_eq _
set_option maxRecDepth 100000 in
set_option maxHeartbeats 4000000 in
theorem s_M_can_87 (G : am_G) (x1 : Int32) (x3 : Int32) (y0 : Int32) (y1 : Int32) (σ : am_St) (r : (Int32 × Int32 × Int32 × am_St) ⊕ (Int32 × am_St)) (Q : am_AQ) (e : f_M_can_87 x1 x3 y0 y1 σ = some r) (hr : (Pl_M_can_26 G) r Q) : am_AW G M_M_can 87 [(3, .int x3), (1, .int x1), (0, .ref 66)] [.int y1, .int y0] σ Q :=
  (show am_Snd G M_M_can 87 (Pl_M_can_26 G) _ from (sn_ior (pc := 87) dX12_can_87 (sn_istore_n (pc := 88) (i := 2) dX12_can_88 rfl (Nat.le_of_ble_eq_true rfl) (sn_iinc (pc := 89) (v := 1) dX12_can_89 rfl (Nat.le_of_ble_eq_true rfl) (sn_goto (pc := 92) (tgt := 26) dX12_can_92 rfl (sn_lf (pc := 26) (ln_a (i := 0) (q := 66) (ln_i (i := 1) (fun z0 => (ln_i (i := 2) (fun z1 => (ln_i (i := 3) (fun z2 => (ln_end (o := fun τ => (some (.inl (z0, z1, z2, τ)) : Option ((Int32 × Int32 × Int32 × am_St) ⊕ (Int32 × am_St)))) (fun _ _ _ e h => by cases e; exact h))))))))))))))) _ _ _ _ _ ((eq_M_can_87 x1 x3 y0 y1 σ).symm.trans e) hr
noncomputable def g_M_can_72 (x1 : Int32) (x2 : Int32) (x3 : Int32) (y0 : Int32) (σ : am_St) : Option ((Int32 × Int32 × Int32 × am_St) ⊕ (Int32 × am_St)) :=
  if y0 = 0 then
    f_M_can_87 x1 x3 x2 0 σ
  else
    f_M_can_87 x1 x3 x2 (1 <<< (x3 &&& 31)) σ
noncomputable def f_M_can_72 (x1 : Int32) (x2 : Int32) (x3 : Int32) (y0 : Int32) (σ : am_St) : Option ((Int32 × Int32 × Int32 × am_St) ⊕ (Int32 × am_St)) := am_lk (g_M_can_72 x1 x2 x3 y0 σ)
theorem eq_M_can_72 (x1 : Int32) (x2 : Int32) (x3 : Int32) (y0 : Int32) (σ : am_St) : f_M_can_72 x1 x2 x3 y0 σ = g_M_can_72 x1 x2 x3 y0 σ := am_lk_eq _
set_option maxRecDepth 100000 in
set_option maxHeartbeats 4000000 in
theorem s_M_can_72 (G : am_G) (x1 : Int32) (x2 : Int32) (x3 : Int32) (y0 : Int32) (σ : am_St) (r : (Int32 × Int32 × Int32 × am_St) ⊕ (Int32 × am_St)) (Q : am_AQ) (e : f_M_can_72 x1 x2 x3 y0 σ = some r) (hr : (Pl_M_can_26 G) r Q) : am_AW G M_M_can 72 [(3, .int x3), (2, .int x2), (1, .int x1), (0, .ref 66)] [.int y0] σ Q :=
  (show am_Snd G M_M_can 72 (Pl_M_can_26 G) _ from (sn_istore (pc := 72) dX12_can_72 (Nat.le_of_ble_eq_true rfl) (sn_iload_n (pc := 74) (i := 2) dX12_can_74 rfl (sn_iload (pc := 75) dX12_can_75 (sn_if_eq (pc := 77) (tgt := 86) dX12_can_77 rfl (sn_iconst (pc := 86) (v := 0) dX12_can_86 rfl (sn_lf (pc := 87) (ln_a (i := 0) (q := 66) (ln_i (i := 1) (fun z0 => (ln_i (i := 3) (fun z1 => (ln_si (fun w1 => (ln_si (fun w0 => (ln_end (o := fun τ => f_M_can_87 z0 z1 w0 w1 τ) (fun _ _ _ e h => s_M_can_87 G z0 z1 w0 w1 _ _ _ e h))))))))))))) (sn_iconst (pc := 80) (v := 1) dX12_can_80 rfl (sn_iload_n (pc := 81) (i := 3) dX12_can_81 rfl (sn_ishl (pc := 82) dX12_can_82 (sn_goto (pc := 83) (tgt := 87) dX12_can_83 rfl (sn_lf (pc := 87) (ln_a (i := 0) (q := 66) (ln_i (i := 1) (fun z0 => (ln_i (i := 3) (fun z1 => (ln_si (fun w1 => (ln_si (fun w0 => (ln_end (o := fun τ => f_M_can_87 z0 z1 w0 w1 τ) (fun _ _ _ e h => s_M_can_87 G z0 z1 w0 w1 _ _ _ e h))))))))))))))))))))) _ _ _ _ _ ((eq_M_can_72 x1 x2 x3 y0 σ).symm.trans e) hr
noncomputable def g_M_can_67 (x1 : Int32) (x2 : Int32) (x3 : Int32) (σ : am_St) : Option ((Int32 × Int32 × Int32 × am_St) ⊕ (Int32 × am_St)) :=
  f_M_can_72 x1 x2 x3 1 σ
noncomputable def f_M_can_67 (x1 : Int32) (x2 : Int32) (x3 : Int32) (σ : am_St) : Option ((Int32 × Int32 × Int32 × am_St) ⊕ (Int32 × am_St)) := am_lk (g_M_can_67 x1 x2 x3 σ)
theorem eq_M_can_67 (x1 : Int32) (x2 : Int32) (x3 : Int32) (σ : am_St) : f_M_can_67 x1 x2 x3 σ = g_M_can_67 x1 x2 x3 σ := am_lk_eq _
set_option maxRecDepth 100000 in
set_option maxHeartbeats 4000000 in
theorem s_M_can_67 (G : am_G) (x1 : Int32) (x2 : Int32) (x3 : Int32) (σ : am_St) (r : (Int32 × Int32 × Int32 × am_St) ⊕ (Int32 × am_St)) (Q : am_AQ) (e : f_M_can_67 x1 x2 x3 σ = some r) (hr : (Pl_M_can_26 G) r Q) : am_AW G M_M_can 67 [(3, .int x3), (2, .int x2), (1, .int x1), (0, .ref 66)] [] σ Q :=
  (show am_Snd G M_M_can 67 (Pl_M_can_26 G) _ from (sn_iconst (pc := 67) (v := 1) dX12_can_67 rfl (sn_goto (pc := 68) (tgt := 72) dX12_can_68 rfl (sn_lf (pc := 72) (ln_a (i := 0) (q := 66) (ln_i (i := 1) (fun z0 => (ln_i (i := 2) (fun z1 => (ln_i (i := 3) (fun z2 => (ln_si (fun w0 => (ln_end (o := fun τ => f_M_can_72 z0 z1 z2 w0 τ) (fun _ _ _ e h => s_M_can_72 G z0 z1 z2 w0 _ _ _ e h))))))))))))))) _ _ _ _ _ ((eq_M_can_67 x1 x2 x3 σ).symm.trans e) hr
noncomputable def g_M_can_71 (x1 : Int32) (x2 : Int32) (x3 : Int32) (σ : am_St) : Option ((Int32 × Int32 × Int32 × am_St) ⊕ (Int32 × am_St)) :=
  f_M_can_72 x1 x2 x3 0 σ
noncomputable def f_M_can_71 (x1 : Int32) (x2 : Int32) (x3 : Int32) (σ : am_St) : Option ((Int32 × Int32 × Int32 × am_St) ⊕ (Int32 × am_St)) := am_lk (g_M_can_71 x1 x2 x3 σ)
theorem eq_M_can_71 (x1 : Int32) (x2 : Int32) (x3 : Int32) (σ : am_St) : f_M_can_71 x1 x2 x3 σ = g_M_can_71 x1 x2 x3 σ := am_lk_eq _
set_option maxRecDepth 100000 in
set_option maxHeartbeats 4000000 in
theorem s_M_can_71 (G : am_G) (x1 : Int32) (x2 : Int32) (x3 : Int32) (σ : am_St) (r : (Int32 × Int32 × Int32 × am_St) ⊕ (Int32 × am_St)) (Q : am_AQ) (e : f_M_can_71 x1 x2 x3 σ = some r) (hr : (Pl_M_can_26 G) r Q) : am_AW G M_M_can 71 [(3, .int x3), (2, .int x2), (1, .int x1), (0, .ref 66)] [] σ Q :=
  (show am_Snd G M_M_can 71 (Pl_M_can_26 G) _ from (sn_iconst (pc := 71) (v := 0) dX12_can_71 rfl (sn_lf (pc := 72) (ln_a (i := 0) (q := 66) (ln_i (i := 1) (fun z0 => (ln_i (i := 2) (fun z1 => (ln_i (i := 3) (fun z2 => (ln_si (fun w0 => (ln_end (o := fun τ => f_M_can_72 z0 z1 z2 w0 τ) (fun _ _ _ e h => s_M_can_72 G z0 z1 z2 w0 _ _ _ e h)))))))))))))) _ _ _ _ _ ((eq_M_can_71 x1 x2 x3 σ).symm.trans e) hr
noncomputable def b_M_can_26 (x1 : Int32) (x2 : Int32) (x3 : Int32) (σ : am_St) : Option ((Int32 × Int32 × Int32 × am_St) ⊕ (Int32 × am_St)) :=
  if (σ.1 66 2) ≤ x3 then
    some (.inr ((x2, σ)))
  else
    if x1 = 0 then
      (f_M_thereOf x3 σ).bind (fun p3 =>
        if p3.1 ≤ 0 then
          f_M_can_72 x1 x2 x3 0 p3.2
        else
          f_M_can_72 x1 x2 x3 1 p3.2)
    else
      (f_M_thereOf x3 σ).bind (fun p1 =>
        (f_M_waysOf x3 p1.2).bind (fun p2 =>
          if p1.1 = p2.1 then
            f_M_can_67 x1 x2 x3 p2.2
          else
            f_M_can_71 x1 x2 x3 p2.2))
noncomputable def f_M_can_26 (x1 : Int32) (x2 : Int32) (x3 : Int32) (σ : am_St) : Option (Int32 × am_St) := am_lp (fun s : Int32 × Int32 × Int32 × am_St => b_M_can_26 s.1 s.2.1 s.2.2.1 s.2.2.2) (x1, x2, x3, σ)
set_option maxRecDepth 100000 in
set_option maxHeartbeats 4000000 in
theorem sb_M_can_26 (G : am_G) (x1 : Int32) (x2 : Int32) (x3 : Int32) (σ : am_St) (r : (Int32 × Int32 × Int32 × am_St) ⊕ (Int32 × am_St)) (Q : am_AQ) (e : b_M_can_26 x1 x2 x3 σ = some r) (hr : Pl_M_can_26 G r Q) : am_AW G M_M_can 26 [(3, .int x3), (2, .int x2), (1, .int x1), (0, .ref 66)] [] σ Q :=
  (show am_Snd G M_M_can 26 (Pl_M_can_26 G) _ from (sn_iload_n (pc := 26) (i := 3) dX12_can_26 rfl (sn_aload_n (pc := 27) (i := 0) dX12_can_27 rfl (sn_gI (pc := 28) (h := 66) (f := 2) dX12_can_28 am_CL_11 sh_66 rfl (Nat.le_of_ble_eq_true rfl) tw_943 (sn_icmp_ge (pc := 31) (tgt := 95) dX12_can_31 rfl (sn_iload_n (pc := 95) (i := 2) dX12_can_95 rfl (sn_reti (pc := 96) (R := fun x τ => (some (.inr ((x, τ))) : Option ((Int32 × Int32 × Int32 × am_St) ⊕ (Int32 × am_St)))) dX12_can_96 rfl (fun _ _ _ _ e h => by cases e; exact h))) (sn_iload_n (pc := 34) (i := 1) dX12_can_34 rfl (sn_if_ne (pc := 35) (tgt := 54) dX12_can_35 rfl (sn_aload_n (pc := 54) (i := 0) dX12_can_54 rfl (sn_iload_n (pc := 55) (i := 3) dX12_can_55 rfl (sn_callV (pc := 56) (N := M_M_thereOf) dX12_can_56 (cal_M_thereOf G) sh_66 rfl tw_1257 tw_1259 tp_50 tw_12 tw_1260 dsc_X12_thereOf rfl (sn_aload_n (pc := 59) (i := 0) dX12_can_59 rfl (sn_iload_n (pc := 60) (i := 3) dX12_can_60 rfl (sn_callV (pc := 61) (N := M_M_waysOf) dX12_can_61 (cal_M_waysOf G) sh_66 rfl tw_1158 tw_1160 tp_37 tw_12 tw_1161 dsc_X12_waysOf rfl (sn_icmp_ne (pc := 64) (tgt := 71) dX12_can_64 rfl (sn_lf (pc := 71) (ln_a (i := 0) (q := 66) (ln_i (i := 1) (fun z0 => (ln_i (i := 2) (fun z1 => (ln_i (i := 3) (fun z2 => (ln_end (o := fun τ => f_M_can_71 z0 z1 z2 τ) (fun _ _ _ e h => s_M_can_71 G z0 z1 z2 _ _ _ e h)))))))))) (sn_lf (pc := 67) (ln_a (i := 0) (q := 66) (ln_i (i := 1) (fun z0 => (ln_i (i := 2) (fun z1 => (ln_i (i := 3) (fun z2 => (ln_end (o := fun τ => f_M_can_67 z0 z1 z2 τ) (fun _ _ _ e h => s_M_can_67 G z0 z1 z2 _ _ _ e h))))))))))))))))) (sn_aload_n (pc := 38) (i := 0) dX12_can_38 rfl (sn_iload_n (pc := 39) (i := 3) dX12_can_39 rfl (sn_callV (pc := 40) (N := M_M_thereOf) dX12_can_40 (cal_M_thereOf G) sh_66 rfl tw_1257 tw_1259 tp_50 tw_12 tw_1260 dsc_X12_thereOf rfl (sn_if_le (pc := 43) (tgt := 50) dX12_can_43 rfl (sn_iconst (pc := 50) (v := 0) dX12_can_50 rfl (sn_goto (pc := 51) (tgt := 72) dX12_can_51 rfl (sn_lf (pc := 72) (ln_a (i := 0) (q := 66) (ln_i (i := 1) (fun z0 => (ln_i (i := 2) (fun z1 => (ln_i (i := 3) (fun z2 => (ln_si (fun w0 => (ln_end (o := fun τ => f_M_can_72 z0 z1 z2 w0 τ) (fun _ _ _ e h => s_M_can_72 G z0 z1 z2 w0 _ _ _ e h)))))))))))))) (sn_iconst (pc := 46) (v := 1) dX12_can_46 rfl (sn_goto (pc := 47) (tgt := 72) dX12_can_47 rfl (sn_lf (pc := 72) (ln_a (i := 0) (q := 66) (ln_i (i := 1) (fun z0 => (ln_i (i := 2) (fun z1 => (ln_i (i := 3) (fun z2 => (ln_si (fun w0 => (ln_end (o := fun τ => f_M_can_72 z0 z1 z2 w0 τ) (fun _ _ _ e h => s_M_can_72 G z0 z1 z2 w0 _ _ _ e h))))))))))))))))))))))))) _ _ _ _ _ e hr
theorem s_M_can_26 (G : am_G) (x1 : Int32) (x2 : Int32) (x3 : Int32) (σ : am_St) (r : Int32 × am_St) (Q : am_AQ) (e : f_M_can_26 x1 x2 x3 σ = some r) (hr : am_Pi r Q) : am_AW G M_M_can 26 [(3, .int x3), (2, .int x2), (1, .int x1), (0, .ref 66)] [] σ Q :=
  am_loop (P := am_Pi) (L := fun s : Int32 × Int32 × Int32 × am_St => [(3, .int s.2.2.1), (2, .int s.2.1), (1, .int s.1), (0, .ref 66)]) (g := fun s => s.2.2.2) (fun s o Q e hr => sb_M_can_26 G s.1 s.2.1 s.2.2.1 s.2.2.2 o Q e hr) (x1, x2, x3, σ) r Q e hr
noncomputable def g_M_can (x1 : Int32) (σ : am_St) : Option (Int32 × am_St) :=
  let s1 := am_sI σ 66 22 0
  (f_M_in x1.toInt64 0 1 s1).bind (fun p2 =>
    if p2.1 = 0 then
      (f_M_refuse (-2) p2.2).bind (fun p3 =>
        some ((p3.1, p3.2)))
    else
      f_M_can_26 x1 0 0 p2.2)
noncomputable def f_M_can (x1 : Int32) (σ : am_St) : Option (Int32 × am_St) := am_lk (g_M_can x1 σ)
theorem eq_M_can (x1 : Int32) (σ : am_St) : f_M_can x1 σ = g_M_can x1 σ := am_lk_eq _
set_option maxRecDepth 100000 in
set_option maxHeartbeats 4000000 in
theorem s_M_can (G : am_G) (x1 : Int32) (σ : am_St) (r : Int32 × am_St) (Q : am_AQ) (e : f_M_can x1 σ = some r) (hr : am_Pi r Q) : am_AW G M_M_can 0 [(0, .ref 66), (1, .int x1)] [] σ Q :=
  (show am_Snd G M_M_can 0 am_Pi _ from (sn_aload_n (pc := 0) (i := 0) dX12_can_0 rfl (sn_iconst (pc := 1) (v := 0) dX12_can_1 rfl (sn_pI (pc := 2) (h := 66) (f := 22) dX12_can_2 am_CL_11 sh_66 rfl (Nat.le_of_ble_eq_true rfl) tw_963 rfl rfl (sn_iload_n (pc := 5) (i := 1) dX12_can_5 rfl (sn_i2l (pc := 6) dX12_can_6 (sn_lconst (pc := 7) (v := 0) dX12_can_7 rfl (sn_lconst (pc := 8) (v := 1) dX12_can_8 rfl (sn_callS (pc := 9) (N := M_M_in) dX12_can_9 (cal_M_in G) tw_1116 tw_1117 tw_12 tw_1118 dsc_X12_in rfl (sn_if_ne (pc := 12) (tgt := 22) dX12_can_12 rfl (sn_iconst (pc := 22) (v := 0) dX12_can_22 rfl (sn_istore_n (pc := 23) (i := 2) dX12_can_23 rfl (Nat.le_of_ble_eq_true rfl) (sn_iconst (pc := 24) (v := 0) dX12_can_24 rfl (sn_istore_n (pc := 25) (i := 3) dX12_can_25 rfl (Nat.le_of_ble_eq_true rfl) (sn_lf (pc := 26) (ln_a (i := 0) (q := 66) (ln_i (i := 1) (fun z0 => (ln_i (i := 2) (fun z1 => (ln_i (i := 3) (fun z2 => (ln_end (o := fun τ => f_M_can_26 z0 z1 z2 τ) (fun _ _ _ e h => s_M_can_26 G z0 z1 z2 _ _ _ e h)))))))))))))) (sn_aload_n (pc := 15) (i := 0) dX12_can_15 rfl (sn_bipush (pc := 16) (v := (-2)) dX12_can_16 (show (Int8.ofInt (-2)).toInt32 = (-2) by decide) (sn_callV (pc := 18) (N := M_M_refuse) dX12_can_18 (cal_M_refuse G) sh_66 rfl tw_1090 tw_1092 tp_23 tw_12 tw_1093 dsc_X12_refuse rfl (sn_reti (pc := 21) (R := fun x τ => (some ((x, τ)))) dX12_can_21 rfl (fun _ _ _ _ e h => by cases e; exact h))))))))))))))) _ _ _ _ _ ((eq_M_can x1 σ).symm.trans e) hr
noncomputable def cF_M_can : am_Fn := fun _ args σ K => match args with
  | [.ref q0, .int z1] => match Nat.beq q0 66 with
    | true => (f_M_can z1 σ).bind (fun p => K (some (.int p.1)) p.2)
    | _ => none
  | _ => none
theorem cal_M_can (G : am_G) : am_Cal G M_M_can cF_M_can := by
  intro ρ args σ K r e
  unfold cF_M_can at e
  split at e
  · split at e
    · rename_i hq0
      obtain ⟨p, h1, h2⟩ := am_bind_some e
      rw [Nat.eq_of_beq_eq_true hq0]
      exact ⟨some (.int p.1), p.2, am_Met.of rfl (Nat.le_of_ble_eq_true rfl) (s_M_can G _ σ p _ h1 ⟨rfl, rfl⟩), h2⟩
    · cases e
  · cases e
abbrev M_M_where : am_MD := (yX12_where, cX12_where, 5, (some .int), 3, 68)
theorem dX12_where_0 : decode cX12_where 0 = .ok (.aload_n 0, 1) := by decide +kernel
theorem dX12_where_1 : decode cX12_where 1 = .ok (.iconst 0, 1) := by decide +kernel
theorem dX12_where_2 : decode cX12_where 2 = .ok (.putfield 102, 3) := by decide +kernel
theorem dX12_where_5 : decode cX12_where 5 = .ok (.aload_n 0, 1) := by decide +kernel
theorem dX12_where_6 : decode cX12_where 6 = .ok (.iload_n 1, 1) := by decide +kernel
theorem dX12_where_7 : decode cX12_where 7 = .ok (.invokevirtual 203, 3) := by decide +kernel
theorem dX12_where_10 : decode cX12_where 10 = .ok (.ifCond .eq 11, 3) := by decide +kernel
theorem dX12_where_13 : decode cX12_where 13 = .ok (.aload_n 0, 1) := by decide +kernel
theorem dX12_where_14 : decode cX12_where 14 = .ok (.iload_n 2, 1) := by decide +kernel
theorem dX12_where_15 : decode cX12_where 15 = .ok (.invokevirtual 206, 3) := by decide +kernel
theorem dX12_where_18 : decode cX12_where 18 = .ok (.ifCond .ne 9, 3) := by decide +kernel
theorem dX12_where_21 : decode cX12_where 21 = .ok (.aload_n 0, 1) := by decide +kernel
theorem dX12_where_22 : decode cX12_where 22 = .ok (.iconst (-1), 1) := by decide +kernel
theorem dX12_where_23 : decode cX12_where 23 = .ok (.invokevirtual 154, 3) := by decide +kernel
theorem dX12_where_26 : decode cX12_where 26 = .ok (.ireturn, 1) := by decide +kernel
theorem dX12_where_27 : decode cX12_where 27 = .ok (.iconst 0, 1) := by decide +kernel
theorem dX12_where_28 : decode cX12_where 28 = .ok (.istore_n 3, 1) := by decide +kernel
theorem dX12_where_29 : decode cX12_where 29 = .ok (.iconst 0, 1) := by decide +kernel
theorem dX12_where_30 : decode cX12_where 30 = .ok (.istore 4, 2) := by decide +kernel
theorem dX12_where_32 : decode cX12_where 32 = .ok (.iload 4, 2) := by decide +kernel
theorem dX12_where_34 : decode cX12_where 34 = .ok (.aload_n 0, 1) := by decide +kernel
theorem dX12_where_35 : decode cX12_where 35 = .ok (.getfield 7, 3) := by decide +kernel
theorem dX12_where_38 : decode cX12_where 38 = .ok (.if_icmp .ge 31, 3) := by decide +kernel
theorem dX12_where_41 : decode cX12_where 41 = .ok (.iload_n 3, 1) := by decide +kernel
theorem dX12_where_42 : decode cX12_where 42 = .ok (.aload_n 0, 1) := by decide +kernel
theorem dX12_where_43 : decode cX12_where 43 = .ok (.iload_n 1, 1) := by decide +kernel
theorem dX12_where_44 : decode cX12_where 44 = .ok (.iload_n 2, 1) := by decide +kernel
theorem dX12_where_45 : decode cX12_where 45 = .ok (.iload 4, 2) := by decide +kernel
theorem dX12_where_47 : decode cX12_where 47 = .ok (.invokevirtual 133, 3) := by decide +kernel
theorem dX12_where_50 : decode cX12_where 50 = .ok (.ifCond .le 10, 3) := by decide +kernel
theorem dX12_where_53 : decode cX12_where 53 = .ok (.iconst 1, 1) := by decide +kernel
theorem dX12_where_54 : decode cX12_where 54 = .ok (.iload 4, 2) := by decide +kernel
theorem dX12_where_56 : decode cX12_where 56 = .ok (.ishl, 1) := by decide +kernel
theorem dX12_where_57 : decode cX12_where 57 = .ok (.goto 4, 3) := by decide +kernel
theorem dX12_where_60 : decode cX12_where 60 = .ok (.iconst 0, 1) := by decide +kernel
theorem dX12_where_61 : decode cX12_where 61 = .ok (.ior, 1) := by decide +kernel
theorem dX12_where_62 : decode cX12_where 62 = .ok (.istore_n 3, 1) := by decide +kernel
theorem dX12_where_63 : decode cX12_where 63 = .ok (.iinc 4 1, 3) := by decide +kernel
theorem dX12_where_66 : decode cX12_where 66 = .ok (.goto (-34), 3) := by decide +kernel
theorem dX12_where_69 : decode cX12_where 69 = .ok (.iload_n 3, 1) := by decide +kernel
theorem dX12_where_70 : decode cX12_where 70 = .ok (.ireturn, 1) := by decide +kernel
abbrev Pl_M_where_32 (G : am_G) : ((Int32 × Int32 × Int32 × Int32 × am_St) ⊕ (Int32 × am_St)) → am_AQ → Prop := am_PL G M_M_where 32 (fun s : Int32 × Int32 × Int32 × Int32 × am_St => [(4, .int s.2.2.2.1), (3, .int s.2.2.1), (2, .int s.2.1), (1, .int s.1), (0, .ref 66)]) (fun s => s.2.2.2.2) am_Pi
noncomputable def g_M_where_21 (σ : am_St) : Option (Int32 × am_St) :=
  (f_M_refuse (-1) σ).bind (fun p1 =>
    some ((p1.1, p1.2)))
noncomputable def f_M_where_21 (σ : am_St) : Option (Int32 × am_St) := am_lk (g_M_where_21  σ)
theorem eq_M_where_21 (σ : am_St) : f_M_where_21  σ = g_M_where_21  σ := am_lk_eq _
set_option maxRecDepth 100000 in
set_option maxHeartbeats 4000000 in
theorem s_M_where_21 (G : am_G) (σ : am_St) (r : Int32 × am_St) (Q : am_AQ) (e : f_M_where_21  σ = some r) (hr : am_Pi r Q) : am_AW G M_M_where 21 [(0, .ref 66)] [] σ Q :=
  (show am_Snd G M_M_where 21 am_Pi _ from (sn_aload_n (pc := 21) (i := 0) dX12_where_21 rfl (sn_iconst (pc := 22) (v := (-1)) dX12_where_22 (show Int32.ofInt (-1) = (-1) by decide) (sn_callV (pc := 23) (N := M_M_refuse) dX12_where_23 (cal_M_refuse G) sh_66 rfl tw_1090 tw_1092 tp_23 tw_12 tw_1093 dsc_X12_refuse rfl (sn_reti (pc := 26) (R := fun x τ => (some ((x, τ)))) dX12_where_26 rfl (fun _ _ _ _ e h => by cases e; exact h)))))) _ _ _ _ _ ((eq_M_where_21  σ).symm.trans e) hr
noncomputable def g_M_where_61 (x1 : Int32) (x2 : Int32) (x4 : Int32) (y0 : Int32) (y1 : Int32) (σ : am_St) : Option ((Int32 × Int32 × Int32 × Int32 × am_St) ⊕ (Int32 × am_St)) :=
  let v1 := y0 ||| y1
  let v2 := x4 + 1
  some (.inl (x1, x2, v1, v2, σ))
noncomputable def f_M_where_61 (x1 : Int32) (x2 : Int32) (x4 : Int32) (y0 : Int32) (y1 : Int32) (σ : am_St) : Option ((Int32 × Int32 × Int32 × Int32 × am_St) ⊕ (Int32 × am_St)) := am_lk (g_M_where_61 x1 x2 x4 y0 y1 σ)
theorem eq_M_where_61 (x1 : Int32) (x2 : Int32) (x4 : Int32) (y0 : Int32) (y1 : Int32) (σ : am_St) : f_M_where_61 x1 x2 x4 y0 y1 σ = g_M_where_61 x1 x2 x4 y0 y1 σ := am_lk_eq _
set_option maxRecDepth 100000 in
set_option maxHeartbeats 4000000 in
theorem s_M_where_61 (G : am_G) (x1 : Int32) (x2 : Int32) (x4 : Int32) (y0 : Int32) (y1 : Int32) (σ : am_St) (r : (Int32 × Int32 × Int32 × Int32 × am_St) ⊕ (Int32 × am_St)) (Q : am_AQ) (e : f_M_where_61 x1 x2 x4 y0 y1 σ = some r) (hr : (Pl_M_where_32 G) r Q) : am_AW G M_M_where 61 [(4, .int x4), (2, .int x2), (1, .int x1), (0, .ref 66)] [.int y1, .int y0] σ Q :=
  (show am_Snd G M_M_where 61 (Pl_M_where_32 G) _ from (sn_ior (pc := 61) dX12_where_61 (sn_istore_n (pc := 62) (i := 3) dX12_where_62 rfl (Nat.le_of_ble_eq_true rfl) (sn_iinc (pc := 63) (v := 1) dX12_where_63 rfl (Nat.le_of_ble_eq_true rfl) (sn_goto (pc := 66) (tgt := 32) dX12_where_66 rfl (sn_lf (pc := 32) (ln_a (i := 0) (q := 66) (ln_i (i := 1) (fun z0 => (ln_i (i := 2) (fun z1 => (ln_i (i := 3) (fun z2 => (ln_i (i := 4) (fun z3 => (ln_end (o := fun τ => (some (.inl (z0, z1, z2, z3, τ)) : Option ((Int32 × Int32 × Int32 × Int32 × am_St) ⊕ (Int32 × am_St)))) (fun _ _ _ e h => by cases e; exact h))))))))))))))))) _ _ _ _ _ ((eq_M_where_61 x1 x2 x4 y0 y1 σ).symm.trans e) hr
noncomputable def b_M_where_32 (x1 : Int32) (x2 : Int32) (x3 : Int32) (x4 : Int32) (σ : am_St) : Option ((Int32 × Int32 × Int32 × Int32 × am_St) ⊕ (Int32 × am_St)) :=
  if (σ.1 66 0) ≤ x4 then
    some (.inr ((x3, σ)))
  else
    (f_M_waysAt x1 x2 x4 σ).bind (fun p1 =>
      if p1.1 ≤ 0 then
        f_M_where_61 x1 x2 x4 x3 0 p1.2
      else
        f_M_where_61 x1 x2 x4 x3 (1 <<< (x4 &&& 31)) p1.2)
noncomputable def f_M_where_32 (x1 : Int32) (x2 : Int32) (x3 : Int32) (x4 : Int32) (σ : am_St) : Option (Int32 × am_St) := am_lp (fun s : Int32 × Int32 × Int32 × Int32 × am_St => b_M_where_32 s.1 s.2.1 s.2.2.1 s.2.2.2.1 s.2.2.2.2) (x1, x2, x3, x4, σ)
set_option maxRecDepth 100000 in
set_option maxHeartbeats 4000000 in
theorem sb_M_where_32 (G : am_G) (x1 : Int32) (x2 : Int32) (x3 : Int32) (x4 : Int32) (σ : am_St) (r : (Int32 × Int32 × Int32 × Int32 × am_St) ⊕ (Int32 × am_St)) (Q : am_AQ) (e : b_M_where_32 x1 x2 x3 x4 σ = some r) (hr : Pl_M_where_32 G r Q) : am_AW G M_M_where 32 [(4, .int x4), (3, .int x3), (2, .int x2), (1, .int x1), (0, .ref 66)] [] σ Q :=
  (show am_Snd G M_M_where 32 (Pl_M_where_32 G) _ from (sn_iload (pc := 32) dX12_where_32 (sn_aload_n (pc := 34) (i := 0) dX12_where_34 rfl (sn_gI (pc := 35) (h := 66) (f := 0) dX12_where_35 am_CL_11 sh_66 rfl (Nat.le_of_ble_eq_true rfl) tw_941 (sn_icmp_ge (pc := 38) (tgt := 69) dX12_where_38 rfl (sn_iload_n (pc := 69) (i := 3) dX12_where_69 rfl (sn_reti (pc := 70) (R := fun x τ => (some (.inr ((x, τ))) : Option ((Int32 × Int32 × Int32 × Int32 × am_St) ⊕ (Int32 × am_St)))) dX12_where_70 rfl (fun _ _ _ _ e h => by cases e; exact h))) (sn_iload_n (pc := 41) (i := 3) dX12_where_41 rfl (sn_aload_n (pc := 42) (i := 0) dX12_where_42 rfl (sn_iload_n (pc := 43) (i := 1) dX12_where_43 rfl (sn_iload_n (pc := 44) (i := 2) dX12_where_44 rfl (sn_iload (pc := 45) dX12_where_45 (sn_callV (pc := 47) (N := M_M_waysAt) dX12_where_47 (cal_M_waysAt G) sh_66 rfl tw_1261 tw_1263 tp_51 tw_12 tw_1264 dsc_X12_waysAt rfl (sn_if_le (pc := 50) (tgt := 60) dX12_where_50 rfl (sn_iconst (pc := 60) (v := 0) dX12_where_60 rfl (sn_lf (pc := 61) (ln_a (i := 0) (q := 66) (ln_i (i := 1) (fun z0 => (ln_i (i := 2) (fun z1 => (ln_i (i := 4) (fun z2 => (ln_si (fun w1 => (ln_si (fun w0 => (ln_end (o := fun τ => f_M_where_61 z0 z1 z2 w0 w1 τ) (fun _ _ _ e h => s_M_where_61 G z0 z1 z2 w0 w1 _ _ _ e h))))))))))))))) (sn_iconst (pc := 53) (v := 1) dX12_where_53 rfl (sn_iload (pc := 54) dX12_where_54 (sn_ishl (pc := 56) dX12_where_56 (sn_goto (pc := 57) (tgt := 61) dX12_where_57 rfl (sn_lf (pc := 61) (ln_a (i := 0) (q := 66) (ln_i (i := 1) (fun z0 => (ln_i (i := 2) (fun z1 => (ln_i (i := 4) (fun z2 => (ln_si (fun w1 => (ln_si (fun w0 => (ln_end (o := fun τ => f_M_where_61 z0 z1 z2 w0 w1 τ) (fun _ _ _ e h => s_M_where_61 G z0 z1 z2 w0 w1 _ _ _ e h)))))))))))))))))))))))))))))) _ _ _ _ _ e hr
theorem s_M_where_32 (G : am_G) (x1 : Int32) (x2 : Int32) (x3 : Int32) (x4 : Int32) (σ : am_St) (r : Int32 × am_St) (Q : am_AQ) (e : f_M_where_32 x1 x2 x3 x4 σ = some r) (hr : am_Pi r Q) : am_AW G M_M_where 32 [(4, .int x4), (3, .int x3), (2, .int x2), (1, .int x1), (0, .ref 66)] [] σ Q :=
  am_loop (P := am_Pi) (L := fun s : Int32 × Int32 × Int32 × Int32 × am_St => [(4, .int s.2.2.2.1), (3, .int s.2.2.1), (2, .int s.2.1), (1, .int s.1), (0, .ref 66)]) (g := fun s => s.2.2.2.2) (fun s o Q e hr => sb_M_where_32 G s.1 s.2.1 s.2.2.1 s.2.2.2.1 s.2.2.2.2 o Q e hr) (x1, x2, x3, x4, σ) r Q e hr
noncomputable def g_M_where_27 (x1 : Int32) (x2 : Int32) (σ : am_St) : Option (Int32 × am_St) :=
  f_M_where_32 x1 x2 0 0 σ
noncomputable def f_M_where_27 (x1 : Int32) (x2 : Int32) (σ : am_St) : Option (Int32 × am_St) := am_lk (g_M_where_27 x1 x2 σ)
theorem eq_M_where_27 (x1 : Int32) (x2 : Int32) (σ : am_St) : f_M_where_27 x1 x2 σ = g_M_where_27 x1 x2 σ := am_lk_eq _
set_option maxRecDepth 100000 in
set_option maxHeartbeats 4000000 in
theorem s_M_where_27 (G : am_G) (x1 : Int32) (x2 : Int32) (σ : am_St) (r : Int32 × am_St) (Q : am_AQ) (e : f_M_where_27 x1 x2 σ = some r) (hr : am_Pi r Q) : am_AW G M_M_where 27 [(2, .int x2), (1, .int x1), (0, .ref 66)] [] σ Q :=
  (show am_Snd G M_M_where 27 am_Pi _ from (sn_iconst (pc := 27) (v := 0) dX12_where_27 rfl (sn_istore_n (pc := 28) (i := 3) dX12_where_28 rfl (Nat.le_of_ble_eq_true rfl) (sn_iconst (pc := 29) (v := 0) dX12_where_29 rfl (sn_istore (pc := 30) dX12_where_30 (Nat.le_of_ble_eq_true rfl) (sn_lf (pc := 32) (ln_a (i := 0) (q := 66) (ln_i (i := 1) (fun z0 => (ln_i (i := 2) (fun z1 => (ln_i (i := 3) (fun z2 => (ln_i (i := 4) (fun z3 => (ln_end (o := fun τ => f_M_where_32 z0 z1 z2 z3 τ) (fun _ _ _ e h => s_M_where_32 G z0 z1 z2 z3 _ _ _ e h))))))))))))))))) _ _ _ _ _ ((eq_M_where_27 x1 x2 σ).symm.trans e) hr
noncomputable def g_M_where (x1 : Int32) (x2 : Int32) (σ : am_St) : Option (Int32 × am_St) :=
  let s1 := am_sI σ 66 22 0
  (f_M_isChild x1 s1).bind (fun p2 =>
    if p2.1 = 0 then
      f_M_where_21 p2.2
    else
      (f_M_isMinute x2 p2.2).bind (fun p3 =>
        if p3.1 = 0 then
          f_M_where_21 p3.2
        else
          f_M_where_27 x1 x2 p3.2))
noncomputable def f_M_where (x1 : Int32) (x2 : Int32) (σ : am_St) : Option (Int32 × am_St) := am_lk (g_M_where x1 x2 σ)
theorem eq_M_where (x1 : Int32) (x2 : Int32) (σ : am_St) : f_M_where x1 x2 σ = g_M_where x1 x2 σ := am_lk_eq _
set_option maxRecDepth 100000 in
set_option maxHeartbeats 4000000 in
theorem s_M_where (G : am_G) (x1 : Int32) (x2 : Int32) (σ : am_St) (r : Int32 × am_St) (Q : am_AQ) (e : f_M_where x1 x2 σ = some r) (hr : am_Pi r Q) : am_AW G M_M_where 0 [(0, .ref 66), (1, .int x1), (2, .int x2)] [] σ Q :=
  (show am_Snd G M_M_where 0 am_Pi _ from (sn_aload_n (pc := 0) (i := 0) dX12_where_0 rfl (sn_iconst (pc := 1) (v := 0) dX12_where_1 rfl (sn_pI (pc := 2) (h := 66) (f := 22) dX12_where_2 am_CL_11 sh_66 rfl (Nat.le_of_ble_eq_true rfl) tw_963 rfl rfl (sn_aload_n (pc := 5) (i := 0) dX12_where_5 rfl (sn_iload_n (pc := 6) (i := 1) dX12_where_6 rfl (sn_callV (pc := 7) (N := M_M_isChild) dX12_where_7 (cal_M_isChild G) sh_66 rfl tw_1181 tw_1183 tp_42 tw_12 tw_1184 dsc_X12_isChild rfl (sn_if_eq (pc := 10) (tgt := 21) dX12_where_10 rfl (sn_lf (pc := 21) (ln_a (i := 0) (q := 66) (ln_end (o := fun τ => f_M_where_21 τ) (fun _ _ _ e h => s_M_where_21 G  _ _ _ e h)))) (sn_aload_n (pc := 13) (i := 0) dX12_where_13 rfl (sn_iload_n (pc := 14) (i := 2) dX12_where_14 rfl (sn_callV (pc := 15) (N := M_M_isMinute) dX12_where_15 (cal_M_isMinute G) sh_66 rfl tw_1189 tw_1191 tp_44 tw_12 tw_1192 dsc_X12_isMinute rfl (sn_if_ne (pc := 18) (tgt := 27) dX12_where_18 rfl (sn_lf (pc := 27) (ln_a (i := 0) (q := 66) (ln_i (i := 1) (fun z0 => (ln_i (i := 2) (fun z1 => (ln_end (o := fun τ => f_M_where_27 z0 z1 τ) (fun _ _ _ e h => s_M_where_27 G z0 z1 _ _ _ e h)))))))) (sn_lf (pc := 21) (ln_a (i := 0) (q := 66) (ln_end (o := fun τ => f_M_where_21 τ) (fun _ _ _ e h => s_M_where_21 G  _ _ _ e h)))))))))))))))) _ _ _ _ _ ((eq_M_where x1 x2 σ).symm.trans e) hr
noncomputable def cF_M_where : am_Fn := fun _ args σ K => match args with
  | [.ref q0, .int z1, .int z2] => match Nat.beq q0 66 with
    | true => (f_M_where z1 z2 σ).bind (fun p => K (some (.int p.1)) p.2)
    | _ => none
  | _ => none
theorem cal_M_where (G : am_G) : am_Cal G M_M_where cF_M_where := by
  intro ρ args σ K r e
  unfold cF_M_where at e
  split at e
  · split at e
    · rename_i hq0
      obtain ⟨p, h1, h2⟩ := am_bind_some e
      rw [Nat.eq_of_beq_eq_true hq0]
      exact ⟨some (.int p.1), p.2, am_Met.of rfl (Nat.le_of_ble_eq_true rfl) (s_M_where G _ _ σ p _ h1 ⟨rfl, rfl⟩), h2⟩
    · cases e
  · cases e
