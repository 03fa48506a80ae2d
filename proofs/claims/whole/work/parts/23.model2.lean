abbrev M_M_houseComes : am_MD := (yX12_houseComes, cX12_houseComes, 4, (some .boolean), 1, 25)
theorem dX12_houseComes_0 : decode cX12_houseComes 0 = .ok (.iload_n 1, 1) := by decide +kernel
theorem dX12_houseComes_1 : decode cX12_houseComes 1 = .ok (.i2l, 1) := by decide +kernel
theorem dX12_houseComes_2 : decode cX12_houseComes 2 = .ok (.ldc2_w 189, 3) := by decide +kernel
theorem dX12_houseComes_5 : decode cX12_houseComes 5 = .ok (.ldc2_w 191, 3) := by decide +kernel
theorem dX12_houseComes_8 : decode cX12_houseComes 8 = .ok (.invokestatic 108, 3) := by decide +kernel
theorem dX12_houseComes_11 : decode cX12_houseComes 11 = .ok (.ifCond .eq 17, 3) := by decide +kernel
theorem dX12_houseComes_14 : decode cX12_houseComes 14 = .ok (.iload_n 2, 1) := by decide +kernel
theorem dX12_houseComes_15 : decode cX12_houseComes 15 = .ok (.i2l, 1) := by decide +kernel
theorem dX12_houseComes_16 : decode cX12_houseComes 16 = .ok (.ldc2_w 189, 3) := by decide +kernel
theorem dX12_houseComes_19 : decode cX12_houseComes 19 = .ok (.ldc2_w 193, 3) := by decide +kernel
theorem dX12_houseComes_22 : decode cX12_houseComes 22 = .ok (.invokestatic 108, 3) := by decide +kernel
theorem dX12_houseComes_25 : decode cX12_houseComes 25 = .ok (.ifCond .ne 5, 3) := by decide +kernel
theorem dX12_houseComes_28 : decode cX12_houseComes 28 = .ok (.iconst 0, 1) := by decide +kernel
theorem dX12_houseComes_29 : decode cX12_houseComes 29 = .ok (.ireturn, 1) := by decide +kernel
theorem dX12_houseComes_30 : decode cX12_houseComes 30 = .ok (.aload_n 0, 1) := by decide +kernel
theorem dX12_houseComes_31 : decode cX12_houseComes 31 = .ok (.iload_n 1, 1) := by decide +kernel
theorem dX12_houseComes_32 : decode cX12_houseComes 32 = .ok (.putfield 7, 3) := by decide +kernel
theorem dX12_houseComes_35 : decode cX12_houseComes 35 = .ok (.aload_n 0, 1) := by decide +kernel
theorem dX12_houseComes_36 : decode cX12_houseComes 36 = .ok (.iload_n 2, 1) := by decide +kernel
theorem dX12_houseComes_37 : decode cX12_houseComes 37 = .ok (.putfield 13, 3) := by decide +kernel
theorem dX12_houseComes_40 : decode cX12_houseComes 40 = .ok (.aload_n 0, 1) := by decide +kernel
theorem dX12_houseComes_41 : decode cX12_houseComes 41 = .ok (.iconst 0, 1) := by decide +kernel
theorem dX12_houseComes_42 : decode cX12_houseComes 42 = .ok (.putfield 105, 3) := by decide +kernel
theorem dX12_houseComes_45 : decode cX12_houseComes 45 = .ok (.aload_n 0, 1) := by decide +kernel
theorem dX12_houseComes_46 : decode cX12_houseComes 46 = .ok (.iconst 0, 1) := by decide +kernel
theorem dX12_houseComes_47 : decode cX12_houseComes 47 = .ok (.putfield 112, 3) := by decide +kernel
theorem dX12_houseComes_50 : decode cX12_houseComes 50 = .ok (.aload_n 0, 1) := by decide +kernel
theorem dX12_houseComes_51 : decode cX12_houseComes 51 = .ok (.iconst 0, 1) := by decide +kernel
theorem dX12_houseComes_52 : decode cX12_houseComes 52 = .ok (.putfield 130, 3) := by decide +kernel
theorem dX12_houseComes_55 : decode cX12_houseComes 55 = .ok (.aload_n 0, 1) := by decide +kernel
theorem dX12_houseComes_56 : decode cX12_houseComes 56 = .ok (.iconst 0, 1) := by decide +kernel
theorem dX12_houseComes_57 : decode cX12_houseComes 57 = .ok (.putfield 127, 3) := by decide +kernel
theorem dX12_houseComes_60 : decode cX12_houseComes 60 = .ok (.iconst 0, 1) := by decide +kernel
theorem dX12_houseComes_61 : decode cX12_houseComes 61 = .ok (.istore_n 3, 1) := by decide +kernel
theorem dX12_houseComes_62 : decode cX12_houseComes 62 = .ok (.iload_n 3, 1) := by decide +kernel
theorem dX12_houseComes_63 : decode cX12_houseComes 63 = .ok (.iconst 4, 1) := by decide +kernel
theorem dX12_houseComes_64 : decode cX12_houseComes 64 = .ok (.if_icmp .ge 16, 3) := by decide +kernel
theorem dX12_houseComes_67 : decode cX12_houseComes 67 = .ok (.aload_n 0, 1) := by decide +kernel
theorem dX12_houseComes_68 : decode cX12_houseComes 68 = .ok (.getfield 16, 3) := by decide +kernel
theorem dX12_houseComes_71 : decode cX12_houseComes 71 = .ok (.iload_n 3, 1) := by decide +kernel
theorem dX12_houseComes_72 : decode cX12_houseComes 72 = .ok (.iconst 0, 1) := by decide +kernel
theorem dX12_houseComes_73 : decode cX12_houseComes 73 = .ok (.iastore, 1) := by decide +kernel
theorem dX12_houseComes_74 : decode cX12_houseComes 74 = .ok (.iinc 3 1, 3) := by decide +kernel
theorem dX12_houseComes_77 : decode cX12_houseComes 77 = .ok (.goto (-15), 3) := by decide +kernel
theorem dX12_houseComes_80 : decode cX12_houseComes 80 = .ok (.iconst 1, 1) := by decide +kernel
theorem dX12_houseComes_81 : decode cX12_houseComes 81 = .ok (.ireturn, 1) := by decide +kernel
abbrev Pl_M_houseComes_62 (G : am_G) : ((Int32 × am_St) ⊕ (Int32 × am_St)) → am_AQ → Prop := am_PL G M_M_houseComes 62 (fun s : Int32 × am_St => [(3, .int s.1), (0, .ref 66)]) (fun s => s.2) am_Pi
noncomputable def b_M_houseComes_62 (x3 : Int32) (σ : am_St) : Option ((Int32 × am_St) ⊕ (Int32 × am_St)) :=
  if 4 ≤ x3 then
    some (.inr ((1, σ)))
  else
    if am_ix x3 4 = true then
      let s1 := am_sI σ 67 x3.toNatClampNeg 0
      let v2 := x3 + 1
      some (.inl (v2, s1))
    else none
noncomputable def f_M_houseComes_62 (x3 : Int32) (σ : am_St) : Option (Int32 × am_St) := am_lp (fun s : Int32 × am_St => b_M_houseComes_62 s.1 s.2) (x3, σ)
set_option maxRecDepth 100000 in
set_option maxHeartbeats 4000000 in
theorem sb_M_houseComes_62 (G : am_G) (x3 : Int32) (σ : am_St) (r : (Int32 × am_St) ⊕ (Int32 × am_St)) (Q : am_AQ) (e : b_M_houseComes_62 x3 σ = some r) (hr : Pl_M_houseComes_62 G r Q) : am_AW G M_M_houseComes 62 [(3, .int x3), (0, .ref 66)] [] σ Q :=
  (show am_Snd G M_M_houseComes 62 (Pl_M_houseComes_62 G) _ from (sn_iload_n (pc := 62) (i := 3) dX12_houseComes_62 rfl (sn_iconst (pc := 63) (v := 4) dX12_houseComes_63 rfl (sn_icmp_ge (pc := 64) (tgt := 80) dX12_houseComes_64 rfl (sn_iconst (pc := 80) (v := 1) dX12_houseComes_80 rfl (sn_retz (pc := 81) (R := fun x τ => (some (.inr ((x, τ))) : Option ((Int32 × am_St) ⊕ (Int32 × am_St)))) dX12_houseComes_81 rfl (fun _ _ _ _ e h => by cases e; exact h))) (sn_aload_n (pc := 67) (i := 0) dX12_houseComes_67 rfl (sn_gR (r0 := 67) (pc := 68) (h := 66) (f := 7) dX12_houseComes_68 am_CL_11 sh_66 rfl (Nat.le_of_ble_eq_true rfl) tw_948 (sn_iload_n (pc := 71) (i := 3) dX12_houseComes_71 rfl (sn_iconst (pc := 72) (v := 0) dX12_houseComes_72 rfl (sn_sI (pc := 73) (h := 67) dX12_houseComes_73 sh_67 (sn_iinc (pc := 74) (v := 1) dX12_houseComes_74 rfl (Nat.le_of_ble_eq_true rfl) (sn_goto (pc := 77) (tgt := 62) dX12_houseComes_77 rfl (sn_lf (pc := 62) (ln_a (i := 0) (q := 66) (ln_i (i := 3) (fun z0 => (ln_end (o := fun τ => (some (.inl (z0, τ)) : Option ((Int32 × am_St) ⊕ (Int32 × am_St)))) (fun _ _ _ e h => by cases e; exact h))))))))))))))))) _ _ _ _ _ e hr
theorem s_M_houseComes_62 (G : am_G) (x3 : Int32) (σ : am_St) (r : Int32 × am_St) (Q : am_AQ) (e : f_M_houseComes_62 x3 σ = some r) (hr : am_Pi r Q) : am_AW G M_M_houseComes 62 [(3, .int x3), (0, .ref 66)] [] σ Q :=
  am_loop (P := am_Pi) (L := fun s : Int32 × am_St => [(3, .int s.1), (0, .ref 66)]) (g := fun s => s.2) (fun s o Q e hr => sb_M_houseComes_62 G s.1 s.2 o Q e hr) (x3, σ) r Q e hr
noncomputable def g_M_houseComes_60 (σ : am_St) : Option (Int32 × am_St) :=
  f_M_houseComes_62 0 σ
noncomputable def f_M_houseComes_60 (σ : am_St) : Option (Int32 × am_St) := am_lk (g_M_houseComes_60  σ)
theorem eq_M_houseComes_60 (σ : am_St) : f_M_houseComes_60  σ = g_M_houseComes_60  σ := am_lk_eq _
set_option maxRecDepth 100000 in
set_option maxHeartbeats 4000000 in
theorem s_M_houseComes_60 (G : am_G) (σ : am_St) (r : Int32 × am_St) (Q : am_AQ) (e : f_M_houseComes_60  σ = some r) (hr : am_Pi r Q) : am_AW G M_M_houseComes 60 [(0, .ref 66)] [] σ Q :=
  (show am_Snd G M_M_houseComes 60 am_Pi _ from (sn_iconst (pc := 60) (v := 0) dX12_houseComes_60 rfl (sn_istore_n (pc := 61) (i := 3) dX12_houseComes_61 rfl (Nat.le_of_ble_eq_true rfl) (sn_lf (pc := 62) (ln_a (i := 0) (q := 66) (ln_i (i := 3) (fun z0 => (ln_end (o := fun τ => f_M_houseComes_62 z0 τ) (fun _ _ _ e h => s_M_houseComes_62 G z0 _ _ _ e h))))))))) _ _ _ _ _ ((eq_M_houseComes_60  σ).symm.trans e) hr
noncomputable def g_M_houseComes_30 (x1 : Int32) (x2 : Int32) (σ : am_St) : Option (Int32 × am_St) :=
  let s1 := am_sI σ 66 0 x1
  let s2 := am_sI s1 66 1 x2
  let s3 := am_sI s2 66 2 0
  let s4 := am_sI s3 66 3 0
  let s5 := am_sI s4 66 5 0
  let s6 := am_sI s5 66 6 0
  f_M_houseComes_60 s6
noncomputable def f_M_houseComes_30 (x1 : Int32) (x2 : Int32) (σ : am_St) : Option (Int32 × am_St) := am_lk (g_M_houseComes_30 x1 x2 σ)
theorem eq_M_houseComes_30 (x1 : Int32) (x2 : Int32) (σ : am_St) : f_M_houseComes_30 x1 x2 σ = g_M_houseComes_30 x1 x2 σ := am_lk_eq _
set_option maxRecDepth 100000 in
set_option maxHeartbeats 4000000 in
theorem s_M_houseComes_30 (G : am_G) (x1 : Int32) (x2 : Int32) (σ : am_St) (r : Int32 × am_St) (Q : am_AQ) (e : f_M_houseComes_30 x1 x2 σ = some r) (hr : am_Pi r Q) : am_AW G M_M_houseComes 30 [(2, .int x2), (1, .int x1), (0, .ref 66)] [] σ Q :=
  (show am_Snd G M_M_houseComes 30 am_Pi _ from (sn_aload_n (pc := 30) (i := 0) dX12_houseComes_30 rfl (sn_iload_n (pc := 31) (i := 1) dX12_houseComes_31 rfl (sn_pI (pc := 32) (h := 66) (f := 0) dX12_houseComes_32 am_CL_11 sh_66 rfl (Nat.le_of_ble_eq_true rfl) tw_941 rfl rfl (sn_aload_n (pc := 35) (i := 0) dX12_houseComes_35 rfl (sn_iload_n (pc := 36) (i := 2) dX12_houseComes_36 rfl (sn_pI (pc := 37) (h := 66) (f := 1) dX12_houseComes_37 am_CL_11 sh_66 rfl (Nat.le_of_ble_eq_true rfl) tw_942 rfl rfl (sn_aload_n (pc := 40) (i := 0) dX12_houseComes_40 rfl (sn_iconst (pc := 41) (v := 0) dX12_houseComes_41 rfl (sn_pI (pc := 42) (h := 66) (f := 2) dX12_houseComes_42 am_CL_11 sh_66 rfl (Nat.le_of_ble_eq_true rfl) tw_943 rfl rfl (sn_aload_n (pc := 45) (i := 0) dX12_houseComes_45 rfl (sn_iconst (pc := 46) (v := 0) dX12_houseComes_46 rfl (sn_pI (pc := 47) (h := 66) (f := 3) dX12_houseComes_47 am_CL_11 sh_66 rfl (Nat.le_of_ble_eq_true rfl) tw_944 rfl rfl (sn_aload_n (pc := 50) (i := 0) dX12_houseComes_50 rfl (sn_iconst (pc := 51) (v := 0) dX12_houseComes_51 rfl (sn_pI (pc := 52) (h := 66) (f := 5) dX12_houseComes_52 am_CL_11 sh_66 rfl (Nat.le_of_ble_eq_true rfl) tw_946 rfl rfl (sn_aload_n (pc := 55) (i := 0) dX12_houseComes_55 rfl (sn_iconst (pc := 56) (v := 0) dX12_houseComes_56 rfl (sn_pI (pc := 57) (h := 66) (f := 6) dX12_houseComes_57 am_CL_11 sh_66 rfl (Nat.le_of_ble_eq_true rfl) tw_947 rfl rfl (sn_lf (pc := 60) (ln_a (i := 0) (q := 66) (ln_end (o := fun τ => f_M_houseComes_60 τ) (fun _ _ _ e h => s_M_houseComes_60 G  _ _ _ e h))))))))))))))))))))))) _ _ _ _ _ ((eq_M_houseComes_30 x1 x2 σ).symm.trans e) hr
noncomputable def g_M_houseComes (x1 : Int32) (x2 : Int32) (σ : am_St) : Option (Int32 × am_St) :=
  (f_M_in x1.toInt64 2 4 σ).bind (fun p1 =>
    if p1.1 = 0 then
      some ((0, p1.2))
    else
      (f_M_in x2.toInt64 2 6 p1.2).bind (fun p2 =>
        if p2.1 = 0 then
          some ((0, p2.2))
        else
          f_M_houseComes_30 x1 x2 p2.2))
noncomputable def f_M_houseComes (x1 : Int32) (x2 : Int32) (σ : am_St) : Option (Int32 × am_St) := am_lk (g_M_houseComes x1 x2 σ)
theorem eq_M_houseComes (x1 : Int32) (x2 : Int32) (σ : am_St) : f_M_houseComes x1 x2 σ = g_M_houseComes x1 x2 σ := am_lk_eq _
set_option maxRecDepth 100000 in
set_option maxHeartbeats 4000000 in
theorem s_M_houseComes (G : am_G) (x1 : Int32) (x2 : Int32) (σ : am_St) (r : Int32 × am_St) (Q : am_AQ) (e : f_M_houseComes x1 x2 σ = some r) (hr : am_Pi r Q) : am_AW G M_M_houseComes 0 [(0, .ref 66), (1, .int x1), (2, .int x2)] [] σ Q :=
  (show am_Snd G M_M_houseComes 0 am_Pi _ from (sn_iload_n (pc := 0) (i := 1) dX12_houseComes_0 rfl (sn_i2l (pc := 1) dX12_houseComes_1 (sn_ldc2 (pc := 2) dX12_houseComes_2 tw_1123 (sn_ldc2 (pc := 5) dX12_houseComes_5 tw_1124 (sn_callS (pc := 8) (N := M_M_in) dX12_houseComes_8 (cal_M_in G) tw_1116 tw_1117 tw_12 tw_1118 dsc_X12_in rfl (sn_if_eq (pc := 11) (tgt := 28) dX12_houseComes_11 rfl (sn_iconst (pc := 28) (v := 0) dX12_houseComes_28 rfl (sn_retz (pc := 29) (R := fun x τ => (some ((x, τ)))) dX12_houseComes_29 rfl (fun _ _ _ _ e h => by cases e; exact h))) (sn_iload_n (pc := 14) (i := 2) dX12_houseComes_14 rfl (sn_i2l (pc := 15) dX12_houseComes_15 (sn_ldc2 (pc := 16) dX12_houseComes_16 tw_1123 (sn_ldc2 (pc := 19) dX12_houseComes_19 tw_1125 (sn_callS (pc := 22) (N := M_M_in) dX12_houseComes_22 (cal_M_in G) tw_1116 tw_1117 tw_12 tw_1118 dsc_X12_in rfl (sn_if_ne (pc := 25) (tgt := 30) dX12_houseComes_25 rfl (sn_lf (pc := 30) (ln_a (i := 0) (q := 66) (ln_i (i := 1) (fun z0 => (ln_i (i := 2) (fun z1 => (ln_end (o := fun τ => f_M_houseComes_30 z0 z1 τ) (fun _ _ _ e h => s_M_houseComes_30 G z0 z1 _ _ _ e h)))))))) (sn_iconst (pc := 28) (v := 0) dX12_houseComes_28 rfl (sn_retz (pc := 29) (R := fun x τ => (some ((x, τ)))) dX12_houseComes_29 rfl (fun _ _ _ _ e h => by cases e; exact h)))))))))))))))) _ _ _ _ _ ((eq_M_houseComes x1 x2 σ).symm.trans e) hr
noncomputable def cF_M_houseComes : am_Fn := fun _ args σ K => match args with
  | [.ref q0, .int z1, .int z2] => match Nat.beq q0 66 with
    | true => (f_M_houseComes z1 z2 σ).bind (fun p => K (some (.int p.1)) p.2)
    | _ => none
  | _ => none
theorem cal_M_houseComes (G : am_G) : am_Cal G M_M_houseComes cF_M_houseComes := by
  intro ρ args σ K r e
  unfold cF_M_houseComes at e
  split at e
  · split at e
    · rename_i hq0
      obtain ⟨p, h1, h2⟩ := am_bind_some e
      rw [Nat.eq_of_beq_eq_true hq0]
      exact ⟨some (.int p.1), p.2, am_Met.of rfl (Nat.le_of_ble_eq_true rfl) (s_M_houseComes G _ _ σ p _ h1 ⟨rfl, rfl⟩), h2⟩
    · cases e
  · cases e
abbrev M_M_isChild : am_MD := (yX12_isChild, cX12_isChild, 2, (some .boolean), 1, 25)
theorem dX12_isChild_0 : decode cX12_isChild 0 = .ok (.iload_n 1, 1) := by decide +kernel
theorem dX12_isChild_1 : decode cX12_isChild 1 = .ok (.i2l, 1) := by decide +kernel
theorem dX12_isChild_2 : decode cX12_isChild 2 = .ok (.lconst 0, 1) := by decide +kernel
theorem dX12_isChild_3 : decode cX12_isChild 3 = .ok (.aload_n 0, 1) := by decide +kernel
theorem dX12_isChild_4 : decode cX12_isChild 4 = .ok (.getfield 105, 3) := by decide +kernel
theorem dX12_isChild_7 : decode cX12_isChild 7 = .ok (.iconst 1, 1) := by decide +kernel
theorem dX12_isChild_8 : decode cX12_isChild 8 = .ok (.isub, 1) := by decide +kernel
theorem dX12_isChild_9 : decode cX12_isChild 9 = .ok (.i2l, 1) := by decide +kernel
theorem dX12_isChild_10 : decode cX12_isChild 10 = .ok (.invokestatic 108, 3) := by decide +kernel
theorem dX12_isChild_13 : decode cX12_isChild 13 = .ok (.ireturn, 1) := by decide +kernel
noncomputable def g_M_isChild (x1 : Int32) (σ : am_St) : Option (Int32 × am_St) :=
  (f_M_in x1.toInt64 0 (((σ.1 66 2) - 1).toInt64) σ).bind (fun p1 =>
    if p1.1 &&& 1 = p1.1 then some ((p1.1, p1.2)) else none)
noncomputable def f_M_isChild (x1 : Int32) (σ : am_St) : Option (Int32 × am_St) := am_lk (g_M_isChild x1 σ)
theorem eq_M_isChild (x1 : Int32) (σ : am_St) : f_M_isChild x1 σ = g_M_isChild x1 σ := am_lk_eq _
set_option maxRecDepth 100000 in
set_option maxHeartbeats 4000000 in
theorem s_M_isChild (G : am_G) (x1 : Int32) (σ : am_St) (r : Int32 × am_St) (Q : am_AQ) (e : f_M_isChild x1 σ = some r) (hr : am_Pi r Q) : am_AW G M_M_isChild 0 [(0, .ref 66), (1, .int x1)] [] σ Q :=
  (show am_Snd G M_M_isChild 0 am_Pi _ from (sn_iload_n (pc := 0) (i := 1) dX12_isChild_0 rfl (sn_i2l (pc := 1) dX12_isChild_1 (sn_lconst (pc := 2) (v := 0) dX12_isChild_2 rfl (sn_aload_n (pc := 3) (i := 0) dX12_isChild_3 rfl (sn_gI (pc := 4) (h := 66) (f := 2) dX12_isChild_4 am_CL_11 sh_66 rfl (Nat.le_of_ble_eq_true rfl) tw_943 (sn_iconst (pc := 7) (v := 1) dX12_isChild_7 rfl (sn_isub (pc := 8) dX12_isChild_8 (sn_i2l (pc := 9) dX12_isChild_9 (sn_callS (pc := 10) (N := M_M_in) dX12_isChild_10 (cal_M_in G) tw_1116 tw_1117 tw_12 tw_1118 dsc_X12_in rfl (sn_retz (pc := 13) (R := fun x τ => (some ((x, τ)))) dX12_isChild_13 rfl (fun _ _ _ _ e h => by cases e; exact h)))))))))))) _ _ _ _ _ ((eq_M_isChild x1 σ).symm.trans e) hr
noncomputable def cF_M_isChild : am_Fn := fun _ args σ K => match args with
  | [.ref q0, .int z1] => match Nat.beq q0 66 with
    | true => (f_M_isChild z1 σ).bind (fun p => K (some (.int p.1)) p.2)
    | _ => none
  | _ => none
theorem cal_M_isChild (G : am_G) : am_Cal G M_M_isChild cF_M_isChild := by
  intro ρ args σ K r e
  unfold cF_M_isChild at e
  split at e
  · split at e
    · rename_i hq0
      obtain ⟨p, h1, h2⟩ := am_bind_some e
      rw [Nat.eq_of_beq_eq_true hq0]
      exact ⟨some (.int p.1), p.2, am_Met.of rfl (Nat.le_of_ble_eq_true rfl) (s_M_isChild G _ σ p _ h1 ⟨rfl, rfl⟩), h2⟩
    · cases e
  · cases e
abbrev M_M_trulyComes : am_MD := (yX12_trulyComes, cX12_trulyComes, 7, (some .boolean), 2, 46)
theorem dX12_trulyComes_0 : decode cX12_trulyComes 0 = .ok (.aload_n 0, 1) := by decide +kernel
theorem dX12_trulyComes_1 : decode cX12_trulyComes 1 = .ok (.getfield 83, 3) := by decide +kernel
theorem dX12_trulyComes_4 : decode cX12_trulyComes 4 = .ok (.iload_n 1, 1) := by decide +kernel
theorem dX12_trulyComes_5 : decode cX12_trulyComes 5 = .ok (.iaload, 1) := by decide +kernel
theorem dX12_trulyComes_6 : decode cX12_trulyComes 6 = .ok (.istore_n 2, 1) := by decide +kernel
theorem dX12_trulyComes_7 : decode cX12_trulyComes 7 = .ok (.aload_n 0, 1) := by decide +kernel
theorem dX12_trulyComes_8 : decode cX12_trulyComes 8 = .ok (.iload_n 2, 1) := by decide +kernel
theorem dX12_trulyComes_9 : decode cX12_trulyComes 9 = .ok (.invokevirtual 203, 3) := by decide +kernel
theorem dX12_trulyComes_12 : decode cX12_trulyComes 12 = .ok (.istore_n 3, 1) := by decide +kernel
theorem dX12_trulyComes_13 : decode cX12_trulyComes 13 = .ok (.iconst 0, 1) := by decide +kernel
theorem dX12_trulyComes_14 : decode cX12_trulyComes 14 = .ok (.istore 4, 2) := by decide +kernel
theorem dX12_trulyComes_16 : decode cX12_trulyComes 16 = .ok (.iload 4, 2) := by decide +kernel
theorem dX12_trulyComes_18 : decode cX12_trulyComes 18 = .ok (.aload_n 0, 1) := by decide +kernel
theorem dX12_trulyComes_19 : decode cX12_trulyComes 19 = .ok (.getfield 13, 3) := by decide +kernel
theorem dX12_trulyComes_22 : decode cX12_trulyComes 22 = .ok (.if_icmp .ge 84, 3) := by decide +kernel
theorem dX12_trulyComes_25 : decode cX12_trulyComes 25 = .ok (.iload_n 3, 1) := by decide +kernel
theorem dX12_trulyComes_26 : decode cX12_trulyComes 26 = .ok (.ifCond .eq 80, 3) := by decide +kernel
theorem dX12_trulyComes_29 : decode cX12_trulyComes 29 = .ok (.aload_n 0, 1) := by decide +kernel
theorem dX12_trulyComes_30 : decode cX12_trulyComes 30 = .ok (.getfield 83, 3) := by decide +kernel
theorem dX12_trulyComes_33 : decode cX12_trulyComes 33 = .ok (.iload_n 1, 1) := by decide +kernel
theorem dX12_trulyComes_34 : decode cX12_trulyComes 34 = .ok (.iconst 1, 1) := by decide +kernel
theorem dX12_trulyComes_35 : decode cX12_trulyComes 35 = .ok (.iadd, 1) := by decide +kernel
theorem dX12_trulyComes_36 : decode cX12_trulyComes 36 = .ok (.iload 4, 2) := by decide +kernel
theorem dX12_trulyComes_38 : decode cX12_trulyComes 38 = .ok (.iadd, 1) := by decide +kernel
theorem dX12_trulyComes_39 : decode cX12_trulyComes 39 = .ok (.iaload, 1) := by decide +kernel
theorem dX12_trulyComes_40 : decode cX12_trulyComes 40 = .ok (.istore 5, 2) := by decide +kernel
theorem dX12_trulyComes_42 : decode cX12_trulyComes 42 = .ok (.iload 4, 2) := by decide +kernel
theorem dX12_trulyComes_44 : decode cX12_trulyComes 44 = .ok (.ifCond .ne 8, 3) := by decide +kernel
theorem dX12_trulyComes_47 : decode cX12_trulyComes 47 = .ok (.iload 5, 2) := by decide +kernel
theorem dX12_trulyComes_49 : decode cX12_trulyComes 49 = .ok (.goto 12, 3) := by decide +kernel
theorem dX12_trulyComes_52 : decode cX12_trulyComes 52 = .ok (.aload_n 0, 1) := by decide +kernel
theorem dX12_trulyComes_53 : decode cX12_trulyComes 53 = .ok (.getfield 83, 3) := by decide +kernel
theorem dX12_trulyComes_56 : decode cX12_trulyComes 56 = .ok (.iload_n 1, 1) := by decide +kernel
theorem dX12_trulyComes_57 : decode cX12_trulyComes 57 = .ok (.iload 4, 2) := by decide +kernel
theorem dX12_trulyComes_59 : decode cX12_trulyComes 59 = .ok (.iadd, 1) := by decide +kernel
theorem dX12_trulyComes_60 : decode cX12_trulyComes 60 = .ok (.iaload, 1) := by decide +kernel
theorem dX12_trulyComes_61 : decode cX12_trulyComes 61 = .ok (.istore 6, 2) := by decide +kernel
theorem dX12_trulyComes_63 : decode cX12_trulyComes 63 = .ok (.aload_n 0, 1) := by decide +kernel
theorem dX12_trulyComes_64 : decode cX12_trulyComes 64 = .ok (.iload 5, 2) := by decide +kernel
theorem dX12_trulyComes_66 : decode cX12_trulyComes 66 = .ok (.invokevirtual 195, 3) := by decide +kernel
theorem dX12_trulyComes_69 : decode cX12_trulyComes 69 = .ok (.ifCond .eq 29, 3) := by decide +kernel
theorem dX12_trulyComes_72 : decode cX12_trulyComes 72 = .ok (.iload 5, 2) := by decide +kernel
theorem dX12_trulyComes_74 : decode cX12_trulyComes 74 = .ok (.iload 6, 2) := by decide +kernel
theorem dX12_trulyComes_76 : decode cX12_trulyComes 76 = .ok (.if_icmp .eq 18, 3) := by decide +kernel
theorem dX12_trulyComes_79 : decode cX12_trulyComes 79 = .ok (.aload_n 0, 1) := by decide +kernel
theorem dX12_trulyComes_80 : decode cX12_trulyComes 80 = .ok (.getfield 16, 3) := by decide +kernel
theorem dX12_trulyComes_83 : decode cX12_trulyComes 83 = .ok (.iload 5, 2) := by decide +kernel
theorem dX12_trulyComes_85 : decode cX12_trulyComes 85 = .ok (.iaload, 1) := by decide +kernel
theorem dX12_trulyComes_86 : decode cX12_trulyComes 86 = .ok (.iload 6, 2) := by decide +kernel
theorem dX12_trulyComes_88 : decode cX12_trulyComes 88 = .ok (.invokestatic 115, 3) := by decide +kernel
theorem dX12_trulyComes_91 : decode cX12_trulyComes 91 = .ok (.ifCond .eq 7, 3) := by decide +kernel
theorem dX12_trulyComes_94 : decode cX12_trulyComes 94 = .ok (.iconst 1, 1) := by decide +kernel
theorem dX12_trulyComes_95 : decode cX12_trulyComes 95 = .ok (.goto 4, 3) := by decide +kernel
theorem dX12_trulyComes_98 : decode cX12_trulyComes 98 = .ok (.iconst 0, 1) := by decide +kernel
theorem dX12_trulyComes_99 : decode cX12_trulyComes 99 = .ok (.istore_n 3, 1) := by decide +kernel
theorem dX12_trulyComes_100 : decode cX12_trulyComes 100 = .ok (.iinc 4 1, 3) := by decide +kernel
theorem dX12_trulyComes_103 : decode cX12_trulyComes 103 = .ok (.goto (-87), 3) := by decide +kernel
theorem dX12_trulyComes_106 : decode cX12_trulyComes 106 = .ok (.iconst 0, 1) := by decide +kernel
theorem dX12_trulyComes_107 : decode cX12_trulyComes 107 = .ok (.istore 4, 2) := by decide +kernel
theorem dX12_trulyComes_109 : decode cX12_trulyComes 109 = .ok (.iload 4, 2) := by decide +kernel
theorem dX12_trulyComes_111 : decode cX12_trulyComes 111 = .ok (.aload_n 0, 1) := by decide +kernel
theorem dX12_trulyComes_112 : decode cX12_trulyComes 112 = .ok (.getfield 13, 3) := by decide +kernel
theorem dX12_trulyComes_115 : decode cX12_trulyComes 115 = .ok (.if_icmp .ge 36, 3) := by decide +kernel
theorem dX12_trulyComes_118 : decode cX12_trulyComes 118 = .ok (.iload_n 3, 1) := by decide +kernel
theorem dX12_trulyComes_119 : decode cX12_trulyComes 119 = .ok (.ifCond .eq 32, 3) := by decide +kernel
theorem dX12_trulyComes_122 : decode cX12_trulyComes 122 = .ok (.aload_n 0, 1) := by decide +kernel
theorem dX12_trulyComes_123 : decode cX12_trulyComes 123 = .ok (.getfield 32, 3) := by decide +kernel
theorem dX12_trulyComes_126 : decode cX12_trulyComes 126 = .ok (.bipush 6, 2) := by decide +kernel
theorem dX12_trulyComes_128 : decode cX12_trulyComes 128 = .ok (.iload_n 2, 1) := by decide +kernel
theorem dX12_trulyComes_129 : decode cX12_trulyComes 129 = .ok (.imul, 1) := by decide +kernel
theorem dX12_trulyComes_130 : decode cX12_trulyComes 130 = .ok (.iload 4, 2) := by decide +kernel
theorem dX12_trulyComes_132 : decode cX12_trulyComes 132 = .ok (.iadd, 1) := by decide +kernel
theorem dX12_trulyComes_133 : decode cX12_trulyComes 133 = .ok (.aload_n 0, 1) := by decide +kernel
theorem dX12_trulyComes_134 : decode cX12_trulyComes 134 = .ok (.getfield 83, 3) := by decide +kernel
theorem dX12_trulyComes_137 : decode cX12_trulyComes 137 = .ok (.iload_n 1, 1) := by decide +kernel
theorem dX12_trulyComes_138 : decode cX12_trulyComes 138 = .ok (.iconst 1, 1) := by decide +kernel
theorem dX12_trulyComes_139 : decode cX12_trulyComes 139 = .ok (.iadd, 1) := by decide +kernel
theorem dX12_trulyComes_140 : decode cX12_trulyComes 140 = .ok (.iload 4, 2) := by decide +kernel
theorem dX12_trulyComes_142 : decode cX12_trulyComes 142 = .ok (.iadd, 1) := by decide +kernel
theorem dX12_trulyComes_143 : decode cX12_trulyComes 143 = .ok (.iaload, 1) := by decide +kernel
theorem dX12_trulyComes_144 : decode cX12_trulyComes 144 = .ok (.iastore, 1) := by decide +kernel
theorem dX12_trulyComes_145 : decode cX12_trulyComes 145 = .ok (.iinc 4 1, 3) := by decide +kernel
theorem dX12_trulyComes_148 : decode cX12_trulyComes 148 = .ok (.goto (-39), 3) := by decide +kernel
theorem dX12_trulyComes_151 : decode cX12_trulyComes 151 = .ok (.iload_n 3, 1) := by decide +kernel
theorem dX12_trulyComes_152 : decode cX12_trulyComes 152 = .ok (.ireturn, 1) := by decide +kernel
abbrev Pl_M_trulyComes_16 (G : am_G) : ((Int32 × Int32 × Int32 × Int32 × am_St) ⊕ (Int32 × am_St)) → am_AQ → Prop := am_PL G M_M_trulyComes 16 (fun s : Int32 × Int32 × Int32 × Int32 × am_St => [(4, .int s.2.2.2.1), (3, .int s.2.2.1), (2, .int s.2.1), (1, .int s.1), (0, .ref 66)]) (fun s => s.2.2.2.2) am_Pi
abbrev Pl_M_trulyComes_109 (G : am_G) : ((Int32 × Int32 × Int32 × Int32 × am_St) ⊕ (Int32 × am_St)) → am_AQ → Prop := am_PL G M_M_trulyComes 109 (fun s : Int32 × Int32 × Int32 × Int32 × am_St => [(4, .int s.2.2.2.1), (3, .int s.2.2.1), (2, .int s.2.1), (1, .int s.1), (0, .ref 66)]) (fun s => s.2.2.2.2) am_Pi
noncomputable def g_M_trulyComes_99 (x1 : Int32) (x2 : Int32) (x4 : Int32) (y0 : Int32) (σ : am_St) : Option ((Int32 × Int32 × Int32 × Int32 × am_St) ⊕ (Int32 × am_St)) :=
  let v1 := x4 + 1
  some (.inl (x1, x2, y0, v1, σ))
noncomputable def f_M_trulyComes_99 (x1 : Int32) (x2 : Int32) (x4 : Int32) (y0 : Int32) (σ : am_St) : Option ((Int32 × Int32 × Int32 × Int32 × am_St) ⊕ (Int32 × am_St)) := am_lk (g_M_trulyComes_99 x1 x2 x4 y0 σ)
theorem eq_M_trulyComes_99 (x1 : Int32) (x2 : Int32) (x4 : Int32) (y0 : Int32) (σ : am_St) : f_M_trulyComes_99 x1 x2 x4 y0 σ = g_M_trulyComes_99 x1 x2 x4 y0 σ := am_lk_eq _
set_option maxRecDepth 100000 in
set_option maxHeartbeats 4000000 in
theorem s_M_trulyComes_99 (G : am_G) (x1 : Int32) (x2 : Int32) (x4 : Int32) (y0 : Int32) (σ : am_St) (r : (Int32 × Int32 × Int32 × Int32 × am_St) ⊕ (Int32 × am_St)) (Q : am_AQ) (e : f_M_trulyComes_99 x1 x2 x4 y0 σ = some r) (hr : (Pl_M_trulyComes_16 G) r Q) : am_AW G M_M_trulyComes 99 [(4, .int x4), (2, .int x2), (1, .int x1), (0, .ref 66)] [.int y0] σ Q :=
  (show am_Snd G M_M_trulyComes 99 (Pl_M_trulyComes_16 G) _ from (sn_istore_n (pc := 99) (i := 3) dX12_trulyComes_99 rfl (Nat.le_of_ble_eq_true rfl) (sn_iinc (pc := 100) (v := 1) dX12_trulyComes_100 rfl (Nat.le_of_ble_eq_true rfl) (sn_goto (pc := 103) (tgt := 16) dX12_trulyComes_103 rfl (sn_lf (pc := 16) (ln_a (i := 0) (q := 66) (ln_i (i := 1) (fun z0 => (ln_i (i := 2) (fun z1 => (ln_i (i := 3) (fun z2 => (ln_i (i := 4) (fun z3 => (ln_end (o := fun τ => (some (.inl (z0, z1, z2, z3, τ)) : Option ((Int32 × Int32 × Int32 × Int32 × am_St) ⊕ (Int32 × am_St)))) (fun _ _ _ e h => by cases e; exact h)))))))))))))))) _ _ _ _ _ ((eq_M_trulyComes_99 x1 x2 x4 y0 σ).symm.trans e) hr
noncomputable def g_M_trulyComes_94 (x1 : Int32) (x2 : Int32) (x4 : Int32) (σ : am_St) : Option ((Int32 × Int32 × Int32 × Int32 × am_St) ⊕ (Int32 × am_St)) :=
  f_M_trulyComes_99 x1 x2 x4 1 σ
noncomputable def f_M_trulyComes_94 (x1 : Int32) (x2 : Int32) (x4 : Int32) (σ : am_St) : Option ((Int32 × Int32 × Int32 × Int32 × am_St) ⊕ (Int32 × am_St)) := am_lk (g_M_trulyComes_94 x1 x2 x4 σ)
theorem eq_M_trulyComes_94 (x1 : Int32) (x2 : Int32) (x4 : Int32) (σ : am_St) : f_M_trulyComes_94 x1 x2 x4 σ = g_M_trulyComes_94 x1 x2 x4 σ := am_lk_eq _
set_option maxRecDepth 100000 in
set_option maxHeartbeats 4000000 in
theorem s_M_trulyComes_94 (G : am_G) (x1 : Int32) (x2 : Int32) (x4 : Int32) (σ : am_St) (r : (Int32 × Int32 × Int32 × Int32 × am_St) ⊕ (Int32 × am_St)) (Q : am_AQ) (e : f_M_trulyComes_94 x1 x2 x4 σ = some r) (hr : (Pl_M_trulyComes_16 G) r Q) : am_AW G M_M_trulyComes 94 [(4, .int x4), (2, .int x2), (1, .int x1), (0, .ref 66)] [] σ Q :=
  (show am_Snd G M_M_trulyComes 94 (Pl_M_trulyComes_16 G) _ from (sn_iconst (pc := 94) (v := 1) dX12_trulyComes_94 rfl (sn_goto (pc := 95) (tgt := 99) dX12_trulyComes_95 rfl (sn_lf (pc := 99) (ln_a (i := 0) (q := 66) (ln_i (i := 1) (fun z0 => (ln_i (i := 2) (fun z1 => (ln_i (i := 4) (fun z2 => (ln_si (fun w0 => (ln_end (o := fun τ => f_M_trulyComes_99 z0 z1 z2 w0 τ) (fun _ _ _ e h => s_M_trulyComes_99 G z0 z1 z2 w0 _ _ _ e h))))))))))))))) _ _ _ _ _ ((eq_M_trulyComes_94 x1 x2 x4 σ).symm.trans e) hr
noncomputable def g_M_trulyComes_98 (x1 : Int32) (x2 : Int32) (x4 : Int32) (σ : am_St) : Option ((Int32 × Int32 × Int32 × Int32 × am_St) ⊕ (Int32 × am_St)) :=
  f_M_trulyComes_99 x1 x2 x4 0 σ
noncomputable def f_M_trulyComes_98 (x1 : Int32) (x2 : Int32) (x4 : Int32) (σ : am_St) : Option ((Int32 × Int32 × Int32 × Int32 × am_St) ⊕ (Int32 × am_St)) := am_lk (g_M_trulyComes_98 x1 x2 x4 σ)
theorem eq_M_trulyComes_98 (x1 : Int32) (x2 : Int32) (x4 : Int32) (σ : am_St) : f_M_trulyComes_98 x1 x2 x4 σ = g_M_trulyComes_98 x1 x2 x4 σ := am_lk_eq _
set_option maxRecDepth 100000 in
set_option maxHeartbeats 4000000 in
theorem s_M_trulyComes_98 (G : am_G) (x1 : Int32) (x2 : Int32) (x4 : Int32) (σ : am_St) (r : (Int32 × Int32 × Int32 × Int32 × am_St) ⊕ (Int32 × am_St)) (Q : am_AQ) (e : f_M_trulyComes_98 x1 x2 x4 σ = some r) (hr : (Pl_M_trulyComes_16 G) r Q) : am_AW G M_M_trulyComes 98 [(4, .int x4), (2, .int x2), (1, .int x1), (0, .ref 66)] [] σ Q :=
  (show am_Snd G M_M_trulyComes 98 (Pl_M_trulyComes_16 G) _ from (sn_iconst (pc := 98) (v := 0) dX12_trulyComes_98 rfl (sn_lf (pc := 99) (ln_a (i := 0) (q := 66) (ln_i (i := 1) (fun z0 => (ln_i (i := 2) (fun z1 => (ln_i (i := 4) (fun z2 => (ln_si (fun w0 => (ln_end (o := fun τ => f_M_trulyComes_99 z0 z1 z2 w0 τ) (fun _ _ _ e h => s_M_trulyComes_99 G z0 z1 z2 w0 _ _ _ e h)))))))))))))) _ _ _ _ _ ((eq_M_trulyComes_98 x1 x2 x4 σ).symm.trans e) hr
noncomputable def g_M_trulyComes_61 (x1 : Int32) (x2 : Int32) (x4 : Int32) (x5 : Int32) (y0 : Int32) (σ : am_St) : Option ((Int32 × Int32 × Int32 × Int32 × am_St) ⊕ (Int32 × am_St)) :=
  (f_M_isRoom x5 σ).bind (fun p1 =>
    if p1.1 = 0 then
      f_M_trulyComes_98 x1 x2 x4 p1.2
    else
      if x5 = y0 then
        f_M_trulyComes_94 x1 x2 x4 p1.2
      else
        if am_ix x5 4 = true then
          (f_M_has (p1.2.1 67 x5.toNatClampNeg) y0 p1.2).bind (fun p2 =>
            if p2.1 = 0 then
              f_M_trulyComes_98 x1 x2 x4 p2.2
            else
              f_M_trulyComes_94 x1 x2 x4 p2.2)
        else none)
noncomputable def f_M_trulyComes_61 (x1 : Int32) (x2 : Int32) (x4 : Int32) (x5 : Int32) (y0 : Int32) (σ : am_St) : Option ((Int32 × Int32 × Int32 × Int32 × am_St) ⊕ (Int32 × am_St)) := am_lk (g_M_trulyComes_61 x1 x2 x4 x5 y0 σ)
theorem eq_M_trulyComes_61 (x1 : Int32) (x2 : Int32) (x4 : Int32) (x5 : Int32) (y0 : Int32) (σ : am_St) : f_M_trulyComes_61 x1 x2 x4 x5 y0 σ = g_M_trulyComes_61 x1 x2 x4 x5 y0 σ := am_lk_eq _
set_option maxRecDepth 100000 in
set_option maxHeartbeats 4000000 in
theorem s_M_trulyComes_61 (G : am_G) (x1 : Int32) (x2 : Int32) (x4 : Int32) (x5 : Int32) (y0 : Int32) (σ : am_St) (r : (Int32 × Int32 × Int32 × Int32 × am_St) ⊕ (Int32 × am_St)) (Q : am_AQ) (e : f_M_trulyComes_61 x1 x2 x4 x5 y0 σ = some r) (hr : (Pl_M_trulyComes_16 G) r Q) : am_AW G M_M_trulyComes 61 [(5, .int x5), (4, .int x4), (2, .int x2), (1, .int x1), (0, .ref 66)] [.int y0] σ Q :=
  (show am_Snd G M_M_trulyComes 61 (Pl_M_trulyComes_16 G) _ from (sn_istore (pc := 61) dX12_trulyComes_61 (Nat.le_of_ble_eq_true rfl) (sn_aload_n (pc := 63) (i := 0) dX12_trulyComes_63 rfl (sn_iload (pc := 64) dX12_trulyComes_64 (sn_callV (pc := 66) (N := M_M_isRoom) dX12_trulyComes_66 (cal_M_isRoom G) sh_66 rfl tw_1150 tw_1152 tp_35 tw_12 tw_1153 dsc_X12_isRoom rfl (sn_if_eq (pc := 69) (tgt := 98) dX12_trulyComes_69 rfl (sn_lf (pc := 98) (ln_a (i := 0) (q := 66) (ln_i (i := 1) (fun z0 => (ln_i (i := 2) (fun z1 => (ln_i (i := 4) (fun z2 => (ln_end (o := fun τ => f_M_trulyComes_98 z0 z1 z2 τ) (fun _ _ _ e h => s_M_trulyComes_98 G z0 z1 z2 _ _ _ e h)))))))))) (sn_iload (pc := 72) dX12_trulyComes_72 (sn_iload (pc := 74) dX12_trulyComes_74 (sn_icmp_eq (pc := 76) (tgt := 94) dX12_trulyComes_76 rfl (sn_lf (pc := 94) (ln_a (i := 0) (q := 66) (ln_i (i := 1) (fun z0 => (ln_i (i := 2) (fun z1 => (ln_i (i := 4) (fun z2 => (ln_end (o := fun τ => f_M_trulyComes_94 z0 z1 z2 τ) (fun _ _ _ e h => s_M_trulyComes_94 G z0 z1 z2 _ _ _ e h)))))))))) (sn_aload_n (pc := 79) (i := 0) dX12_trulyComes_79 rfl (sn_gR (r0 := 67) (pc := 80) (h := 66) (f := 7) dX12_trulyComes_80 am_CL_11 sh_66 rfl (Nat.le_of_ble_eq_true rfl) tw_948 (sn_iload (pc := 83) dX12_trulyComes_83 (sn_aI (pc := 85) (h := 67) dX12_trulyComes_85 sh_67 (sn_iload (pc := 86) dX12_trulyComes_86 (sn_callS (pc := 88) (N := M_M_has) dX12_trulyComes_88 (cal_M_has G) tw_1170 tw_1171 tw_12 tw_1172 dsc_X12_has rfl (sn_if_eq (pc := 91) (tgt := 98) dX12_trulyComes_91 rfl (sn_lf (pc := 98) (ln_a (i := 0) (q := 66) (ln_i (i := 1) (fun z0 => (ln_i (i := 2) (fun z1 => (ln_i (i := 4) (fun z2 => (ln_end (o := fun τ => f_M_trulyComes_98 z0 z1 z2 τ) (fun _ _ _ e h => s_M_trulyComes_98 G z0 z1 z2 _ _ _ e h)))))))))) (sn_lf (pc := 94) (ln_a (i := 0) (q := 66) (ln_i (i := 1) (fun z0 => (ln_i (i := 2) (fun z1 => (ln_i (i := 4) (fun z2 => (ln_end (o := fun τ => f_M_trulyComes_94 z0 z1 z2 τ) (fun _ _ _ e h => s_M_trulyComes_94 G z0 z1 z2 _ _ _ e h)))))))))))))))))))))))))) _ _ _ _ _ ((eq_M_trulyComes_61 x1 x2 x4 x5 y0 σ).symm.trans e) hr
noncomputable def b_M_trulyComes_109 (x1 : Int32) (x2 : Int32) (x3 : Int32) (x4 : Int32) (σ : am_St) : Option ((Int32 × Int32 × Int32 × Int32 × am_St) ⊕ (Int32 × am_St)) :=
  if (σ.1 66 1) ≤ x4 then
    if x3 &&& 1 = x3 then some (.inr ((x3, σ))) else none
  else
    if x3 = 0 then
      if x3 &&& 1 = x3 then some (.inr ((x3, σ))) else none
    else
      if am_ix ((x1 + 1) + x4) 231 = true then
        if am_ix ((6 * x2) + x4) 24 = true then
          let s1 := am_sI σ 72 ((6 * x2) + x4).toNatClampNeg (σ.1 89 ((x1 + 1) + x4).toNatClampNeg)
          let v2 := x4 + 1
          some (.inl (x1, x2, x3, v2, s1))
        else none
      else none
noncomputable def f_M_trulyComes_109 (x1 : Int32) (x2 : Int32) (x3 : Int32) (x4 : Int32) (σ : am_St) : Option (Int32 × am_St) := am_lp (fun s : Int32 × Int32 × Int32 × Int32 × am_St => b_M_trulyComes_109 s.1 s.2.1 s.2.2.1 s.2.2.2.1 s.2.2.2.2) (x1, x2, x3, x4, σ)
set_option maxRecDepth 100000 in
set_option maxHeartbeats 4000000 in
theorem sb_M_trulyComes_109 (G : am_G) (x1 : Int32) (x2 : Int32) (x3 : Int32) (x4 : Int32) (σ : am_St) (r : (Int32 × Int32 × Int32 × Int32 × am_St) ⊕ (Int32 × am_St)) (Q : am_AQ) (e : b_M_trulyComes_109 x1 x2 x3 x4 σ = some r) (hr : Pl_M_trulyComes_109 G r Q) : am_AW G M_M_trulyComes 109 [(4, .int x4), (3, .int x3), (2, .int x2), (1, .int x1), (0, .ref 66)] [] σ Q :=
  (show am_Snd G M_M_trulyComes 109 (Pl_M_trulyComes_109 G) _ from (sn_iload (pc := 109) dX12_trulyComes_109 (sn_aload_n (pc := 111) (i := 0) dX12_trulyComes_111 rfl (sn_gI (pc := 112) (h := 66) (f := 1) dX12_trulyComes_112 am_CL_11 sh_66 rfl (Nat.le_of_ble_eq_true rfl) tw_942 (sn_icmp_ge (pc := 115) (tgt := 151) dX12_trulyComes_115 rfl (sn_iload_n (pc := 151) (i := 3) dX12_trulyComes_151 rfl (sn_retz (pc := 152) (R := fun x τ => (some (.inr ((x, τ))) : Option ((Int32 × Int32 × Int32 × Int32 × am_St) ⊕ (Int32 × am_St)))) dX12_trulyComes_152 rfl (fun _ _ _ _ e h => by cases e; exact h))) (sn_iload_n (pc := 118) (i := 3) dX12_trulyComes_118 rfl (sn_if_eq (pc := 119) (tgt := 151) dX12_trulyComes_119 rfl (sn_iload_n (pc := 151) (i := 3) dX12_trulyComes_151 rfl (sn_retz (pc := 152) (R := fun x τ => (some (.inr ((x, τ))) : Option ((Int32 × Int32 × Int32 × Int32 × am_St) ⊕ (Int32 × am_St)))) dX12_trulyComes_152 rfl (fun _ _ _ _ e h => by cases e; exact h))) (sn_aload_n (pc := 122) (i := 0) dX12_trulyComes_122 rfl (sn_gR (r0 := 72) (pc := 123) (h := 66) (f := 12) dX12_trulyComes_123 am_CL_11 sh_66 rfl (Nat.le_of_ble_eq_true rfl) tw_953 (sn_bipush (pc := 126) (v := 6) dX12_trulyComes_126 rfl (sn_iload_n (pc := 128) (i := 2) dX12_trulyComes_128 rfl (sn_imul (pc := 129) dX12_trulyComes_129 (sn_iload (pc := 130) dX12_trulyComes_130 (sn_iadd (pc := 132) dX12_trulyComes_132 (sn_aload_n (pc := 133) (i := 0) dX12_trulyComes_133 rfl (sn_gR (r0 := 89) (pc := 134) (h := 66) (f := 35) dX12_trulyComes_134 am_CL_11 sh_66 rfl (Nat.le_of_ble_eq_true rfl) tw_976 (sn_iload_n (pc := 137) (i := 1) dX12_trulyComes_137 rfl (sn_iconst (pc := 138) (v := 1) dX12_trulyComes_138 rfl (sn_iadd (pc := 139) dX12_trulyComes_139 (sn_iload (pc := 140) dX12_trulyComes_140 (sn_iadd (pc := 142) dX12_trulyComes_142 (sn_aI (pc := 143) (h := 89) dX12_trulyComes_143 sh_89 (sn_sI (pc := 144) (h := 72) dX12_trulyComes_144 sh_72 (sn_iinc (pc := 145) (v := 1) dX12_trulyComes_145 rfl (Nat.le_of_ble_eq_true rfl) (sn_goto (pc := 148) (tgt := 109) dX12_trulyComes_148 rfl (sn_lf (pc := 109) (ln_a (i := 0) (q := 66) (ln_i (i := 1) (fun z0 => (ln_i (i := 2) (fun z1 => (ln_i (i := 3) (fun z2 => (ln_i (i := 4) (fun z3 => (ln_end (o := fun τ => (some (.inl (z0, z1, z2, z3, τ)) : Option ((Int32 × Int32 × Int32 × Int32 × am_St) ⊕ (Int32 × am_St)))) (fun _ _ _ e h => by cases e; exact h))))))))))))))))))))))))))))))))))))) _ _ _ _ _ e hr
theorem s_M_trulyComes_109 (G : am_G) (x1 : Int32) (x2 : Int32) (x3 : Int32) (x4 : Int32) (σ : am_St) (r : Int32 × am_St) (Q : am_AQ) (e : f_M_trulyComes_109 x1 x2 x3 x4 σ = some r) (hr : am_Pi r Q) : am_AW G M_M_trulyComes 109 [(4, .int x4), (3, .int x3), (2, .int x2), (1, .int x1), (0, .ref 66)] [] σ Q :=
  am_loop (P := am_Pi) (L := fun s : Int32 × Int32 × Int32 × Int32 × am_St => [(4, .int s.2.2.2.1), (3, .int s.2.2.1), (2, .int s.2.1), (1, .int s.1), (0, .ref 66)]) (g := fun s => s.2.2.2.2) (fun s o Q e hr => sb_M_trulyComes_109 G s.1 s.2.1 s.2.2.1 s.2.2.2.1 s.2.2.2.2 o Q e hr) (x1, x2, x3, x4, σ) r Q e hr
noncomputable def g_M_trulyComes_106 (x1 : Int32) (x2 : Int32) (x3 : Int32) (σ : am_St) : Option (Int32 × am_St) :=
  f_M_trulyComes_109 x1 x2 x3 0 σ
noncomputable def f_M_trulyComes_106 (x1 : Int32) (x2 : Int32) (x3 : Int32) (σ : am_St) : Option (Int32 × am_St) := am_lk (g_M_trulyComes_106 x1 x2 x3 σ)
theorem eq_M_trulyComes_106 (x1 : Int32) (x2 : Int32) (x3 : Int32) (σ : am_St) : f_M_trulyComes_106 x1 x2 x3 σ = g_M_trulyComes_106 x1 x2 x3 σ := am_lk_eq _
set_option maxRecDepth 100000 in
set_option maxHeartbeats 4000000 in
theorem s_M_trulyComes_106 (G : am_G) (x1 : Int32) (x2 : Int32) (x3 : Int32) (σ : am_St) (r : Int32 × am_St) (Q : am_AQ) (e : f_M_trulyComes_106 x1 x2 x3 σ = some r) (hr : am_Pi r Q) : am_AW G M_M_trulyComes 106 [(3, .int x3), (2, .int x2), (1, .int x1), (0, .ref 66)] [] σ Q :=
  (show am_Snd G M_M_trulyComes 106 am_Pi _ from (sn_iconst (pc := 106) (v := 0) dX12_trulyComes_106 rfl (sn_istore (pc := 107) dX12_trulyComes_107 (Nat.le_of_ble_eq_true rfl) (sn_lf (pc := 109) (ln_a (i := 0) (q := 66) (ln_i (i := 1) (fun z0 => (ln_i (i := 2) (fun z1 => (ln_i (i := 3) (fun z2 => (ln_i (i := 4) (fun z3 => (ln_end (o := fun τ => f_M_trulyComes_109 z0 z1 z2 z3 τ) (fun _ _ _ e h => s_M_trulyComes_109 G z0 z1 z2 z3 _ _ _ e h))))))))))))))) _ _ _ _ _ ((eq_M_trulyComes_106 x1 x2 x3 σ).symm.trans e) hr
noncomputable def b_M_trulyComes_16 (x1 : Int32) (x2 : Int32) (x3 : Int32) (x4 : Int32) (σ : am_St) : Option ((Int32 × Int32 × Int32 × Int32 × am_St) ⊕ (Int32 × am_St)) :=
  if (σ.1 66 1) ≤ x4 then
    (f_M_trulyComes_106 x1 x2 x3 σ).map (fun r => .inr r)
  else
    if x3 = 0 then
      (f_M_trulyComes_106 x1 x2 x3 σ).map (fun r => .inr r)
    else
      if am_ix ((x1 + 1) + x4) 231 = true then
        let v1 := σ.1 89 ((x1 + 1) + x4).toNatClampNeg
        if x4 = 0 then
          f_M_trulyComes_61 x1 x2 x4 v1 v1 σ
        else
          if am_ix (x1 + x4) 231 = true then
            f_M_trulyComes_61 x1 x2 x4 v1 (σ.1 89 (x1 + x4).toNatClampNeg) σ
          else none
      else none
noncomputable def f_M_trulyComes_16 (x1 : Int32) (x2 : Int32) (x3 : Int32) (x4 : Int32) (σ : am_St) : Option (Int32 × am_St) := am_lp (fun s : Int32 × Int32 × Int32 × Int32 × am_St => b_M_trulyComes_16 s.1 s.2.1 s.2.2.1 s.2.2.2.1 s.2.2.2.2) (x1, x2, x3, x4, σ)
set_option maxRecDepth 100000 in
set_option maxHeartbeats 4000000 in
theorem sb_M_trulyComes_16 (G : am_G) (x1 : Int32) (x2 : Int32) (x3 : Int32) (x4 : Int32) (σ : am_St) (r : (Int32 × Int32 × Int32 × Int32 × am_St) ⊕ (Int32 × am_St)) (Q : am_AQ) (e : b_M_trulyComes_16 x1 x2 x3 x4 σ = some r) (hr : Pl_M_trulyComes_16 G r Q) : am_AW G M_M_trulyComes 16 [(4, .int x4), (3, .int x3), (2, .int x2), (1, .int x1), (0, .ref 66)] [] σ Q :=
  (show am_Snd G M_M_trulyComes 16 (Pl_M_trulyComes_16 G) _ from (sn_iload (pc := 16) dX12_trulyComes_16 (sn_aload_n (pc := 18) (i := 0) dX12_trulyComes_18 rfl (sn_gI (pc := 19) (h := 66) (f := 1) dX12_trulyComes_19 am_CL_11 sh_66 rfl (Nat.le_of_ble_eq_true rfl) tw_942 (sn_icmp_ge (pc := 22) (tgt := 106) dX12_trulyComes_22 rfl (sn_lf (pc := 106) (ln_a (i := 0) (q := 66) (ln_i (i := 1) (fun z0 => (ln_i (i := 2) (fun z1 => (ln_i (i := 3) (fun z2 => (ln_end (o := fun τ => ((f_M_trulyComes_106 z0 z1 z2 τ).map (fun r => .inr r) : Option ((Int32 × Int32 × Int32 × Int32 × am_St) ⊕ (Int32 × am_St)))) (fun _ _ _ e h => by obtain ⟨r9, e9, rfl⟩ := am_map_some e; exact s_M_trulyComes_106 G z0 z1 z2 _ _ _ e9 h)))))))))) (sn_iload_n (pc := 25) (i := 3) dX12_trulyComes_25 rfl (sn_if_eq (pc := 26) (tgt := 106) dX12_trulyComes_26 rfl (sn_lf (pc := 106) (ln_a (i := 0) (q := 66) (ln_i (i := 1) (fun z0 => (ln_i (i := 2) (fun z1 => (ln_i (i := 3) (fun z2 => (ln_end (o := fun τ => ((f_M_trulyComes_106 z0 z1 z2 τ).map (fun r => .inr r) : Option ((Int32 × Int32 × Int32 × Int32 × am_St) ⊕ (Int32 × am_St)))) (fun _ _ _ e h => by obtain ⟨r9, e9, rfl⟩ := am_map_some e; exact s_M_trulyComes_106 G z0 z1 z2 _ _ _ e9 h)))))))))) (sn_aload_n (pc := 29) (i := 0) dX12_trulyComes_29 rfl (sn_gR (r0 := 89) (pc := 30) (h := 66) (f := 35) dX12_trulyComes_30 am_CL_11 sh_66 rfl (Nat.le_of_ble_eq_true rfl) tw_976 (sn_iload_n (pc := 33) (i := 1) dX12_trulyComes_33 rfl (sn_iconst (pc := 34) (v := 1) dX12_trulyComes_34 rfl (sn_iadd (pc := 35) dX12_trulyComes_35 (sn_iload (pc := 36) dX12_trulyComes_36 (sn_iadd (pc := 38) dX12_trulyComes_38 (sn_aI (pc := 39) (h := 89) dX12_trulyComes_39 sh_89 (sn_istore (pc := 40) dX12_trulyComes_40 (Nat.le_of_ble_eq_true rfl) (sn_iload (pc := 42) dX12_trulyComes_42 (sn_if_ne (pc := 44) (tgt := 52) dX12_trulyComes_44 rfl (sn_aload_n (pc := 52) (i := 0) dX12_trulyComes_52 rfl (sn_gR (r0 := 89) (pc := 53) (h := 66) (f := 35) dX12_trulyComes_53 am_CL_11 sh_66 rfl (Nat.le_of_ble_eq_true rfl) tw_976 (sn_iload_n (pc := 56) (i := 1) dX12_trulyComes_56 rfl (sn_iload (pc := 57) dX12_trulyComes_57 (sn_iadd (pc := 59) dX12_trulyComes_59 (sn_aI (pc := 60) (h := 89) dX12_trulyComes_60 sh_89 (sn_lf (pc := 61) (ln_a (i := 0) (q := 66) (ln_i (i := 1) (fun z0 => (ln_i (i := 2) (fun z1 => (ln_i (i := 4) (fun z2 => (ln_i (i := 5) (fun z3 => (ln_si (fun w0 => (ln_end (o := fun τ => f_M_trulyComes_61 z0 z1 z2 z3 w0 τ) (fun _ _ _ e h => s_M_trulyComes_61 G z0 z1 z2 z3 w0 _ _ _ e h)))))))))))))))))))) (sn_iload (pc := 47) dX12_trulyComes_47 (sn_goto (pc := 49) (tgt := 61) dX12_trulyComes_49 rfl (sn_lf (pc := 61) (ln_a (i := 0) (q := 66) (ln_i (i := 1) (fun z0 => (ln_i (i := 2) (fun z1 => (ln_i (i := 4) (fun z2 => (ln_i (i := 5) (fun z3 => (ln_si (fun w0 => (ln_end (o := fun τ => f_M_trulyComes_61 z0 z1 z2 z3 w0 τ) (fun _ _ _ e h => s_M_trulyComes_61 G z0 z1 z2 z3 w0 _ _ _ e h)))))))))))))))))))))))))))))))))) _ _ _ _ _ e hr
theorem s_M_trulyComes_16 (G : am_G) (x1 : Int32) (x2 : Int32) (x3 : Int32) (x4 : Int32) (σ : am_St) (r : Int32 × am_St) (Q : am_AQ) (e : f_M_trulyComes_16 x1 x2 x3 x4 σ = some r) (hr : am_Pi r Q) : am_AW G M_M_trulyComes 16 [(4, .int x4), (3, .int x3), (2, .int x2), (1, .int x1), (0, .ref 66)] [] σ Q :=
  am_loop (P := am_Pi) (L := fun s : Int32 × Int32 × Int32 × Int32 × am_St => [(4, .int s.2.2.2.1), (3, .int s.2.2.1), (2, .int s.2.1), (1, .int s.1), (0, .ref 66)]) (g := fun s => s.2.2.2.2) (fun s o Q e hr => sb_M_trulyComes_16 G s.1 s.2.1 s.2.2.1 s.2.2.2.1 s.2.2.2.2 o Q e hr) (x1, x2, x3, x4, σ) r Q e hr
noncomputable def g_M_trulyComes (x1 : Int32) (σ : am_St) : Option (Int32 × am_St) :=
  if am_ix x1 231 = true then
    let v1 := σ.1 89 x1.toNatClampNeg
    (f_M_isChild v1 σ).bind (fun p2 =>
      f_M_trulyComes_16 x1 v1 p2.1 0 p2.2)
  else none
noncomputable def f_M_trulyComes (x1 : Int32) (σ : am_St) : Option (Int32 × am_St) := am_lk (g_M_trulyComes x1 σ)
theorem eq_M_trulyComes (x1 : Int32) (σ : am_St) : f_M_trulyComes x1 σ = g_M_trulyComes x1 σ := am_lk_eq _
set_option maxRecDepth 100000 in
set_option maxHeartbeats 4000000 in
theorem s_M_trulyComes (G : am_G) (x1 : Int32) (σ : am_St) (r : Int32 × am_St) (Q : am_AQ) (e : f_M_trulyComes x1 σ = some r) (hr : am_Pi r Q) : am_AW G M_M_trulyComes 0 [(0, .ref 66), (1, .int x1)] [] σ Q :=
  (show am_Snd G M_M_trulyComes 0 am_Pi _ from (sn_aload_n (pc := 0) (i := 0) dX12_trulyComes_0 rfl (sn_gR (r0 := 89) (pc := 1) (h := 66) (f := 35) dX12_trulyComes_1 am_CL_11 sh_66 rfl (Nat.le_of_ble_eq_true rfl) tw_976 (sn_iload_n (pc := 4) (i := 1) dX12_trulyComes_4 rfl (sn_aI (pc := 5) (h := 89) dX12_trulyComes_5 sh_89 (sn_istore_n (pc := 6) (i := 2) dX12_trulyComes_6 rfl (Nat.le_of_ble_eq_true rfl) (sn_aload_n (pc := 7) (i := 0) dX12_trulyComes_7 rfl (sn_iload_n (pc := 8) (i := 2) dX12_trulyComes_8 rfl (sn_callV (pc := 9) (N := M_M_isChild) dX12_trulyComes_9 (cal_M_isChild G) sh_66 rfl tw_1181 tw_1183 tp_42 tw_12 tw_1184 dsc_X12_isChild rfl (sn_istore_n (pc := 12) (i := 3) dX12_trulyComes_12 rfl (Nat.le_of_ble_eq_true rfl) (sn_iconst (pc := 13) (v := 0) dX12_trulyComes_13 rfl (sn_istore (pc := 14) dX12_trulyComes_14 (Nat.le_of_ble_eq_true rfl) (sn_lf (pc := 16) (ln_a (i := 0) (q := 66) (ln_i (i := 1) (fun z0 => (ln_i (i := 2) (fun z1 => (ln_i (i := 3) (fun z2 => (ln_i (i := 4) (fun z3 => (ln_end (o := fun τ => f_M_trulyComes_16 z0 z1 z2 z3 τ) (fun _ _ _ e h => s_M_trulyComes_16 G z0 z1 z2 z3 _ _ _ e h)))))))))))))))))))))))) _ _ _ _ _ ((eq_M_trulyComes x1 σ).symm.trans e) hr
noncomputable def cF_M_trulyComes : am_Fn := fun _ args σ K => match args with
  | [.ref q0, .int z1] => match Nat.beq q0 66 with
    | true => (f_M_trulyComes z1 σ).bind (fun p => K (some (.int p.1)) p.2)
    | _ => none
  | _ => none
theorem cal_M_trulyComes (G : am_G) : am_Cal G M_M_trulyComes cF_M_trulyComes := by
  intro ρ args σ K r e
  unfold cF_M_trulyComes at e
  split at e
  · split at e
    · rename_i hq0
      obtain ⟨p, h1, h2⟩ := am_bind_some e
      rw [Nat.eq_of_beq_eq_true hq0]
      exact ⟨some (.int p.1), p.2, am_Met.of rfl (Nat.le_of_ble_eq_true rfl) (s_M_trulyComes G _ σ p _ h1 ⟨rfl, rfl⟩), h2⟩
    · cases e
  · cases e
abbrev M_M_factComes : am_MD := (yX12_factComes, cX12_factComes, 5, (some .boolean), 3, 66)
theorem dX12_factComes_0 : decode cX12_factComes 0 = .ok (.aload_n 0, 1) := by decide +kernel
theorem dX12_factComes_1 : decode cX12_factComes 1 = .ok (.iload_n 1, 1) := by decide +kernel
theorem dX12_factComes_2 : decode cX12_factComes 2 = .ok (.invokevirtual 203, 3) := by decide +kernel
theorem dX12_factComes_5 : decode cX12_factComes 5 = .ok (.ifCond .eq 28, 3) := by decide +kernel
theorem dX12_factComes_8 : decode cX12_factComes 8 = .ok (.aload_n 0, 1) := by decide +kernel
theorem dX12_factComes_9 : decode cX12_factComes 9 = .ok (.iload_n 2, 1) := by decide +kernel
theorem dX12_factComes_10 : decode cX12_factComes 10 = .ok (.invokevirtual 206, 3) := by decide +kernel
theorem dX12_factComes_13 : decode cX12_factComes 13 = .ok (.ifCond .eq 20, 3) := by decide +kernel
theorem dX12_factComes_16 : decode cX12_factComes 16 = .ok (.aload_n 0, 1) := by decide +kernel
theorem dX12_factComes_17 : decode cX12_factComes 17 = .ok (.iload_n 3, 1) := by decide +kernel
theorem dX12_factComes_18 : decode cX12_factComes 18 = .ok (.invokevirtual 195, 3) := by decide +kernel
theorem dX12_factComes_21 : decode cX12_factComes 21 = .ok (.ifCond .eq 12, 3) := by decide +kernel
theorem dX12_factComes_24 : decode cX12_factComes 24 = .ok (.aload_n 0, 1) := by decide +kernel
theorem dX12_factComes_25 : decode cX12_factComes 25 = .ok (.getfield 112, 3) := by decide +kernel
theorem dX12_factComes_28 : decode cX12_factComes 28 = .ok (.bipush 16, 2) := by decide +kernel
theorem dX12_factComes_30 : decode cX12_factComes 30 = .ok (.if_icmp .ne 5, 3) := by decide +kernel
theorem dX12_factComes_33 : decode cX12_factComes 33 = .ok (.iconst 0, 1) := by decide +kernel
theorem dX12_factComes_34 : decode cX12_factComes 34 = .ok (.ireturn, 1) := by decide +kernel
theorem dX12_factComes_35 : decode cX12_factComes 35 = .ok (.aload_n 0, 1) := by decide +kernel
theorem dX12_factComes_36 : decode cX12_factComes 36 = .ok (.getfield 35, 3) := by decide +kernel
theorem dX12_factComes_39 : decode cX12_factComes 39 = .ok (.aload_n 0, 1) := by decide +kernel
theorem dX12_factComes_40 : decode cX12_factComes 40 = .ok (.getfield 112, 3) := by decide +kernel
theorem dX12_factComes_43 : decode cX12_factComes 43 = .ok (.iload_n 1, 1) := by decide +kernel
theorem dX12_factComes_44 : decode cX12_factComes 44 = .ok (.iastore, 1) := by decide +kernel
theorem dX12_factComes_45 : decode cX12_factComes 45 = .ok (.aload_n 0, 1) := by decide +kernel
theorem dX12_factComes_46 : decode cX12_factComes 46 = .ok (.getfield 38, 3) := by decide +kernel
theorem dX12_factComes_49 : decode cX12_factComes 49 = .ok (.aload_n 0, 1) := by decide +kernel
theorem dX12_factComes_50 : decode cX12_factComes 50 = .ok (.getfield 112, 3) := by decide +kernel
theorem dX12_factComes_53 : decode cX12_factComes 53 = .ok (.iload_n 2, 1) := by decide +kernel
theorem dX12_factComes_54 : decode cX12_factComes 54 = .ok (.iastore, 1) := by decide +kernel
theorem dX12_factComes_55 : decode cX12_factComes 55 = .ok (.aload_n 0, 1) := by decide +kernel
theorem dX12_factComes_56 : decode cX12_factComes 56 = .ok (.getfield 41, 3) := by decide +kernel
theorem dX12_factComes_59 : decode cX12_factComes 59 = .ok (.aload_n 0, 1) := by decide +kernel
theorem dX12_factComes_60 : decode cX12_factComes 60 = .ok (.getfield 112, 3) := by decide +kernel
theorem dX12_factComes_63 : decode cX12_factComes 63 = .ok (.iload_n 3, 1) := by decide +kernel
theorem dX12_factComes_64 : decode cX12_factComes 64 = .ok (.iastore, 1) := by decide +kernel
theorem dX12_factComes_65 : decode cX12_factComes 65 = .ok (.aload_n 0, 1) := by decide +kernel
theorem dX12_factComes_66 : decode cX12_factComes 66 = .ok (.getfield 44, 3) := by decide +kernel
theorem dX12_factComes_69 : decode cX12_factComes 69 = .ok (.aload_n 0, 1) := by decide +kernel
theorem dX12_factComes_70 : decode cX12_factComes 70 = .ok (.getfield 112, 3) := by decide +kernel
theorem dX12_factComes_73 : decode cX12_factComes 73 = .ok (.iload 4, 2) := by decide +kernel
theorem dX12_factComes_75 : decode cX12_factComes 75 = .ok (.iastore, 1) := by decide +kernel
theorem dX12_factComes_76 : decode cX12_factComes 76 = .ok (.aload_n 0, 1) := by decide +kernel
theorem dX12_factComes_77 : decode cX12_factComes 77 = .ok (.dup, 1) := by decide +kernel
theorem dX12_factComes_78 : decode cX12_factComes 78 = .ok (.getfield 112, 3) := by decide +kernel
theorem dX12_factComes_81 : decode cX12_factComes 81 = .ok (.iconst 1, 1) := by decide +kernel
theorem dX12_factComes_82 : decode cX12_factComes 82 = .ok (.iadd, 1) := by decide +kernel
theorem dX12_factComes_83 : decode cX12_factComes 83 = .ok (.putfield 112, 3) := by decide +kernel
theorem dX12_factComes_86 : decode cX12_factComes 86 = .ok (.aload_n 0, 1) := by decide +kernel
theorem dX12_factComes_87 : decode cX12_factComes 87 = .ok (.iload_n 1, 1) := by decide +kernel
theorem dX12_factComes_88 : decode cX12_factComes 88 = .ok (.invokevirtual 137, 3) := by decide +kernel
theorem dX12_factComes_91 : decode cX12_factComes 91 = .ok (.ifCond .le 7, 3) := by decide +kernel
theorem dX12_factComes_94 : decode cX12_factComes 94 = .ok (.iconst 1, 1) := by decide +kernel
theorem dX12_factComes_95 : decode cX12_factComes 95 = .ok (.goto 4, 3) := by decide +kernel
theorem dX12_factComes_98 : decode cX12_factComes 98 = .ok (.iconst 0, 1) := by decide +kernel
theorem dX12_factComes_99 : decode cX12_factComes 99 = .ok (.ireturn, 1) := by decide +kernel
noncomputable def g_M_factComes_76 (x1 : Int32) (σ : am_St) : Option (Int32 × am_St) :=
  let s1 := am_sI σ 66 3 ((σ.1 66 3) + 1)
  (f_M_waysOf x1 s1).bind (fun p2 =>
    if p2.1 ≤ 0 then
      some ((0, p2.2))
    else
      some ((1, p2.2)))
noncomputable def f_M_factComes_76 (x1 : Int32) (σ : am_St) : Option (Int32 × am_St) := am_lk (g_M_factComes_76 x1 σ)
theorem eq_M_factComes_76 (x1 : Int32) (σ : am_St) : f_M_factComes_76 x1 σ = g_M_factComes_76 x1 σ := am_lk_eq _
set_option maxRecDepth 100000 in
set_option maxHeartbeats 4000000 in
theorem s_M_factComes_76 (G : am_G) (x1 : Int32) (σ : am_St) (r : Int32 × am_St) (Q : am_AQ) (e : f_M_factComes_76 x1 σ = some r) (hr : am_Pi r Q) : am_AW G M_M_factComes 76 [(1, .int x1), (0, .ref 66)] [] σ Q :=
  (show am_Snd G M_M_factComes 76 am_Pi _ from (sn_aload_n (pc := 76) (i := 0) dX12_factComes_76 rfl (sn_dup (pc := 77) dX12_factComes_77 (sn_gI (pc := 78) (h := 66) (f := 3) dX12_factComes_78 am_CL_11 sh_66 rfl (Nat.le_of_ble_eq_true rfl) tw_944 (sn_iconst (pc := 81) (v := 1) dX12_factComes_81 rfl (sn_iadd (pc := 82) dX12_factComes_82 (sn_pI (pc := 83) (h := 66) (f := 3) dX12_factComes_83 am_CL_11 sh_66 rfl (Nat.le_of_ble_eq_true rfl) tw_944 rfl rfl (sn_aload_n (pc := 86) (i := 0) dX12_factComes_86 rfl (sn_iload_n (pc := 87) (i := 1) dX12_factComes_87 rfl (sn_callV (pc := 88) (N := M_M_waysOf) dX12_factComes_88 (cal_M_waysOf G) sh_66 rfl tw_1158 tw_1160 tp_37 tw_12 tw_1161 dsc_X12_waysOf rfl (sn_if_le (pc := 91) (tgt := 98) dX12_factComes_91 rfl (sn_iconst (pc := 98) (v := 0) dX12_factComes_98 rfl (sn_retz (pc := 99) (R := fun x τ => (some ((x, τ)))) dX12_factComes_99 rfl (fun _ _ _ _ e h => by cases e; exact h))) (sn_iconst (pc := 94) (v := 1) dX12_factComes_94 rfl (sn_goto (pc := 95) (tgt := 99) dX12_factComes_95 rfl (sn_retz (pc := 99) (R := fun x τ => (some ((x, τ)))) dX12_factComes_99 rfl (fun _ _ _ _ e h => by cases e; exact h))))))))))))))) _ _ _ _ _ ((eq_M_factComes_76 x1 σ).symm.trans e) hr
noncomputable def g_M_factComes_24 (x1 : Int32) (x2 : Int32) (x3 : Int32) (x4 : Int32) (σ : am_St) : Option (Int32 × am_St) :=
  if (σ.1 66 3) = 16 then
    some ((0, σ))
  else
    if am_ix (σ.1 66 3) 17 = true then
      let s1 := am_sI σ 73 (σ.1 66 3).toNatClampNeg x1
      if am_ix (s1.1 66 3) 17 = true then
        let s2 := am_sI s1 74 (s1.1 66 3).toNatClampNeg x2
        if am_ix (s2.1 66 3) 17 = true then
          let s3 := am_sI s2 75 (s2.1 66 3).toNatClampNeg x3
          if am_ix (s3.1 66 3) 17 = true then
            let s4 := am_sI s3 76 (s3.1 66 3).toNatClampNeg x4
            f_M_factComes_76 x1 s4
          else none
        else none
      else none
    else none
noncomputable def f_M_factComes_24 (x1 : Int32) (x2 : Int32) (x3 : Int32) (x4 : Int32) (σ : am_St) : Option (Int32 × am_St) := am_lk (g_M_factComes_24 x1 x2 x3 x4 σ)
theorem eq_M_factComes_24 (x1 : Int32) (x2 : Int32) (x3 : Int32) (x4 : Int32) (σ : am_St) : f_M_factComes_24 x1 x2 x3 x4 σ = g_M_factComes_24 x1 x2 x3 x4 σ := am_lk_eq _
set_option maxRecDepth 100000 in
set_option maxHeartbeats 4000000 in
theorem s_M_factComes_24 (G : am_G) (x1 : Int32) (x2 : Int32) (x3 : Int32) (x4 : Int32) (σ : am_St) (r : Int32 × am_St) (Q : am_AQ) (e : f_M_factComes_24 x1 x2 x3 x4 σ = some r) (hr : am_Pi r Q) : am_AW G M_M_factComes 24 [(4, .int x4), (3, .int x3), (2, .int x2), (1, .int x1), (0, .ref 66)] [] σ Q :=
  (show am_Snd G M_M_factComes 24 am_Pi _ from (sn_aload_n (pc := 24) (i := 0) dX12_factComes_24 rfl (sn_gI (pc := 25) (h := 66) (f := 3) dX12_factComes_25 am_CL_11 sh_66 rfl (Nat.le_of_ble_eq_true rfl) tw_944 (sn_bipush (pc := 28) (v := 16) dX12_factComes_28 rfl (sn_icmp_ne (pc := 30) (tgt := 35) dX12_factComes_30 rfl (sn_aload_n (pc := 35) (i := 0) dX12_factComes_35 rfl (sn_gR (r0 := 73) (pc := 36) (h := 66) (f := 13) dX12_factComes_36 am_CL_11 sh_66 rfl (Nat.le_of_ble_eq_true rfl) tw_954 (sn_aload_n (pc := 39) (i := 0) dX12_factComes_39 rfl (sn_gI (pc := 40) (h := 66) (f := 3) dX12_factComes_40 am_CL_11 sh_66 rfl (Nat.le_of_ble_eq_true rfl) tw_944 (sn_iload_n (pc := 43) (i := 1) dX12_factComes_43 rfl (sn_sI (pc := 44) (h := 73) dX12_factComes_44 sh_73 (sn_aload_n (pc := 45) (i := 0) dX12_factComes_45 rfl (sn_gR (r0 := 74) (pc := 46) (h := 66) (f := 14) dX12_factComes_46 am_CL_11 sh_66 rfl (Nat.le_of_ble_eq_true rfl) tw_955 (sn_aload_n (pc := 49) (i := 0) dX12_factComes_49 rfl (sn_gI (pc := 50) (h := 66) (f := 3) dX12_factComes_50 am_CL_11 sh_66 rfl (Nat.le_of_ble_eq_true rfl) tw_944 (sn_iload_n (pc := 53) (i := 2) dX12_factComes_53 rfl (sn_sI (pc := 54) (h := 74) dX12_factComes_54 sh_74 (sn_aload_n (pc := 55) (i := 0) dX12_factComes_55 rfl (sn_gR (r0 := 75) (pc := 56) (h := 66) (f := 15) dX12_factComes_56 am_CL_11 sh_66 rfl (Nat.le_of_ble_eq_true rfl) tw_956 (sn_aload_n (pc := 59) (i := 0) dX12_factComes_59 rfl (sn_gI (pc := 60) (h := 66) (f := 3) dX12_factComes_60 am_CL_11 sh_66 rfl (Nat.le_of_ble_eq_true rfl) tw_944 (sn_iload_n (pc := 63) (i := 3) dX12_factComes_63 rfl (sn_sI (pc := 64) (h := 75) dX12_factComes_64 sh_75 (sn_aload_n (pc := 65) (i := 0) dX12_factComes_65 rfl (sn_gR (r0 := 76) (pc := 66) (h := 66) (f := 16) dX12_factComes_66 am_CL_11 sh_66 rfl (Nat.le_of_ble_eq_true rfl) tw_957 (sn_aload_n (pc := 69) (i := 0) dX12_factComes_69 rfl (sn_gI (pc := 70) (h := 66) (f := 3) dX12_factComes_70 am_CL_11 sh_66 rfl (Nat.le_of_ble_eq_true rfl) tw_944 (sn_iload (pc := 73) dX12_factComes_73 (sn_sI (pc := 75) (h := 76) dX12_factComes_75 sh_76 (sn_lf (pc := 76) (ln_a (i := 0) (q := 66) (ln_i (i := 1) (fun z0 => (ln_end (o := fun τ => f_M_factComes_76 z0 τ) (fun _ _ _ e h => s_M_factComes_76 G z0 _ _ _ e h)))))))))))))))))))))))))))))) (sn_iconst (pc := 33) (v := 0) dX12_factComes_33 rfl (sn_retz (pc := 34) (R := fun x τ => (some ((x, τ)))) dX12_factComes_34 rfl (fun _ _ _ _ e h => by cases e; exact h)))))))) _ _ _ _ _ ((eq_M_factComes_24 x1 x2 x3 x4 σ).symm.trans e) hr
noncomputable def g_M_factComes (x1 : Int32) (x2 : Int32) (x3 : Int32) (x4 : Int32) (σ : am_St) : Option (Int32 × am_St) :=
  (f_M_isChild x1 σ).bind (fun p1 =>
    if p1.1 = 0 then
      some ((0, p1.2))
    else
      (f_M_isMinute x2 p1.2).bind (fun p2 =>
        if p2.1 = 0 then
          some ((0, p2.2))
        else
          (f_M_isRoom x3 p2.2).bind (fun p3 =>
            if p3.1 = 0 then
              some ((0, p3.2))
            else
              f_M_factComes_24 x1 x2 x3 x4 p3.2)))
noncomputable def f_M_factComes (x1 : Int32) (x2 : Int32) (x3 : Int32) (x4 : Int32) (σ : am_St) : Option (Int32 × am_St) := am_lk (g_M_factComes x1 x2 x3 x4 σ)
theorem eq_M_factComes (x1 : Int32) (x2 : Int32) (x3 : Int32) (x4 : Int32) (σ : am_St) : f_M_factComes x1 x2 x3 x4 σ = g_M_factComes x1 x2 x3 x4 σ := am_lk_eq _
set_option maxRecDepth 100000 in
set_option maxHeartbeats 4000000 in
theorem s_M_factComes (G : am_G) (x1 : Int32) (x2 : Int32) (x3 : Int32) (x4 : Int32) (σ : am_St) (r : Int32 × am_St) (Q : am_AQ) (e : f_M_factComes x1 x2 x3 x4 σ = some r) (hr : am_Pi r Q) : am_AW G M_M_factComes 0 [(0, .ref 66), (1, .int x1), (2, .int x2), (3, .int x3), (4, .int x4)] [] σ Q :=
  (show am_Snd G M_M_factComes 0 am_Pi _ from (sn_aload_n (pc := 0) (i := 0) dX12_factComes_0 rfl (sn_iload_n (pc := 1) (i := 1) dX12_factComes_1 rfl (sn_callV (pc := 2) (N := M_M_isChild) dX12_factComes_2 (cal_M_isChild G) sh_66 rfl tw_1181 tw_1183 tp_42 tw_12 tw_1184 dsc_X12_isChild rfl (sn_if_eq (pc := 5) (tgt := 33) dX12_factComes_5 rfl (sn_iconst (pc := 33) (v := 0) dX12_factComes_33 rfl (sn_retz (pc := 34) (R := fun x τ => (some ((x, τ)))) dX12_factComes_34 rfl (fun _ _ _ _ e h => by cases e; exact h))) (sn_aload_n (pc := 8) (i := 0) dX12_factComes_8 rfl (sn_iload_n (pc := 9) (i := 2) dX12_factComes_9 rfl (sn_callV (pc := 10) (N := M_M_isMinute) dX12_factComes_10 (cal_M_isMinute G) sh_66 rfl tw_1189 tw_1191 tp_44 tw_12 tw_1192 dsc_X12_isMinute rfl (sn_if_eq (pc := 13) (tgt := 33) dX12_factComes_13 rfl (sn_iconst (pc := 33) (v := 0) dX12_factComes_33 rfl (sn_retz (pc := 34) (R := fun x τ => (some ((x, τ)))) dX12_factComes_34 rfl (fun _ _ _ _ e h => by cases e; exact h))) (sn_aload_n (pc := 16) (i := 0) dX12_factComes_16 rfl (sn_iload_n (pc := 17) (i := 3) dX12_factComes_17 rfl (sn_callV (pc := 18) (N := M_M_isRoom) dX12_factComes_18 (cal_M_isRoom G) sh_66 rfl tw_1150 tw_1152 tp_35 tw_12 tw_1153 dsc_X12_isRoom rfl (sn_if_eq (pc := 21) (tgt := 33) dX12_factComes_21 rfl (sn_iconst (pc := 33) (v := 0) dX12_factComes_33 rfl (sn_retz (pc := 34) (R := fun x τ => (some ((x, τ)))) dX12_factComes_34 rfl (fun _ _ _ _ e h => by cases e; exact h))) (sn_lf (pc := 24) (ln_a (i := 0) (q := 66) (ln_i (i := 1) (fun z0 => (ln_i (i := 2) (fun z1 => (ln_i (i := 3) (fun z2 => (ln_i (i := 4) (fun z3 => (ln_end (o := fun τ => f_M_factComes_24 z0 z1 z2 z3 τ) (fun _ _ _ e h => s_M_factComes_24 G z0 z1 z2 z3 _ _ _ e h))))))))))))))))))))))))) _ _ _ _ _ ((eq_M_factComes x1 x2 x3 x4 σ).symm.trans e) hr
noncomputable def cF_M_factComes : am_Fn := fun _ args σ K => match args with
  | [.ref q0, .int z1, .int z2, .int z3, .int z4] => match Nat.beq q0 66 with
    | true => (f_M_factComes z1 z2 z3 z4 σ).bind (fun p => K (some (.int p.1)) p.2)
    | _ => none
  | _ => none
theorem cal_M_factComes (G : am_G) : am_Cal G M_M_factComes cF_M_factComes := by
  intro ρ args σ K r e
  unfold cF_M_factComes at e
  split at e
  · split at e
    · rename_i hq0
      obtain ⟨p, h1, h2⟩ := am_bind_some e
      rw [Nat.eq_of_beq_eq_true hq0]
      exact ⟨some (.int p.1), p.2, am_Met.of rfl (Nat.le_of_ble_eq_true rfl) (s_M_factComes G _ _ _ _ σ p _ h1 ⟨rfl, rfl⟩), h2⟩
    · cases e
  · cases e
abbrev M_M_comes : am_MD := (yX12_comes, cX12_comes, 3, (some .boolean), 5, 110)
theorem dX12_comes_0 : decode cX12_comes 0 = .ok (.bipush 7, 2) := by decide +kernel
theorem dX12_comes_2 : decode cX12_comes 2 = .ok (.iload_n 1, 1) := by decide +kernel
theorem dX12_comes_3 : decode cX12_comes 3 = .ok (.imul, 1) := by decide +kernel
theorem dX12_comes_4 : decode cX12_comes 4 = .ok (.istore_n 2, 1) := by decide +kernel
theorem dX12_comes_5 : decode cX12_comes 5 = .ok (.aload_n 0, 1) := by decide +kernel
theorem dX12_comes_6 : decode cX12_comes 6 = .ok (.getfield 80, 3) := by decide +kernel
theorem dX12_comes_9 : decode cX12_comes 9 = .ok (.iload_n 1, 1) := by decide +kernel
theorem dX12_comes_10 : decode cX12_comes 10 = .ok (.iaload, 1) := by decide +kernel
theorem dX12_comes_11 : decode cX12_comes 11 = .ok (.lookupswitch 139 #[(98, 120), (99, 87), (100, 68), (114, 49), (116, 114)], 49) := by decide +kernel
theorem dX12_comes_60 : decode cX12_comes 60 = .ok (.aload_n 0, 1) := by decide +kernel
theorem dX12_comes_61 : decode cX12_comes 61 = .ok (.aload_n 0, 1) := by decide +kernel
theorem dX12_comes_62 : decode cX12_comes 62 = .ok (.getfield 83, 3) := by decide +kernel
theorem dX12_comes_65 : decode cX12_comes 65 = .ok (.iload_n 2, 1) := by decide +kernel
theorem dX12_comes_66 : decode cX12_comes 66 = .ok (.iaload, 1) := by decide +kernel
theorem dX12_comes_67 : decode cX12_comes 67 = .ok (.aload_n 0, 1) := by decide +kernel
theorem dX12_comes_68 : decode cX12_comes 68 = .ok (.getfield 83, 3) := by decide +kernel
theorem dX12_comes_71 : decode cX12_comes 71 = .ok (.iload_n 2, 1) := by decide +kernel
theorem dX12_comes_72 : decode cX12_comes 72 = .ok (.iconst 1, 1) := by decide +kernel
theorem dX12_comes_73 : decode cX12_comes 73 = .ok (.iadd, 1) := by decide +kernel
theorem dX12_comes_74 : decode cX12_comes 74 = .ok (.iaload, 1) := by decide +kernel
theorem dX12_comes_75 : decode cX12_comes 75 = .ok (.invokevirtual 209, 3) := by decide +kernel
theorem dX12_comes_78 : decode cX12_comes 78 = .ok (.ireturn, 1) := by decide +kernel
theorem dX12_comes_79 : decode cX12_comes 79 = .ok (.aload_n 0, 1) := by decide +kernel
theorem dX12_comes_80 : decode cX12_comes 80 = .ok (.aload_n 0, 1) := by decide +kernel
theorem dX12_comes_81 : decode cX12_comes 81 = .ok (.getfield 83, 3) := by decide +kernel
theorem dX12_comes_84 : decode cX12_comes 84 = .ok (.iload_n 2, 1) := by decide +kernel
theorem dX12_comes_85 : decode cX12_comes 85 = .ok (.iaload, 1) := by decide +kernel
theorem dX12_comes_86 : decode cX12_comes 86 = .ok (.aload_n 0, 1) := by decide +kernel
theorem dX12_comes_87 : decode cX12_comes 87 = .ok (.getfield 83, 3) := by decide +kernel
theorem dX12_comes_90 : decode cX12_comes 90 = .ok (.iload_n 2, 1) := by decide +kernel
theorem dX12_comes_91 : decode cX12_comes 91 = .ok (.iconst 1, 1) := by decide +kernel
theorem dX12_comes_92 : decode cX12_comes 92 = .ok (.iadd, 1) := by decide +kernel
theorem dX12_comes_93 : decode cX12_comes 93 = .ok (.iaload, 1) := by decide +kernel
theorem dX12_comes_94 : decode cX12_comes 94 = .ok (.invokevirtual 212, 3) := by decide +kernel
theorem dX12_comes_97 : decode cX12_comes 97 = .ok (.ireturn, 1) := by decide +kernel
theorem dX12_comes_98 : decode cX12_comes 98 = .ok (.aload_n 0, 1) := by decide +kernel
theorem dX12_comes_99 : decode cX12_comes 99 = .ok (.aload_n 0, 1) := by decide +kernel
theorem dX12_comes_100 : decode cX12_comes 100 = .ok (.getfield 83, 3) := by decide +kernel
theorem dX12_comes_103 : decode cX12_comes 103 = .ok (.iload_n 2, 1) := by decide +kernel
theorem dX12_comes_104 : decode cX12_comes 104 = .ok (.iaload, 1) := by decide +kernel
theorem dX12_comes_105 : decode cX12_comes 105 = .ok (.aload_n 0, 1) := by decide +kernel
theorem dX12_comes_106 : decode cX12_comes 106 = .ok (.getfield 83, 3) := by decide +kernel
theorem dX12_comes_109 : decode cX12_comes 109 = .ok (.iload_n 2, 1) := by decide +kernel
theorem dX12_comes_110 : decode cX12_comes 110 = .ok (.iconst 1, 1) := by decide +kernel
theorem dX12_comes_111 : decode cX12_comes 111 = .ok (.iadd, 1) := by decide +kernel
theorem dX12_comes_112 : decode cX12_comes 112 = .ok (.iaload, 1) := by decide +kernel
theorem dX12_comes_113 : decode cX12_comes 113 = .ok (.aload_n 0, 1) := by decide +kernel
theorem dX12_comes_114 : decode cX12_comes 114 = .ok (.getfield 83, 3) := by decide +kernel
theorem dX12_comes_117 : decode cX12_comes 117 = .ok (.iload_n 2, 1) := by decide +kernel
theorem dX12_comes_118 : decode cX12_comes 118 = .ok (.iconst 2, 1) := by decide +kernel
theorem dX12_comes_119 : decode cX12_comes 119 = .ok (.iadd, 1) := by decide +kernel
theorem dX12_comes_120 : decode cX12_comes 120 = .ok (.iaload, 1) := by decide +kernel
theorem dX12_comes_121 : decode cX12_comes 121 = .ok (.invokevirtual 215, 3) := by decide +kernel
theorem dX12_comes_124 : decode cX12_comes 124 = .ok (.ireturn, 1) := by decide +kernel
theorem dX12_comes_125 : decode cX12_comes 125 = .ok (.aload_n 0, 1) := by decide +kernel
theorem dX12_comes_126 : decode cX12_comes 126 = .ok (.iload_n 2, 1) := by decide +kernel
theorem dX12_comes_127 : decode cX12_comes 127 = .ok (.invokevirtual 219, 3) := by decide +kernel
theorem dX12_comes_130 : decode cX12_comes 130 = .ok (.ireturn, 1) := by decide +kernel
theorem dX12_comes_131 : decode cX12_comes 131 = .ok (.aload_n 0, 1) := by decide +kernel
theorem dX12_comes_132 : decode cX12_comes 132 = .ok (.aload_n 0, 1) := by decide +kernel
theorem dX12_comes_133 : decode cX12_comes 133 = .ok (.getfield 83, 3) := by decide +kernel
theorem dX12_comes_136 : decode cX12_comes 136 = .ok (.iload_n 2, 1) := by decide +kernel
theorem dX12_comes_137 : decode cX12_comes 137 = .ok (.iaload, 1) := by decide +kernel
theorem dX12_comes_138 : decode cX12_comes 138 = .ok (.aload_n 0, 1) := by decide +kernel
theorem dX12_comes_139 : decode cX12_comes 139 = .ok (.getfield 83, 3) := by decide +kernel
theorem dX12_comes_142 : decode cX12_comes 142 = .ok (.iload_n 2, 1) := by decide +kernel
theorem dX12_comes_143 : decode cX12_comes 143 = .ok (.iconst 1, 1) := by decide +kernel
theorem dX12_comes_144 : decode cX12_comes 144 = .ok (.iadd, 1) := by decide +kernel
theorem dX12_comes_145 : decode cX12_comes 145 = .ok (.iaload, 1) := by decide +kernel
theorem dX12_comes_146 : decode cX12_comes 146 = .ok (.invokevirtual 222, 3) := by decide +kernel
theorem dX12_comes_149 : decode cX12_comes 149 = .ok (.ireturn, 1) := by decide +kernel
theorem dX12_comes_150 : decode cX12_comes 150 = .ok (.aload_n 0, 1) := by decide +kernel
theorem dX12_comes_151 : decode cX12_comes 151 = .ok (.aload_n 0, 1) := by decide +kernel
theorem dX12_comes_152 : decode cX12_comes 152 = .ok (.getfield 83, 3) := by decide +kernel
theorem dX12_comes_155 : decode cX12_comes 155 = .ok (.iload_n 2, 1) := by decide +kernel
theorem dX12_comes_156 : decode cX12_comes 156 = .ok (.iaload, 1) := by decide +kernel
theorem dX12_comes_157 : decode cX12_comes 157 = .ok (.aload_n 0, 1) := by decide +kernel
theorem dX12_comes_158 : decode cX12_comes 158 = .ok (.getfield 83, 3) := by decide +kernel
theorem dX12_comes_161 : decode cX12_comes 161 = .ok (.iload_n 2, 1) := by decide +kernel
theorem dX12_comes_162 : decode cX12_comes 162 = .ok (.iconst 1, 1) := by decide +kernel
theorem dX12_comes_163 : decode cX12_comes 163 = .ok (.iadd, 1) := by decide +kernel
theorem dX12_comes_164 : decode cX12_comes 164 = .ok (.iaload, 1) := by decide +kernel
theorem dX12_comes_165 : decode cX12_comes 165 = .ok (.aload_n 0, 1) := by decide +kernel
theorem dX12_comes_166 : decode cX12_comes 166 = .ok (.getfield 83, 3) := by decide +kernel
theorem dX12_comes_169 : decode cX12_comes 169 = .ok (.iload_n 2, 1) := by decide +kernel
theorem dX12_comes_170 : decode cX12_comes 170 = .ok (.iconst 2, 1) := by decide +kernel
theorem dX12_comes_171 : decode cX12_comes 171 = .ok (.iadd, 1) := by decide +kernel
theorem dX12_comes_172 : decode cX12_comes 172 = .ok (.iaload, 1) := by decide +kernel
theorem dX12_comes_173 : decode cX12_comes 173 = .ok (.aload_n 0, 1) := by decide +kernel
theorem dX12_comes_174 : decode cX12_comes 174 = .ok (.getfield 83, 3) := by decide +kernel
theorem dX12_comes_177 : decode cX12_comes 177 = .ok (.iload_n 2, 1) := by decide +kernel
theorem dX12_comes_178 : decode cX12_comes 178 = .ok (.iconst 3, 1) := by decide +kernel
theorem dX12_comes_179 : decode cX12_comes 179 = .ok (.iadd, 1) := by decide +kernel
theorem dX12_comes_180 : decode cX12_comes 180 = .ok (.iaload, 1) := by decide +kernel
theorem dX12_comes_181 : decode cX12_comes 181 = .ok (.invokevirtual 225, 3) := by decide +kernel
theorem dX12_comes_184 : decode cX12_comes 184 = .ok (.ireturn, 1) := by decide +kernel
noncomputable def g_M_comes (x1 : Int32) (σ : am_St) : Option (Int32 × am_St) :=
  let v1 := 7 * x1
  if am_ix x1 33 = true then
    if (σ.1 88 x1.toNatClampNeg) = 98 then
      if am_ix v1 231 = true then
        if am_ix (v1 + 1) 231 = true then
          (f_M_deedComes (σ.1 89 v1.toNatClampNeg) (σ.1 89 (v1 + 1).toNatClampNeg) σ).bind (fun p2 =>
            if p2.1 &&& 1 = p2.1 then some ((p2.1, p2.2)) else none)
        else none
      else none
    else
    if (σ.1 88 x1.toNatClampNeg) = 99 then
      if am_ix v1 231 = true then
        if am_ix (v1 + 1) 231 = true then
          if am_ix (v1 + 2) 231 = true then
            (f_M_childComes (σ.1 89 v1.toNatClampNeg) (σ.1 89 (v1 + 1).toNatClampNeg) (σ.1 89 (v1 + 2).toNatClampNeg) σ).bind (fun p3 =>
              if p3.1 &&& 1 = p3.1 then some ((p3.1, p3.2)) else none)
          else none
        else none
      else none
    else
    if (σ.1 88 x1.toNatClampNeg) = 100 then
      if am_ix v1 231 = true then
        if am_ix (v1 + 1) 231 = true then
          (f_M_doorComes (σ.1 89 v1.toNatClampNeg) (σ.1 89 (v1 + 1).toNatClampNeg) σ).bind (fun p4 =>
            if p4.1 &&& 1 = p4.1 then some ((p4.1, p4.2)) else none)
        else none
      else none
    else
    if (σ.1 88 x1.toNatClampNeg) = 114 then
      if am_ix v1 231 = true then
        if am_ix (v1 + 1) 231 = true then
          (f_M_houseComes (σ.1 89 v1.toNatClampNeg) (σ.1 89 (v1 + 1).toNatClampNeg) σ).bind (fun p5 =>
            if p5.1 &&& 1 = p5.1 then some ((p5.1, p5.2)) else none)
        else none
      else none
    else
    if (σ.1 88 x1.toNatClampNeg) = 116 then
      (f_M_trulyComes v1 σ).bind (fun p6 =>
        if p6.1 &&& 1 = p6.1 then some ((p6.1, p6.2)) else none)
    else
    if am_ix v1 231 = true then
      if am_ix (v1 + 1) 231 = true then
        if am_ix (v1 + 2) 231 = true then
          if am_ix (v1 + 3) 231 = true then
            (f_M_factComes (σ.1 89 v1.toNatClampNeg) (σ.1 89 (v1 + 1).toNatClampNeg) (σ.1 89 (v1 + 2).toNatClampNeg) (σ.1 89 (v1 + 3).toNatClampNeg) σ).bind (fun p7 =>
              if p7.1 &&& 1 = p7.1 then some ((p7.1, p7.2)) else none)
          else none
        else none
      else none
    else none
  else none
noncomputable def f_M_comes (x1 : Int32) (σ : am_St) : Option (Int32 × am_St) := am_lk (g_M_comes x1 σ)
theorem eq_M_comes (x1 : Int32) (σ : am_St) : f_M_comes x1 σ = g_M_comes x1 σ := am_lk_eq _
set_option maxRecDepth 100000 in
set_option maxHeartbeats 4000000 in
theorem s_M_comes (G : am_G) (x1 : Int32) (σ : am_St) (r : Int32 × am_St) (Q : am_AQ) (e : f_M_comes x1 σ = some r) (hr : am_Pi r Q) : am_AW G M_M_comes 0 [(0, .ref 66), (1, .int x1)] [] σ Q :=
  (show am_Snd G M_M_comes 0 am_Pi _ from (sn_bipush (pc := 0) (v := 7) dX12_comes_0 rfl (sn_iload_n (pc := 2) (i := 1) dX12_comes_2 rfl (sn_imul (pc := 3) dX12_comes_3 (sn_istore_n (pc := 4) (i := 2) dX12_comes_4 rfl (Nat.le_of_ble_eq_true rfl) (sn_aload_n (pc := 5) (i := 0) dX12_comes_5 rfl (sn_gR (r0 := 88) (pc := 6) (h := 66) (f := 34) dX12_comes_6 am_CL_11 sh_66 rfl (Nat.le_of_ble_eq_true rfl) tw_975 (sn_iload_n (pc := 9) (i := 1) dX12_comes_9 rfl (sn_aI (pc := 10) (h := 88) dX12_comes_10 sh_88 (sn_lsw (pc := 11) (dt := 150) (vs := [98, 99, 100, 114, 116]) (ts := [131, 98, 79, 60, 125]) dX12_comes_11 (by decide +kernel) (sn_aload_n (pc := 150) (i := 0) dX12_comes_150 rfl (sn_aload_n (pc := 151) (i := 0) dX12_comes_151 rfl (sn_gR (r0 := 89) (pc := 152) (h := 66) (f := 35) dX12_comes_152 am_CL_11 sh_66 rfl (Nat.le_of_ble_eq_true rfl) tw_976 (sn_iload_n (pc := 155) (i := 2) dX12_comes_155 rfl (sn_aI (pc := 156) (h := 89) dX12_comes_156 sh_89 (sn_aload_n (pc := 157) (i := 0) dX12_comes_157 rfl (sn_gR (r0 := 89) (pc := 158) (h := 66) (f := 35) dX12_comes_158 am_CL_11 sh_66 rfl (Nat.le_of_ble_eq_true rfl) tw_976 (sn_iload_n (pc := 161) (i := 2) dX12_comes_161 rfl (sn_iconst (pc := 162) (v := 1) dX12_comes_162 rfl (sn_iadd (pc := 163) dX12_comes_163 (sn_aI (pc := 164) (h := 89) dX12_comes_164 sh_89 (sn_aload_n (pc := 165) (i := 0) dX12_comes_165 rfl (sn_gR (r0 := 89) (pc := 166) (h := 66) (f := 35) dX12_comes_166 am_CL_11 sh_66 rfl (Nat.le_of_ble_eq_true rfl) tw_976 (sn_iload_n (pc := 169) (i := 2) dX12_comes_169 rfl (sn_iconst (pc := 170) (v := 2) dX12_comes_170 rfl (sn_iadd (pc := 171) dX12_comes_171 (sn_aI (pc := 172) (h := 89) dX12_comes_172 sh_89 (sn_aload_n (pc := 173) (i := 0) dX12_comes_173 rfl (sn_gR (r0 := 89) (pc := 174) (h := 66) (f := 35) dX12_comes_174 am_CL_11 sh_66 rfl (Nat.le_of_ble_eq_true rfl) tw_976 (sn_iload_n (pc := 177) (i := 2) dX12_comes_177 rfl (sn_iconst (pc := 178) (v := 3) dX12_comes_178 rfl (sn_iadd (pc := 179) dX12_comes_179 (sn_aI (pc := 180) (h := 89) dX12_comes_180 sh_89 (sn_callV (pc := 181) (N := M_M_factComes) dX12_comes_181 (cal_M_factComes G) sh_66 rfl tw_1193 tw_1195 tp_45 tw_12 tw_1196 dsc_X12_factComes rfl (sn_retz (pc := 184) (R := fun x τ => (some ((x, τ)))) dX12_comes_184 rfl (fun _ _ _ _ e h => by cases e; exact h)))))))))))))))))))))))))) (am_all_cons (sn_aload_n (pc := 131) (i := 0) dX12_comes_131 rfl (sn_aload_n (pc := 132) (i := 0) dX12_comes_132 rfl (sn_gR (r0 := 89) (pc := 133) (h := 66) (f := 35) dX12_comes_133 am_CL_11 sh_66 rfl (Nat.le_of_ble_eq_true rfl) tw_976 (sn_iload_n (pc := 136) (i := 2) dX12_comes_136 rfl (sn_aI (pc := 137) (h := 89) dX12_comes_137 sh_89 (sn_aload_n (pc := 138) (i := 0) dX12_comes_138 rfl (sn_gR (r0 := 89) (pc := 139) (h := 66) (f := 35) dX12_comes_139 am_CL_11 sh_66 rfl (Nat.le_of_ble_eq_true rfl) tw_976 (sn_iload_n (pc := 142) (i := 2) dX12_comes_142 rfl (sn_iconst (pc := 143) (v := 1) dX12_comes_143 rfl (sn_iadd (pc := 144) dX12_comes_144 (sn_aI (pc := 145) (h := 89) dX12_comes_145 sh_89 (sn_callV (pc := 146) (N := M_M_deedComes) dX12_comes_146 (cal_M_deedComes G) sh_66 rfl tw_1185 tw_1187 tp_43 tw_12 tw_1188 dsc_X12_deedComes rfl (sn_retz (pc := 149) (R := fun x τ => (some ((x, τ)))) dX12_comes_149 rfl (fun _ _ _ _ e h => by cases e; exact h)))))))))))))) (am_all_cons (sn_aload_n (pc := 98) (i := 0) dX12_comes_98 rfl (sn_aload_n (pc := 99) (i := 0) dX12_comes_99 rfl (sn_gR (r0 := 89) (pc := 100) (h := 66) (f := 35) dX12_comes_100 am_CL_11 sh_66 rfl (Nat.le_of_ble_eq_true rfl) tw_976 (sn_iload_n (pc := 103) (i := 2) dX12_comes_103 rfl (sn_aI (pc := 104) (h := 89) dX12_comes_104 sh_89 (sn_aload_n (pc := 105) (i := 0) dX12_comes_105 rfl (sn_gR (r0 := 89) (pc := 106) (h := 66) (f := 35) dX12_comes_106 am_CL_11 sh_66 rfl (Nat.le_of_ble_eq_true rfl) tw_976 (sn_iload_n (pc := 109) (i := 2) dX12_comes_109 rfl (sn_iconst (pc := 110) (v := 1) dX12_comes_110 rfl (sn_iadd (pc := 111) dX12_comes_111 (sn_aI (pc := 112) (h := 89) dX12_comes_112 sh_89 (sn_aload_n (pc := 113) (i := 0) dX12_comes_113 rfl (sn_gR (r0 := 89) (pc := 114) (h := 66) (f := 35) dX12_comes_114 am_CL_11 sh_66 rfl (Nat.le_of_ble_eq_true rfl) tw_976 (sn_iload_n (pc := 117) (i := 2) dX12_comes_117 rfl (sn_iconst (pc := 118) (v := 2) dX12_comes_118 rfl (sn_iadd (pc := 119) dX12_comes_119 (sn_aI (pc := 120) (h := 89) dX12_comes_120 sh_89 (sn_callV (pc := 121) (N := M_M_childComes) dX12_comes_121 (cal_M_childComes G) sh_66 rfl tw_1173 tw_1175 tp_40 tw_12 tw_1176 dsc_X12_childComes rfl (sn_retz (pc := 124) (R := fun x τ => (some ((x, τ)))) dX12_comes_124 rfl (fun _ _ _ _ e h => by cases e; exact h)))))))))))))))))))) (am_all_cons (sn_aload_n (pc := 79) (i := 0) dX12_comes_79 rfl (sn_aload_n (pc := 80) (i := 0) dX12_comes_80 rfl (sn_gR (r0 := 89) (pc := 81) (h := 66) (f := 35) dX12_comes_81 am_CL_11 sh_66 rfl (Nat.le_of_ble_eq_true rfl) tw_976 (sn_iload_n (pc := 84) (i := 2) dX12_comes_84 rfl (sn_aI (pc := 85) (h := 89) dX12_comes_85 sh_89 (sn_aload_n (pc := 86) (i := 0) dX12_comes_86 rfl (sn_gR (r0 := 89) (pc := 87) (h := 66) (f := 35) dX12_comes_87 am_CL_11 sh_66 rfl (Nat.le_of_ble_eq_true rfl) tw_976 (sn_iload_n (pc := 90) (i := 2) dX12_comes_90 rfl (sn_iconst (pc := 91) (v := 1) dX12_comes_91 rfl (sn_iadd (pc := 92) dX12_comes_92 (sn_aI (pc := 93) (h := 89) dX12_comes_93 sh_89 (sn_callV (pc := 94) (N := M_M_doorComes) dX12_comes_94 (cal_M_doorComes G) sh_66 rfl tw_1146 tw_1148 tp_34 tw_12 tw_1149 dsc_X12_doorComes rfl (sn_retz (pc := 97) (R := fun x τ => (some ((x, τ)))) dX12_comes_97 rfl (fun _ _ _ _ e h => by cases e; exact h)))))))))))))) (am_all_cons (sn_aload_n (pc := 60) (i := 0) dX12_comes_60 rfl (sn_aload_n (pc := 61) (i := 0) dX12_comes_61 rfl (sn_gR (r0 := 89) (pc := 62) (h := 66) (f := 35) dX12_comes_62 am_CL_11 sh_66 rfl (Nat.le_of_ble_eq_true rfl) tw_976 (sn_iload_n (pc := 65) (i := 2) dX12_comes_65 rfl (sn_aI (pc := 66) (h := 89) dX12_comes_66 sh_89 (sn_aload_n (pc := 67) (i := 0) dX12_comes_67 rfl (sn_gR (r0 := 89) (pc := 68) (h := 66) (f := 35) dX12_comes_68 am_CL_11 sh_66 rfl (Nat.le_of_ble_eq_true rfl) tw_976 (sn_iload_n (pc := 71) (i := 2) dX12_comes_71 rfl (sn_iconst (pc := 72) (v := 1) dX12_comes_72 rfl (sn_iadd (pc := 73) dX12_comes_73 (sn_aI (pc := 74) (h := 89) dX12_comes_74 sh_89 (sn_callV (pc := 75) (N := M_M_houseComes) dX12_comes_75 (cal_M_houseComes G) sh_66 rfl tw_1142 tw_1144 tp_33 tw_12 tw_1145 dsc_X12_houseComes rfl (sn_retz (pc := 78) (R := fun x τ => (some ((x, τ)))) dX12_comes_78 rfl (fun _ _ _ _ e h => by cases e; exact h)))))))))))))) (am_all_cons (sn_aload_n (pc := 125) (i := 0) dX12_comes_125 rfl (sn_iload_n (pc := 126) (i := 2) dX12_comes_126 rfl (sn_callV (pc := 127) (N := M_M_trulyComes) dX12_comes_127 (cal_M_trulyComes G) sh_66 rfl tw_1177 tw_1179 tp_41 tw_12 tw_1180 dsc_X12_trulyComes rfl (sn_retz (pc := 130) (R := fun x τ => (some ((x, τ)))) dX12_comes_130 rfl (fun _ _ _ _ e h => by cases e; exact h))))) am_all_nil))))))))))))))) _ _ _ _ _ ((eq_M_comes x1 σ).symm.trans e) hr
noncomputable def cF_M_comes : am_Fn := fun _ args σ K => match args with
  | [.ref q0, .int z1] => match Nat.beq q0 66 with
    | true => (f_M_comes z1 σ).bind (fun p => K (some (.int p.1)) p.2)
    | _ => none
  | _ => none
theorem cal_M_comes (G : am_G) : am_Cal G M_M_comes cF_M_comes := by
  intro ρ args σ K r e
  unfold cF_M_comes at e
  split at e
  · split at e
    · rename_i hq0
      obtain ⟨p, h1, h2⟩ := am_bind_some e
      rw [Nat.eq_of_beq_eq_true hq0]
      exact ⟨some (.int p.1), p.2, am_Met.of rfl (Nat.le_of_ble_eq_true rfl) (s_M_comes G _ σ p _ h1 ⟨rfl, rfl⟩), h2⟩
    · cases e
  · cases e
abbrev M_M_house : am_MD := (yX12_house, cX12_house, 2, (some .int), 6, 132)
theorem dX12_house_0 : decode cX12_house 0 = .ok (.aload_n 0, 1) := by decide +kernel
theorem dX12_house_1 : decode cX12_house 1 = .ok (.iconst 0, 1) := by decide +kernel
theorem dX12_house_2 : decode cX12_house 2 = .ok (.putfield 102, 3) := by decide +kernel
theorem dX12_house_5 : decode cX12_house 5 = .ok (.aload_n 0, 1) := by decide +kernel
theorem dX12_house_6 : decode cX12_house 6 = .ok (.iconst 0, 1) := by decide +kernel
theorem dX12_house_7 : decode cX12_house 7 = .ok (.putfield 160, 3) := by decide +kernel
theorem dX12_house_10 : decode cX12_house 10 = .ok (.aload_n 0, 1) := by decide +kernel
theorem dX12_house_11 : decode cX12_house 11 = .ok (.iconst 0, 1) := by decide +kernel
theorem dX12_house_12 : decode cX12_house 12 = .ok (.putfield 163, 3) := by decide +kernel
theorem dX12_house_15 : decode cX12_house 15 = .ok (.aload_n 0, 1) := by decide +kernel
theorem dX12_house_16 : decode cX12_house 16 = .ok (.iconst 0, 1) := by decide +kernel
theorem dX12_house_17 : decode cX12_house 17 = .ok (.putfield 177, 3) := by decide +kernel
theorem dX12_house_20 : decode cX12_house 20 = .ok (.aload_n 0, 1) := by decide +kernel
theorem dX12_house_21 : decode cX12_house 21 = .ok (.aload_n 0, 1) := by decide +kernel
theorem dX12_house_22 : decode cX12_house 22 = .ok (.getfield 13, 3) := by decide +kernel
theorem dX12_house_25 : decode cX12_house 25 = .ok (.putfield 174, 3) := by decide +kernel
theorem dX12_house_28 : decode cX12_house 28 = .ok (.aload_n 0, 1) := by decide +kernel
theorem dX12_house_29 : decode cX12_house 29 = .ok (.getfield 163, 3) := by decide +kernel
theorem dX12_house_32 : decode cX12_house 32 = .ok (.ifCond .ne 28, 3) := by decide +kernel
theorem dX12_house_35 : decode cX12_house 35 = .ok (.aload_n 0, 1) := by decide +kernel
theorem dX12_house_36 : decode cX12_house 36 = .ok (.getfield 177, 3) := by decide +kernel
theorem dX12_house_39 : decode cX12_house 39 = .ok (.ifCond .eq 14, 3) := by decide +kernel
theorem dX12_house_42 : decode cX12_house 42 = .ok (.aload_n 0, 1) := by decide +kernel
theorem dX12_house_43 : decode cX12_house 43 = .ok (.getfield 160, 3) := by decide +kernel
theorem dX12_house_46 : decode cX12_house 46 = .ok (.aload_n 0, 1) := by decide +kernel
theorem dX12_house_47 : decode cX12_house 47 = .ok (.getfield 157, 3) := by decide +kernel
theorem dX12_house_50 : decode cX12_house 50 = .ok (.if_icmp .ge 10, 3) := by decide +kernel
theorem dX12_house_53 : decode cX12_house 53 = .ok (.aload_n 0, 1) := by decide +kernel
theorem dX12_house_54 : decode cX12_house 54 = .ok (.invokevirtual 229, 3) := by decide +kernel
theorem dX12_house_57 : decode cX12_house 57 = .ok (.goto (-29), 3) := by decide +kernel
theorem dX12_house_60 : decode cX12_house 60 = .ok (.aload_n 0, 1) := by decide +kernel
theorem dX12_house_61 : decode cX12_house 61 = .ok (.iconst 0, 1) := by decide +kernel
theorem dX12_house_62 : decode cX12_house 62 = .ok (.putfield 157, 3) := by decide +kernel
theorem dX12_house_65 : decode cX12_house 65 = .ok (.aload_n 0, 1) := by decide +kernel
theorem dX12_house_66 : decode cX12_house 66 = .ok (.getfield 163, 3) := by decide +kernel
theorem dX12_house_69 : decode cX12_house 69 = .ok (.ifCond .eq 12, 3) := by decide +kernel
theorem dX12_house_72 : decode cX12_house 72 = .ok (.sipush (-1000), 3) := by decide +kernel
theorem dX12_house_75 : decode cX12_house 75 = .ok (.aload_n 0, 1) := by decide +kernel
theorem dX12_house_76 : decode cX12_house 76 = .ok (.getfield 160, 3) := by decide +kernel
theorem dX12_house_79 : decode cX12_house 79 = .ok (.isub, 1) := by decide +kernel
theorem dX12_house_80 : decode cX12_house 80 = .ok (.ireturn, 1) := by decide +kernel
theorem dX12_house_81 : decode cX12_house 81 = .ok (.aload_n 0, 1) := by decide +kernel
theorem dX12_house_82 : decode cX12_house 82 = .ok (.aload_n 0, 1) := by decide +kernel
theorem dX12_house_83 : decode cX12_house 83 = .ok (.getfield 86, 3) := by decide +kernel
theorem dX12_house_86 : decode cX12_house 86 = .ok (.iconst 1, 1) := by decide +kernel
theorem dX12_house_87 : decode cX12_house 87 = .ok (.invokevirtual 232, 3) := by decide +kernel
theorem dX12_house_90 : decode cX12_house 90 = .ok (.iconst 0, 1) := by decide +kernel
theorem dX12_house_91 : decode cX12_house 91 = .ok (.istore_n 1, 1) := by decide +kernel
theorem dX12_house_92 : decode cX12_house 92 = .ok (.iload_n 1, 1) := by decide +kernel
theorem dX12_house_93 : decode cX12_house 93 = .ok (.aload_n 0, 1) := by decide +kernel
theorem dX12_house_94 : decode cX12_house 94 = .ok (.getfield 177, 3) := by decide +kernel
theorem dX12_house_97 : decode cX12_house 97 = .ok (.if_icmp .ge 37, 3) := by decide +kernel
theorem dX12_house_100 : decode cX12_house 100 = .ok (.aload_n 0, 1) := by decide +kernel
theorem dX12_house_101 : decode cX12_house 101 = .ok (.iload_n 1, 1) := by decide +kernel
theorem dX12_house_102 : decode cX12_house 102 = .ok (.invokevirtual 236, 3) := by decide +kernel
theorem dX12_house_105 : decode cX12_house 105 = .ok (.ifCond .ne 23, 3) := by decide +kernel
theorem dX12_house_108 : decode cX12_house 108 = .ok (.aload_n 0, 1) := by decide +kernel
theorem dX12_house_109 : decode cX12_house 109 = .ok (.aload_n 0, 1) := by decide +kernel
theorem dX12_house_110 : decode cX12_house 110 = .ok (.getfield 86, 3) := by decide +kernel
theorem dX12_house_113 : decode cX12_house 113 = .ok (.iconst 0, 1) := by decide +kernel
theorem dX12_house_114 : decode cX12_house 114 = .ok (.invokevirtual 232, 3) := by decide +kernel
theorem dX12_house_117 : decode cX12_house 117 = .ok (.sipush (-2000), 3) := by decide +kernel
theorem dX12_house_120 : decode cX12_house 120 = .ok (.aload_n 0, 1) := by decide +kernel
theorem dX12_house_121 : decode cX12_house 121 = .ok (.getfield 77, 3) := by decide +kernel
theorem dX12_house_124 : decode cX12_house 124 = .ok (.iload_n 1, 1) := by decide +kernel
theorem dX12_house_125 : decode cX12_house 125 = .ok (.iaload, 1) := by decide +kernel
theorem dX12_house_126 : decode cX12_house 126 = .ok (.isub, 1) := by decide +kernel
theorem dX12_house_127 : decode cX12_house 127 = .ok (.ireturn, 1) := by decide +kernel
theorem dX12_house_128 : decode cX12_house 128 = .ok (.iinc 1 1, 3) := by decide +kernel
theorem dX12_house_131 : decode cX12_house 131 = .ok (.goto (-39), 3) := by decide +kernel
theorem dX12_house_134 : decode cX12_house 134 = .ok (.aload_n 0, 1) := by decide +kernel
theorem dX12_house_135 : decode cX12_house 135 = .ok (.iconst 0, 1) := by decide +kernel
theorem dX12_house_136 : decode cX12_house 136 = .ok (.putfield 239, 3) := by decide +kernel
theorem dX12_house_139 : decode cX12_house 139 = .ok (.aload_n 0, 1) := by decide +kernel
theorem dX12_house_140 : decode cX12_house 140 = .ok (.getfield 177, 3) := by decide +kernel
theorem dX12_house_143 : decode cX12_house 143 = .ok (.ireturn, 1) := by decide +kernel
abbrev Pl_M_house_92 (G : am_G) : ((Int32 × am_St) ⊕ (Int32 × am_St)) → am_AQ → Prop := am_PL G M_M_house 92 (fun s : Int32 × am_St => [(1, .int s.1), (0, .ref 66)]) (fun s => s.2) am_Pi
abbrev Pl_M_house_28 (G : am_G) : ((am_St) ⊕ (Int32 × am_St)) → am_AQ → Prop := am_PL G M_M_house 28 (fun s : am_St => [(0, .ref 66)]) (fun s => s) am_Pi
noncomputable def g_M_house_53 (σ : am_St) : Option ((am_St) ⊕ (Int32 × am_St)) :=
  (f_M_readStatement σ).bind (fun p1 =>
    some (.inl p1))
noncomputable def f_M_house_53 (σ : am_St) : Option ((am_St) ⊕ (Int32 × am_St)) := am_lk (g_M_house_53  σ)
theorem eq_M_house_53 (σ : am_St) : f_M_house_53  σ = g_M_house_53  σ := am_lk_eq _
set_option maxRecDepth 100000 in
set_option maxHeartbeats 4000000 in
theorem s_M_house_53 (G : am_G) (σ : am_St) (r : (am_St) ⊕ (Int32 × am_St)) (Q : am_AQ) (e : f_M_house_53  σ = some r) (hr : (Pl_M_house_28 G) r Q) : am_AW G M_M_house 53 [(0, .ref 66)] [] σ Q :=
  (show am_Snd G M_M_house 53 (Pl_M_house_28 G) _ from (sn_aload_n (pc := 53) (i := 0) dX12_house_53 rfl (sn_callV (pc := 54) (N := M_M_readStatement) dX12_house_54 (cal_M_readStatement G) sh_66 rfl tw_1098 tw_1100 tp_24 tw_12 tw_1101 dsc_X12_readStatement rfl (sn_goto (pc := 57) (tgt := 28) dX12_house_57 rfl (sn_lf (pc := 28) (ln_a (i := 0) (q := 66) (ln_end (o := fun τ => (some (.inl τ) : Option ((am_St) ⊕ (Int32 × am_St)))) (fun _ _ _ e h => by cases e; exact h)))))))) _ _ _ _ _ ((eq_M_house_53  σ).symm.trans e) hr
noncomputable def g_M_house_117 (x1 : Int32) (σ : am_St) : Option (Int32 × am_St) :=
  if am_ix x1 33 = true then
    some (((-2000) - (σ.1 87 x1.toNatClampNeg), σ))
  else none
noncomputable def f_M_house_117 (x1 : Int32) (σ : am_St) : Option (Int32 × am_St) := am_lk (g_M_house_117 x1 σ)
theorem eq_M_house_117 (x1 : Int32) (σ : am_St) : f_M_house_117 x1 σ = g_M_house_117 x1 σ := am_lk_eq _
set_option maxRecDepth 100000 in
set_option maxHeartbeats 4000000 in
theorem s_M_house_117 (G : am_G) (x1 : Int32) (σ : am_St) (r : Int32 × am_St) (Q : am_AQ) (e : f_M_house_117 x1 σ = some r) (hr : am_Pi r Q) : am_AW G M_M_house 117 [(1, .int x1), (0, .ref 66)] [] σ Q :=
  (show am_Snd G M_M_house 117 am_Pi _ from (sn_sipush (pc := 117) (v := (-2000)) dX12_house_117 (show (Int16.ofInt (-2000)).toInt32 = (-2000) by decide) (sn_aload_n (pc := 120) (i := 0) dX12_house_120 rfl (sn_gR (r0 := 87) (pc := 121) (h := 66) (f := 33) dX12_house_121 am_CL_11 sh_66 rfl (Nat.le_of_ble_eq_true rfl) tw_974 (sn_iload_n (pc := 124) (i := 1) dX12_house_124 rfl (sn_aI (pc := 125) (h := 87) dX12_house_125 sh_87 (sn_isub (pc := 126) dX12_house_126 (sn_reti (pc := 127) (R := fun x τ => (some ((x, τ)))) dX12_house_127 rfl (fun _ _ _ _ e h => by cases e; exact h))))))))) _ _ _ _ _ ((eq_M_house_117 x1 σ).symm.trans e) hr
noncomputable def b_M_house_92 (x1 : Int32) (σ : am_St) : Option ((Int32 × am_St) ⊕ (Int32 × am_St)) :=
  if (σ.1 66 32) ≤ x1 then
    let s1 := am_sI σ 66 4 0
    some (.inr ((s1.1 66 32, s1)))
  else
    (f_M_comes x1 σ).bind (fun p2 =>
      if p2.1 = 0 then
        (f_M_carryAll_90 0 p2.2).bind (fun p4 =>
          (f_M_house_117 x1 p4).map (fun r => .inr r))
      else
        let v3 := x1 + 1
        some (.inl (v3, p2.2)))
noncomputable def f_M_house_92 (x1 : Int32) (σ : am_St) : Option (Int32 × am_St) := am_lp (fun s : Int32 × am_St => b_M_house_92 s.1 s.2) (x1, σ)
set_option maxRecDepth 100000 in
set_option maxHeartbeats 4000000 in
theorem sb_M_house_92 (G : am_G) (x1 : Int32) (σ : am_St) (r : (Int32 × am_St) ⊕ (Int32 × am_St)) (Q : am_AQ) (e : b_M_house_92 x1 σ = some r) (hr : Pl_M_house_92 G r Q) : am_AW G M_M_house 92 [(1, .int x1), (0, .ref 66)] [] σ Q :=
  (show am_Snd G M_M_house 92 (Pl_M_house_92 G) _ from (sn_iload_n (pc := 92) (i := 1) dX12_house_92 rfl (sn_aload_n (pc := 93) (i := 0) dX12_house_93 rfl (sn_gI (pc := 94) (h := 66) (f := 32) dX12_house_94 am_CL_11 sh_66 rfl (Nat.le_of_ble_eq_true rfl) tw_973 (sn_icmp_ge (pc := 97) (tgt := 134) dX12_house_97 rfl (sn_aload_n (pc := 134) (i := 0) dX12_house_134 rfl (sn_iconst (pc := 135) (v := 0) dX12_house_135 rfl (sn_pI (pc := 136) (h := 66) (f := 4) dX12_house_136 am_CL_11 sh_66 rfl (Nat.le_of_ble_eq_true rfl) tw_945 rfl rfl (sn_aload_n (pc := 139) (i := 0) dX12_house_139 rfl (sn_gI (pc := 140) (h := 66) (f := 32) dX12_house_140 am_CL_11 sh_66 rfl (Nat.le_of_ble_eq_true rfl) tw_973 (sn_reti (pc := 143) (R := fun x τ => (some (.inr ((x, τ))) : Option ((Int32 × am_St) ⊕ (Int32 × am_St)))) dX12_house_143 rfl (fun _ _ _ _ e h => by cases e; exact h))))))) (sn_aload_n (pc := 100) (i := 0) dX12_house_100 rfl (sn_iload_n (pc := 101) (i := 1) dX12_house_101 rfl (sn_callV (pc := 102) (N := M_M_comes) dX12_house_102 (cal_M_comes G) sh_66 rfl tw_1138 tw_1140 tp_32 tw_12 tw_1141 dsc_X12_comes rfl (sn_if_ne (pc := 105) (tgt := 128) dX12_house_105 rfl (sn_iinc (pc := 128) (v := 1) dX12_house_128 rfl (Nat.le_of_ble_eq_true rfl) (sn_goto (pc := 131) (tgt := 92) dX12_house_131 rfl (sn_lf (pc := 92) (ln_a (i := 0) (q := 66) (ln_i (i := 1) (fun z0 => (ln_end (o := fun τ => (some (.inl (z0, τ)) : Option ((Int32 × am_St) ⊕ (Int32 × am_St)))) (fun _ _ _ e h => by cases e; exact h)))))))) (sn_aload_n (pc := 108) (i := 0) dX12_house_108 rfl (sn_aload_n (pc := 109) (i := 0) dX12_house_109 rfl (sn_gR (r0 := 90) (pc := 110) (h := 66) (f := 36) dX12_house_110 am_CL_11 sh_66 rfl (Nat.le_of_ble_eq_true rfl) tw_977 (sn_iconst (pc := 113) (v := 0) dX12_house_113 rfl (sn_callV (pc := 114) (N := M_M_carryAll) dX12_house_114 (cal_M_carryAll_90 G) sh_66 rfl tw_1126 tw_1128 tp_29 tw_12 tw_1129 dsc_X12_carryAll rfl (sn_lf (pc := 117) (ln_a (i := 0) (q := 66) (ln_i (i := 1) (fun z0 => (ln_end (o := fun τ => ((f_M_house_117 z0 τ).map (fun r => .inr r) : Option ((Int32 × am_St) ⊕ (Int32 × am_St)))) (fun _ _ _ e h => by obtain ⟨r9, e9, rfl⟩ := am_map_some e; exact s_M_house_117 G z0 _ _ _ e9 h)))))))))))))))))))) _ _ _ _ _ e hr
theorem s_M_house_92 (G : am_G) (x1 : Int32) (σ : am_St) (r : Int32 × am_St) (Q : am_AQ) (e : f_M_house_92 x1 σ = some r) (hr : am_Pi r Q) : am_AW G M_M_house 92 [(1, .int x1), (0, .ref 66)] [] σ Q :=
  am_loop (P := am_Pi) (L := fun s : Int32 × am_St => [(1, .int s.1), (0, .ref 66)]) (g := fun s => s.2) (fun s o Q e hr => sb_M_house_92 G s.1 s.2 o Q e hr) (x1, σ) r Q e hr
noncomputable def g_M_house_60 (σ : am_St) : Option (Int32 × am_St) :=
  let s1 := am_sI σ 66 28 0
  if (s1.1 66 30) = 0 then
    (f_M_carryAll_90 1 s1).bind (fun p2 =>
      f_M_house_92 0 p2)
  else
    some (((-1000) - (s1.1 66 29), s1))
noncomputable def f_M_house_60 (σ : am_St) : Option (Int32 × am_St) := am_lk (g_M_house_60  σ)
theorem eq_M_house_60 (σ : am_St) : f_M_house_60  σ = g_M_house_60  σ := am_lk_eq _
set_option maxRecDepth 100000 in
set_option maxHeartbeats 4000000 in
theorem s_M_house_60 (G : am_G) (σ : am_St) (r : Int32 × am_St) (Q : am_AQ) (e : f_M_house_60  σ = some r) (hr : am_Pi r Q) : am_AW G M_M_house 60 [(0, .ref 66)] [] σ Q :=
  (show am_Snd G M_M_house 60 am_Pi _ from (sn_aload_n (pc := 60) (i := 0) dX12_house_60 rfl (sn_iconst (pc := 61) (v := 0) dX12_house_61 rfl (sn_pI (pc := 62) (h := 66) (f := 28) dX12_house_62 am_CL_11 sh_66 rfl (Nat.le_of_ble_eq_true rfl) tw_969 rfl rfl (sn_aload_n (pc := 65) (i := 0) dX12_house_65 rfl (sn_gI (pc := 66) (h := 66) (f := 30) dX12_house_66 am_CL_11 sh_66 rfl (Nat.le_of_ble_eq_true rfl) tw_971 (sn_if_eq (pc := 69) (tgt := 81) dX12_house_69 rfl (sn_aload_n (pc := 81) (i := 0) dX12_house_81 rfl (sn_aload_n (pc := 82) (i := 0) dX12_house_82 rfl (sn_gR (r0 := 90) (pc := 83) (h := 66) (f := 36) dX12_house_83 am_CL_11 sh_66 rfl (Nat.le_of_ble_eq_true rfl) tw_977 (sn_iconst (pc := 86) (v := 1) dX12_house_86 rfl (sn_callV (pc := 87) (N := M_M_carryAll) dX12_house_87 (cal_M_carryAll_90 G) sh_66 rfl tw_1126 tw_1128 tp_29 tw_12 tw_1129 dsc_X12_carryAll rfl (sn_iconst (pc := 90) (v := 0) dX12_house_90 rfl (sn_istore_n (pc := 91) (i := 1) dX12_house_91 rfl (Nat.le_of_ble_eq_true rfl) (sn_lf (pc := 92) (ln_a (i := 0) (q := 66) (ln_i (i := 1) (fun z0 => (ln_end (o := fun τ => f_M_house_92 z0 τ) (fun _ _ _ e h => s_M_house_92 G z0 _ _ _ e h))))))))))))) (sn_sipush (pc := 72) (v := (-1000)) dX12_house_72 (show (Int16.ofInt (-1000)).toInt32 = (-1000) by decide) (sn_aload_n (pc := 75) (i := 0) dX12_house_75 rfl (sn_gI (pc := 76) (h := 66) (f := 29) dX12_house_76 am_CL_11 sh_66 rfl (Nat.le_of_ble_eq_true rfl) tw_970 (sn_isub (pc := 79) dX12_house_79 (sn_reti (pc := 80) (R := fun x τ => (some ((x, τ)))) dX12_house_80 rfl (fun _ _ _ _ e h => by cases e; exact h))))))))))))) _ _ _ _ _ ((eq_M_house_60  σ).symm.trans e) hr
noncomputable def b_M_house_28 (σ : am_St) : Option ((am_St) ⊕ (Int32 × am_St)) :=
  if (σ.1 66 30) = 0 then
    if (σ.1 66 32) = 0 then
      f_M_house_53 σ
    else
      if (σ.1 66 28) ≤ (σ.1 66 29) then
        (f_M_house_60 σ).map (fun r => .inr r)
      else
        f_M_house_53 σ
  else
    (f_M_house_60 σ).map (fun r => .inr r)
noncomputable def f_M_house_28 (σ : am_St) : Option (Int32 × am_St) := am_lp (fun s : am_St => b_M_house_28 s) σ
set_option maxRecDepth 100000 in
set_option maxHeartbeats 4000000 in
theorem sb_M_house_28 (G : am_G) (σ : am_St) (r : (am_St) ⊕ (Int32 × am_St)) (Q : am_AQ) (e : b_M_house_28  σ = some r) (hr : Pl_M_house_28 G r Q) : am_AW G M_M_house 28 [(0, .ref 66)] [] σ Q :=
  (show am_Snd G M_M_house 28 (Pl_M_house_28 G) _ from (sn_aload_n (pc := 28) (i := 0) dX12_house_28 rfl (sn_gI (pc := 29) (h := 66) (f := 30) dX12_house_29 am_CL_11 sh_66 rfl (Nat.le_of_ble_eq_true rfl) tw_971 (sn_if_ne (pc := 32) (tgt := 60) dX12_house_32 rfl (sn_lf (pc := 60) (ln_a (i := 0) (q := 66) (ln_end (o := fun τ => ((f_M_house_60 τ).map (fun r => .inr r) : Option ((am_St) ⊕ (Int32 × am_St)))) (fun _ _ _ e h => by obtain ⟨r9, e9, rfl⟩ := am_map_some e; exact s_M_house_60 G  _ _ _ e9 h)))) (sn_aload_n (pc := 35) (i := 0) dX12_house_35 rfl (sn_gI (pc := 36) (h := 66) (f := 32) dX12_house_36 am_CL_11 sh_66 rfl (Nat.le_of_ble_eq_true rfl) tw_973 (sn_if_eq (pc := 39) (tgt := 53) dX12_house_39 rfl (sn_lf (pc := 53) (ln_a (i := 0) (q := 66) (ln_end (o := fun τ => f_M_house_53 τ) (fun _ _ _ e h => s_M_house_53 G  _ _ _ e h)))) (sn_aload_n (pc := 42) (i := 0) dX12_house_42 rfl (sn_gI (pc := 43) (h := 66) (f := 29) dX12_house_43 am_CL_11 sh_66 rfl (Nat.le_of_ble_eq_true rfl) tw_970 (sn_aload_n (pc := 46) (i := 0) dX12_house_46 rfl (sn_gI (pc := 47) (h := 66) (f := 28) dX12_house_47 am_CL_11 sh_66 rfl (Nat.le_of_ble_eq_true rfl) tw_969 (sn_icmp_ge (pc := 50) (tgt := 60) dX12_house_50 rfl (sn_lf (pc := 60) (ln_a (i := 0) (q := 66) (ln_end (o := fun τ => ((f_M_house_60 τ).map (fun r => .inr r) : Option ((am_St) ⊕ (Int32 × am_St)))) (fun _ _ _ e h => by obtain ⟨r9, e9, rfl⟩ := am_map_some e; exact s_M_house_60 G  _ _ _ e9 h)))) (sn_lf (pc := 53) (ln_a (i := 0) (q := 66) (ln_end (o := fun τ => f_M_house_53 τ) (fun _ _ _ e h => s_M_house_53 G  _ _ _ e h)))))))))))))))) _ _ _ _ _ e hr
theorem s_M_house_28 (G : am_G) (σ : am_St) (r : Int32 × am_St) (Q : am_AQ) (e : f_M_house_28  σ = some r) (hr : am_Pi r Q) : am_AW G M_M_house 28 [(0, .ref 66)] [] σ Q :=
  am_loop (P := am_Pi) (L := fun s : am_St => [(0, .ref 66)]) (g := fun s => s) (fun s o Q e hr => sb_M_house_28 G s o Q e hr) σ r Q e hr
noncomputable def g_M_house (σ : am_St) : Option (Int32 × am_St) :=
  let s1 := am_sI σ 66 22 0
  let s2 := am_sI s1 66 29 0
  let s3 := am_sI s2 66 30 0
  let s4 := am_sI s3 66 32 0
  let s5 := am_sI s4 66 31 (s4.1 66 1)
  f_M_house_28 s5
noncomputable def f_M_house (σ : am_St) : Option (Int32 × am_St) := am_lk (g_M_house  σ)
theorem eq_M_house (σ : am_St) : f_M_house  σ = g_M_house  σ := am_lk_eq _
set_option maxRecDepth 100000 in
set_option maxHeartbeats 4000000 in
theorem s_M_house (G : am_G) (σ : am_St) (r : Int32 × am_St) (Q : am_AQ) (e : f_M_house  σ = some r) (hr : am_Pi r Q) : am_AW G M_M_house 0 [(0, .ref 66)] [] σ Q :=
  (show am_Snd G M_M_house 0 am_Pi _ from (sn_aload_n (pc := 0) (i := 0) dX12_house_0 rfl (sn_iconst (pc := 1) (v := 0) dX12_house_1 rfl (sn_pI (pc := 2) (h := 66) (f := 22) dX12_house_2 am_CL_11 sh_66 rfl (Nat.le_of_ble_eq_true rfl) tw_963 rfl rfl (sn_aload_n (pc := 5) (i := 0) dX12_house_5 rfl (sn_iconst (pc := 6) (v := 0) dX12_house_6 rfl (sn_pI (pc := 7) (h := 66) (f := 29) dX12_house_7 am_CL_11 sh_66 rfl (Nat.le_of_ble_eq_true rfl) tw_970 rfl rfl (sn_aload_n (pc := 10) (i := 0) dX12_house_10 rfl (sn_iconst (pc := 11) (v := 0) dX12_house_11 rfl (sn_pZ (pc := 12) (h := 66) (f := 30) dX12_house_12 am_CL_11 sh_66 rfl (Nat.le_of_ble_eq_true rfl) tw_971 rfl rfl (sn_aload_n (pc := 15) (i := 0) dX12_house_15 rfl (sn_iconst (pc := 16) (v := 0) dX12_house_16 rfl (sn_pI (pc := 17) (h := 66) (f := 32) dX12_house_17 am_CL_11 sh_66 rfl (Nat.le_of_ble_eq_true rfl) tw_973 rfl rfl (sn_aload_n (pc := 20) (i := 0) dX12_house_20 rfl (sn_aload_n (pc := 21) (i := 0) dX12_house_21 rfl (sn_gI (pc := 22) (h := 66) (f := 1) dX12_house_22 am_CL_11 sh_66 rfl (Nat.le_of_ble_eq_true rfl) tw_942 (sn_pI (pc := 25) (h := 66) (f := 31) dX12_house_25 am_CL_11 sh_66 rfl (Nat.le_of_ble_eq_true rfl) tw_972 rfl rfl (sn_lf (pc := 28) (ln_a (i := 0) (q := 66) (ln_end (o := fun τ => f_M_house_28 τ) (fun _ _ _ e h => s_M_house_28 G  _ _ _ e h))))))))))))))))))))) _ _ _ _ _ ((eq_M_house  σ).symm.trans e) hr
noncomputable def cF_M_house : am_Fn := fun _ args σ K => match args with
  | [.ref q0] => match Nat.beq q0 66 with
    | true => (f_M_house σ).bind (fun p => K (some (.int p.1)) p.2)
    | _ => none
  | _ => none
theorem cal_M_house (G : am_G) : am_Cal G M_M_house cF_M_house := by
  intro ρ args σ K r e
  unfold cF_M_house at e
  split at e
  · split at e
    · rename_i hq0
      obtain ⟨p, h1, h2⟩ := am_bind_some e
      rw [Nat.eq_of_beq_eq_true hq0]
      exact ⟨some (.int p.1), p.2, am_Met.of rfl (Nat.le_of_ble_eq_true rfl) (s_M_house G  σ p _ h1 ⟨rfl, rfl⟩), h2⟩
    · cases e
  · cases e
abbrev Pl_M_carryAll_91_224 (G : am_G) : ((Int32 × am_St) ⊕ (am_St)) → am_AQ → Prop := am_PL G M_M_carryAll 224 (fun s : Int32 × am_St => [(3, .int s.1), (0, .ref 66)]) (fun s => s.2) am_Pv
abbrev Pl_M_carryAll_91_194 (G : am_G) : ((Int32 × am_St) ⊕ (am_St)) → am_AQ → Prop := am_PL G M_M_carryAll 194 (fun s : Int32 × am_St => [(3, .int s.1), (0, .ref 66)]) (fun s => s.2) am_Pv
abbrev Pl_M_carryAll_91_101 (G : am_G) : ((Int32 × am_St) ⊕ (am_St)) → am_AQ → Prop := am_PL G M_M_carryAll 101 (fun s : Int32 × am_St => [(3, .int s.1), (0, .ref 66)]) (fun s => s.2) am_Pv
noncomputable def g_M_carryAll_91_170 (x3 : Int32) (σ : am_St) : Option ((Int32 × am_St) ⊕ (am_St)) :=
  if am_ix x3 4 = true then
    (f_M_carry (σ.1 71 x3.toNatClampNeg) σ).bind (fun p1 =>
      if am_ix x3 4 = true then
        let s2 := am_sI p1.2 71 x3.toNatClampNeg p1.1
        let v3 := x3 + 1
        some (.inl (v3, s2))
      else none)
  else none
noncomputable def f_M_carryAll_91_170 (x3 : Int32) (σ : am_St) : Option ((Int32 × am_St) ⊕ (am_St)) := am_lk (g_M_carryAll_91_170 x3 σ)
theorem eq_M_carryAll_91_170 (x3 : Int32) (σ : am_St) : f_M_carryAll_91_170 x3 σ = g_M_carryAll_91_170 x3 σ := am_lk_eq _
set_option maxRecDepth 100000 in
set_option maxHeartbeats 4000000 in
theorem s_M_carryAll_91_170 (G : am_G) (x3 : Int32) (σ : am_St) (r : (Int32 × am_St) ⊕ (am_St)) (Q : am_AQ) (e : f_M_carryAll_91_170 x3 σ = some r) (hr : (Pl_M_carryAll_91_101 G) r Q) : am_AW G M_M_carryAll 170 [(3, .int x3), (0, .ref 66)] [] σ Q :=
  (show am_Snd G M_M_carryAll 170 (Pl_M_carryAll_91_101 G) _ from (sn_aload_n (pc := 170) (i := 0) dX12_carryAll_170 rfl (sn_gR (r0 := 71) (pc := 171) (h := 66) (f := 11) dX12_carryAll_171 am_CL_11 sh_66 rfl (Nat.le_of_ble_eq_true rfl) tw_952 (sn_iload_n (pc := 174) (i := 3) dX12_carryAll_174 rfl (sn_aload_n (pc := 175) (i := 0) dX12_carryAll_175 rfl (sn_aload_n (pc := 176) (i := 0) dX12_carryAll_176 rfl (sn_gR (r0 := 71) (pc := 177) (h := 66) (f := 11) dX12_carryAll_177 am_CL_11 sh_66 rfl (Nat.le_of_ble_eq_true rfl) tw_952 (sn_iload_n (pc := 180) (i := 3) dX12_carryAll_180 rfl (sn_aI (pc := 181) (h := 71) dX12_carryAll_181 sh_71 (sn_callV (pc := 182) (N := M_M_carry) dX12_carryAll_182 (cal_M_carry G) sh_66 rfl tw_1130 tw_1132 tp_30 tw_12 tw_1133 dsc_X12_carry rfl (sn_sI (pc := 185) (h := 71) dX12_carryAll_185 sh_71 (sn_iinc (pc := 186) (v := 1) dX12_carryAll_186 rfl (Nat.le_of_ble_eq_true rfl) (sn_goto (pc := 189) (tgt := 101) dX12_carryAll_189 rfl (sn_lf (pc := 101) (ln_a (i := 0) (q := 66) (ln_i (i := 3) (fun z0 => (ln_end (o := fun τ => (some (.inl (z0, τ)) : Option ((Int32 × am_St) ⊕ (am_St)))) (fun _ _ _ e h => by cases e; exact h))))))))))))))))))) _ _ _ _ _ ((eq_M_carryAll_91_170 x3 σ).symm.trans e) hr
noncomputable def g_M_carryAll_91_138 (x3 : Int32) (σ : am_St) : Option ((Int32 × am_St) ⊕ (am_St)) :=
  if am_ix x3 4 = true then
    (f_M_carry (σ.1 69 x3.toNatClampNeg) σ).bind (fun p1 =>
      if am_ix x3 4 = true then
        let s2 := am_sI p1.2 69 x3.toNatClampNeg p1.1
        if am_ix x3 4 = true then
          (f_M_carry (s2.1 70 x3.toNatClampNeg) s2).bind (fun p3 =>
            if am_ix x3 4 = true then
              let s4 := am_sI p3.2 70 x3.toNatClampNeg p3.1
              f_M_carryAll_91_170 x3 s4
            else none)
        else none
      else none)
  else none
noncomputable def f_M_carryAll_91_138 (x3 : Int32) (σ : am_St) : Option ((Int32 × am_St) ⊕ (am_St)) := am_lk (g_M_carryAll_91_138 x3 σ)
theorem eq_M_carryAll_91_138 (x3 : Int32) (σ : am_St) : f_M_carryAll_91_138 x3 σ = g_M_carryAll_91_138 x3 σ := am_lk_eq _
set_option maxRecDepth 100000 in
set_option maxHeartbeats 4000000 in
theorem s_M_carryAll_91_138 (G : am_G) (x3 : Int32) (σ : am_St) (r : (Int32 × am_St) ⊕ (am_St)) (Q : am_AQ) (e : f_M_carryAll_91_138 x3 σ = some r) (hr : (Pl_M_carryAll_91_101 G) r Q) : am_AW G M_M_carryAll 138 [(3, .int x3), (0, .ref 66)] [] σ Q :=
  (show am_Snd G M_M_carryAll 138 (Pl_M_carryAll_91_101 G) _ from (sn_aload_n (pc := 138) (i := 0) dX12_carryAll_138 rfl (sn_gR (r0 := 69) (pc := 139) (h := 66) (f := 9) dX12_carryAll_139 am_CL_11 sh_66 rfl (Nat.le_of_ble_eq_true rfl) tw_950 (sn_iload_n (pc := 142) (i := 3) dX12_carryAll_142 rfl (sn_aload_n (pc := 143) (i := 0) dX12_carryAll_143 rfl (sn_aload_n (pc := 144) (i := 0) dX12_carryAll_144 rfl (sn_gR (r0 := 69) (pc := 145) (h := 66) (f := 9) dX12_carryAll_145 am_CL_11 sh_66 rfl (Nat.le_of_ble_eq_true rfl) tw_950 (sn_iload_n (pc := 148) (i := 3) dX12_carryAll_148 rfl (sn_aI (pc := 149) (h := 69) dX12_carryAll_149 sh_69 (sn_callV (pc := 150) (N := M_M_carry) dX12_carryAll_150 (cal_M_carry G) sh_66 rfl tw_1130 tw_1132 tp_30 tw_12 tw_1133 dsc_X12_carry rfl (sn_sI (pc := 153) (h := 69) dX12_carryAll_153 sh_69 (sn_aload_n (pc := 154) (i := 0) dX12_carryAll_154 rfl (sn_gR (r0 := 70) (pc := 155) (h := 66) (f := 10) dX12_carryAll_155 am_CL_11 sh_66 rfl (Nat.le_of_ble_eq_true rfl) tw_951 (sn_iload_n (pc := 158) (i := 3) dX12_carryAll_158 rfl (sn_aload_n (pc := 159) (i := 0) dX12_carryAll_159 rfl (sn_aload_n (pc := 160) (i := 0) dX12_carryAll_160 rfl (sn_gR (r0 := 70) (pc := 161) (h := 66) (f := 10) dX12_carryAll_161 am_CL_11 sh_66 rfl (Nat.le_of_ble_eq_true rfl) tw_951 (sn_iload_n (pc := 164) (i := 3) dX12_carryAll_164 rfl (sn_aI (pc := 165) (h := 70) dX12_carryAll_165 sh_70 (sn_callV (pc := 166) (N := M_M_carry) dX12_carryAll_166 (cal_M_carry G) sh_66 rfl tw_1130 tw_1132 tp_30 tw_12 tw_1133 dsc_X12_carry rfl (sn_sI (pc := 169) (h := 70) dX12_carryAll_169 sh_70 (sn_lf (pc := 170) (ln_a (i := 0) (q := 66) (ln_i (i := 3) (fun z0 => (ln_end (o := fun τ => f_M_carryAll_91_170 z0 τ) (fun _ _ _ e h => s_M_carryAll_91_170 G z0 _ _ _ e h))))))))))))))))))))))))))) _ _ _ _ _ ((eq_M_carryAll_91_138 x3 σ).symm.trans e) hr
noncomputable def b_M_carryAll_91_224 (x3 : Int32) (σ : am_St) : Option ((Int32 × am_St) ⊕ (am_St)) :=
  if 3 ≤ x3 then
    (f_M_carrySays σ).bind (fun p1 =>
      some (.inr (p1)))
  else
    if am_ix x3 3 = true then
      (f_M_carry (σ.1 77 x3.toNatClampNeg) σ).bind (fun p2 =>
        if am_ix x3 3 = true then
          let s3 := am_sI p2.2 77 x3.toNatClampNeg p2.1
          let v4 := x3 + 1
          some (.inl (v4, s3))
        else none)
    else none
noncomputable def f_M_carryAll_91_224 (x3 : Int32) (σ : am_St) : Option (am_St) := am_lp (fun s : Int32 × am_St => b_M_carryAll_91_224 s.1 s.2) (x3, σ)
set_option maxRecDepth 100000 in
set_option maxHeartbeats 4000000 in
theorem sb_M_carryAll_91_224 (G : am_G) (x3 : Int32) (σ : am_St) (r : (Int32 × am_St) ⊕ (am_St)) (Q : am_AQ) (e : b_M_carryAll_91_224 x3 σ = some r) (hr : Pl_M_carryAll_91_224 G r Q) : am_AW G M_M_carryAll 224 [(3, .int x3), (0, .ref 66)] [] σ Q :=
  (show am_Snd G M_M_carryAll 224 (Pl_M_carryAll_91_224 G) _ from (sn_iload_n (pc := 224) (i := 3) dX12_carryAll_224 rfl (sn_iconst (pc := 225) (v := 3) dX12_carryAll_225 rfl (sn_icmp_ge (pc := 226) (tgt := 251) dX12_carryAll_226 rfl (sn_aload_n (pc := 251) (i := 0) dX12_carryAll_251 rfl (sn_callV (pc := 252) (N := M_M_carrySays) dX12_carryAll_252 (cal_M_carrySays G) sh_66 rfl tw_1134 tw_1136 tp_31 tw_12 tw_1137 dsc_X12_carrySays rfl (sn_retv (pc := 255) (R := fun τ => (some (.inr (τ)) : Option ((Int32 × am_St) ⊕ (am_St)))) dX12_carryAll_255 rfl (fun _ _ _ e h => by cases e; exact h)))) (sn_aload_n (pc := 229) (i := 0) dX12_carryAll_229 rfl (sn_gR (r0 := 77) (pc := 230) (h := 66) (f := 17) dX12_carryAll_230 am_CL_11 sh_66 rfl (Nat.le_of_ble_eq_true rfl) tw_958 (sn_iload_n (pc := 233) (i := 3) dX12_carryAll_233 rfl (sn_aload_n (pc := 234) (i := 0) dX12_carryAll_234 rfl (sn_aload_n (pc := 235) (i := 0) dX12_carryAll_235 rfl (sn_gR (r0 := 77) (pc := 236) (h := 66) (f := 17) dX12_carryAll_236 am_CL_11 sh_66 rfl (Nat.le_of_ble_eq_true rfl) tw_958 (sn_iload_n (pc := 239) (i := 3) dX12_carryAll_239 rfl (sn_aI (pc := 240) (h := 77) dX12_carryAll_240 sh_77 (sn_callV (pc := 241) (N := M_M_carry) dX12_carryAll_241 (cal_M_carry G) sh_66 rfl tw_1130 tw_1132 tp_30 tw_12 tw_1133 dsc_X12_carry rfl (sn_sI (pc := 244) (h := 77) dX12_carryAll_244 sh_77 (sn_iinc (pc := 245) (v := 1) dX12_carryAll_245 rfl (Nat.le_of_ble_eq_true rfl) (sn_goto (pc := 248) (tgt := 224) dX12_carryAll_248 rfl (sn_lf (pc := 224) (ln_a (i := 0) (q := 66) (ln_i (i := 3) (fun z0 => (ln_end (o := fun τ => (some (.inl (z0, τ)) : Option ((Int32 × am_St) ⊕ (am_St)))) (fun _ _ _ e h => by cases e; exact h)))))))))))))))))))))) _ _ _ _ _ e hr
theorem s_M_carryAll_91_224 (G : am_G) (x3 : Int32) (σ : am_St) (r : am_St) (Q : am_AQ) (e : f_M_carryAll_91_224 x3 σ = some r) (hr : am_Pv r Q) : am_AW G M_M_carryAll 224 [(3, .int x3), (0, .ref 66)] [] σ Q :=
  am_loop (P := am_Pv) (L := fun s : Int32 × am_St => [(3, .int s.1), (0, .ref 66)]) (g := fun s => s.2) (fun s o Q e hr => sb_M_carryAll_91_224 G s.1 s.2 o Q e hr) (x3, σ) r Q e hr
noncomputable def b_M_carryAll_91_194 (x3 : Int32) (σ : am_St) : Option ((Int32 × am_St) ⊕ (am_St)) :=
  if 24 ≤ x3 then
    (f_M_carryAll_91_224 0 σ).map (fun r => .inr r)
  else
    if am_ix x3 24 = true then
      (f_M_carry (σ.1 72 x3.toNatClampNeg) σ).bind (fun p1 =>
        if am_ix x3 24 = true then
          let s2 := am_sI p1.2 72 x3.toNatClampNeg p1.1
          let v3 := x3 + 1
          some (.inl (v3, s2))
        else none)
    else none
noncomputable def f_M_carryAll_91_194 (x3 : Int32) (σ : am_St) : Option (am_St) := am_lp (fun s : Int32 × am_St => b_M_carryAll_91_194 s.1 s.2) (x3, σ)
set_option maxRecDepth 100000 in
set_option maxHeartbeats 4000000 in
theorem sb_M_carryAll_91_194 (G : am_G) (x3 : Int32) (σ : am_St) (r : (Int32 × am_St) ⊕ (am_St)) (Q : am_AQ) (e : b_M_carryAll_91_194 x3 σ = some r) (hr : Pl_M_carryAll_91_194 G r Q) : am_AW G M_M_carryAll 194 [(3, .int x3), (0, .ref 66)] [] σ Q :=
  (show am_Snd G M_M_carryAll 194 (Pl_M_carryAll_91_194 G) _ from (sn_iload_n (pc := 194) (i := 3) dX12_carryAll_194 rfl (sn_bipush (pc := 195) (v := 24) dX12_carryAll_195 rfl (sn_icmp_ge (pc := 197) (tgt := 222) dX12_carryAll_197 rfl (sn_iconst (pc := 222) (v := 0) dX12_carryAll_222 rfl (sn_istore_n (pc := 223) (i := 3) dX12_carryAll_223 rfl (Nat.le_of_ble_eq_true rfl) (sn_lf (pc := 224) (ln_a (i := 0) (q := 66) (ln_i (i := 3) (fun z0 => (ln_end (o := fun τ => ((f_M_carryAll_91_224 z0 τ).map (fun r => .inr r) : Option ((Int32 × am_St) ⊕ (am_St)))) (fun _ _ _ e h => by obtain ⟨r9, e9, rfl⟩ := am_map_some e; exact s_M_carryAll_91_224 G z0 _ _ _ e9 h)))))))) (sn_aload_n (pc := 200) (i := 0) dX12_carryAll_200 rfl (sn_gR (r0 := 72) (pc := 201) (h := 66) (f := 12) dX12_carryAll_201 am_CL_11 sh_66 rfl (Nat.le_of_ble_eq_true rfl) tw_953 (sn_iload_n (pc := 204) (i := 3) dX12_carryAll_204 rfl (sn_aload_n (pc := 205) (i := 0) dX12_carryAll_205 rfl (sn_aload_n (pc := 206) (i := 0) dX12_carryAll_206 rfl (sn_gR (r0 := 72) (pc := 207) (h := 66) (f := 12) dX12_carryAll_207 am_CL_11 sh_66 rfl (Nat.le_of_ble_eq_true rfl) tw_953 (sn_iload_n (pc := 210) (i := 3) dX12_carryAll_210 rfl (sn_aI (pc := 211) (h := 72) dX12_carryAll_211 sh_72 (sn_callV (pc := 212) (N := M_M_carry) dX12_carryAll_212 (cal_M_carry G) sh_66 rfl tw_1130 tw_1132 tp_30 tw_12 tw_1133 dsc_X12_carry rfl (sn_sI (pc := 215) (h := 72) dX12_carryAll_215 sh_72 (sn_iinc (pc := 216) (v := 1) dX12_carryAll_216 rfl (Nat.le_of_ble_eq_true rfl) (sn_goto (pc := 219) (tgt := 194) dX12_carryAll_219 rfl (sn_lf (pc := 194) (ln_a (i := 0) (q := 66) (ln_i (i := 3) (fun z0 => (ln_end (o := fun τ => (some (.inl (z0, τ)) : Option ((Int32 × am_St) ⊕ (am_St)))) (fun _ _ _ e h => by cases e; exact h)))))))))))))))))))))) _ _ _ _ _ e hr
theorem s_M_carryAll_91_194 (G : am_G) (x3 : Int32) (σ : am_St) (r : am_St) (Q : am_AQ) (e : f_M_carryAll_91_194 x3 σ = some r) (hr : am_Pv r Q) : am_AW G M_M_carryAll 194 [(3, .int x3), (0, .ref 66)] [] σ Q :=
  am_loop (P := am_Pv) (L := fun s : Int32 × am_St => [(3, .int s.1), (0, .ref 66)]) (g := fun s => s.2) (fun s o Q e hr => sb_M_carryAll_91_194 G s.1 s.2 o Q e hr) (x3, σ) r Q e hr
noncomputable def b_M_carryAll_91_101 (x3 : Int32) (σ : am_St) : Option ((Int32 × am_St) ⊕ (am_St)) :=
  if 4 ≤ x3 then
    (f_M_carryAll_91_194 0 σ).map (fun r => .inr r)
  else
    if am_ix x3 4 = true then
      (f_M_carry (σ.1 67 x3.toNatClampNeg) σ).bind (fun p1 =>
        if am_ix x3 4 = true then
          let s2 := am_sI p1.2 67 x3.toNatClampNeg p1.1
          if am_ix x3 4 = true then
            (f_M_carry (s2.1 68 x3.toNatClampNeg) s2).bind (fun p3 =>
              if am_ix x3 4 = true then
                let s4 := am_sI p3.2 68 x3.toNatClampNeg p3.1
                f_M_carryAll_91_138 x3 s4
              else none)
          else none
        else none)
    else none
noncomputable def f_M_carryAll_91_101 (x3 : Int32) (σ : am_St) : Option (am_St) := am_lp (fun s : Int32 × am_St => b_M_carryAll_91_101 s.1 s.2) (x3, σ)
set_option maxRecDepth 100000 in
set_option maxHeartbeats 4000000 in
theorem sb_M_carryAll_91_101 (G : am_G) (x3 : Int32) (σ : am_St) (r : (Int32 × am_St) ⊕ (am_St)) (Q : am_AQ) (e : b_M_carryAll_91_101 x3 σ = some r) (hr : Pl_M_carryAll_91_101 G r Q) : am_AW G M_M_carryAll 101 [(3, .int x3), (0, .ref 66)] [] σ Q :=
  (show am_Snd G M_M_carryAll 101 (Pl_M_carryAll_91_101 G) _ from (sn_iload_n (pc := 101) (i := 3) dX12_carryAll_101 rfl (sn_iconst (pc := 102) (v := 4) dX12_carryAll_102 rfl (sn_icmp_ge (pc := 103) (tgt := 192) dX12_carryAll_103 rfl (sn_iconst (pc := 192) (v := 0) dX12_carryAll_192 rfl (sn_istore_n (pc := 193) (i := 3) dX12_carryAll_193 rfl (Nat.le_of_ble_eq_true rfl) (sn_lf (pc := 194) (ln_a (i := 0) (q := 66) (ln_i (i := 3) (fun z0 => (ln_end (o := fun τ => ((f_M_carryAll_91_194 z0 τ).map (fun r => .inr r) : Option ((Int32 × am_St) ⊕ (am_St)))) (fun _ _ _ e h => by obtain ⟨r9, e9, rfl⟩ := am_map_some e; exact s_M_carryAll_91_194 G z0 _ _ _ e9 h)))))))) (sn_aload_n (pc := 106) (i := 0) dX12_carryAll_106 rfl (sn_gR (r0 := 67) (pc := 107) (h := 66) (f := 7) dX12_carryAll_107 am_CL_11 sh_66 rfl (Nat.le_of_ble_eq_true rfl) tw_948 (sn_iload_n (pc := 110) (i := 3) dX12_carryAll_110 rfl (sn_aload_n (pc := 111) (i := 0) dX12_carryAll_111 rfl (sn_aload_n (pc := 112) (i := 0) dX12_carryAll_112 rfl (sn_gR (r0 := 67) (pc := 113) (h := 66) (f := 7) dX12_carryAll_113 am_CL_11 sh_66 rfl (Nat.le_of_ble_eq_true rfl) tw_948 (sn_iload_n (pc := 116) (i := 3) dX12_carryAll_116 rfl (sn_aI (pc := 117) (h := 67) dX12_carryAll_117 sh_67 (sn_callV (pc := 118) (N := M_M_carry) dX12_carryAll_118 (cal_M_carry G) sh_66 rfl tw_1130 tw_1132 tp_30 tw_12 tw_1133 dsc_X12_carry rfl (sn_sI (pc := 121) (h := 67) dX12_carryAll_121 sh_67 (sn_aload_n (pc := 122) (i := 0) dX12_carryAll_122 rfl (sn_gR (r0 := 68) (pc := 123) (h := 66) (f := 8) dX12_carryAll_123 am_CL_11 sh_66 rfl (Nat.le_of_ble_eq_true rfl) tw_949 (sn_iload_n (pc := 126) (i := 3) dX12_carryAll_126 rfl (sn_aload_n (pc := 127) (i := 0) dX12_carryAll_127 rfl (sn_aload_n (pc := 128) (i := 0) dX12_carryAll_128 rfl (sn_gR (r0 := 68) (pc := 129) (h := 66) (f := 8) dX12_carryAll_129 am_CL_11 sh_66 rfl (Nat.le_of_ble_eq_true rfl) tw_949 (sn_iload_n (pc := 132) (i := 3) dX12_carryAll_132 rfl (sn_aI (pc := 133) (h := 68) dX12_carryAll_133 sh_68 (sn_callV (pc := 134) (N := M_M_carry) dX12_carryAll_134 (cal_M_carry G) sh_66 rfl tw_1130 tw_1132 tp_30 tw_12 tw_1133 dsc_X12_carry rfl (sn_sI (pc := 137) (h := 68) dX12_carryAll_137 sh_68 (sn_lf (pc := 138) (ln_a (i := 0) (q := 66) (ln_i (i := 3) (fun z0 => (ln_end (o := fun τ => f_M_carryAll_91_138 z0 τ) (fun _ _ _ e h => s_M_carryAll_91_138 G z0 _ _ _ e h)))))))))))))))))))))))))))))) _ _ _ _ _ e hr
theorem s_M_carryAll_91_101 (G : am_G) (x3 : Int32) (σ : am_St) (r : am_St) (Q : am_AQ) (e : f_M_carryAll_91_101 x3 σ = some r) (hr : am_Pv r Q) : am_AW G M_M_carryAll 101 [(3, .int x3), (0, .ref 66)] [] σ Q :=
  am_loop (P := am_Pv) (L := fun s : Int32 × am_St => [(3, .int s.1), (0, .ref 66)]) (g := fun s => s.2) (fun s o Q e hr => sb_M_carryAll_91_101 G s.1 s.2 o Q e hr) (x3, σ) r Q e hr
noncomputable def g_M_carryAll_91_99 (σ : am_St) : Option (am_St) :=
  f_M_carryAll_91_101 0 σ
noncomputable def f_M_carryAll_91_99 (σ : am_St) : Option (am_St) := am_lk (g_M_carryAll_91_99  σ)
theorem eq_M_carryAll_91_99 (σ : am_St) : f_M_carryAll_91_99  σ = g_M_carryAll_91_99  σ := am_lk_eq _
set_option maxRecDepth 100000 in
set_option maxHeartbeats 4000000 in
theorem s_M_carryAll_91_99 (G : am_G) (σ : am_St) (r : am_St) (Q : am_AQ) (e : f_M_carryAll_91_99  σ = some r) (hr : am_Pv r Q) : am_AW G M_M_carryAll 99 [(0, .ref 66)] [] σ Q :=
  (show am_Snd G M_M_carryAll 99 am_Pv _ from (sn_iconst (pc := 99) (v := 0) dX12_carryAll_99 rfl (sn_istore_n (pc := 100) (i := 3) dX12_carryAll_100 rfl (Nat.le_of_ble_eq_true rfl) (sn_lf (pc := 101) (ln_a (i := 0) (q := 66) (ln_i (i := 3) (fun z0 => (ln_end (o := fun τ => f_M_carryAll_91_101 z0 τ) (fun _ _ _ e h => s_M_carryAll_91_101 G z0 _ _ _ e h))))))))) _ _ _ _ _ ((eq_M_carryAll_91_99  σ).symm.trans e) hr
noncomputable def g_M_carryAll_91_75 (σ : am_St) : Option (am_St) :=
  (f_M_carry (σ.1 66 5) σ).bind (fun p1 =>
    let s2 := am_sI p1.2 66 5 p1.1
    (f_M_carry (s2.1 66 6) s2).bind (fun p3 =>
      let s4 := am_sI p3.2 66 6 p3.1
      f_M_carryAll_91_99 s4))
noncomputable def f_M_carryAll_91_75 (σ : am_St) : Option (am_St) := am_lk (g_M_carryAll_91_75  σ)
theorem eq_M_carryAll_91_75 (σ : am_St) : f_M_carryAll_91_75  σ = g_M_carryAll_91_75  σ := am_lk_eq _
set_option maxRecDepth 100000 in
set_option maxHeartbeats 4000000 in
theorem s_M_carryAll_91_75 (G : am_G) (σ : am_St) (r : am_St) (Q : am_AQ) (e : f_M_carryAll_91_75  σ = some r) (hr : am_Pv r Q) : am_AW G M_M_carryAll 75 [(0, .ref 66)] [] σ Q :=
  (show am_Snd G M_M_carryAll 75 am_Pv _ from (sn_aload_n (pc := 75) (i := 0) dX12_carryAll_75 rfl (sn_aload_n (pc := 76) (i := 0) dX12_carryAll_76 rfl (sn_aload_n (pc := 77) (i := 0) dX12_carryAll_77 rfl (sn_gI (pc := 78) (h := 66) (f := 5) dX12_carryAll_78 am_CL_11 sh_66 rfl (Nat.le_of_ble_eq_true rfl) tw_946 (sn_callV (pc := 81) (N := M_M_carry) dX12_carryAll_81 (cal_M_carry G) sh_66 rfl tw_1130 tw_1132 tp_30 tw_12 tw_1133 dsc_X12_carry rfl (sn_pI (pc := 84) (h := 66) (f := 5) dX12_carryAll_84 am_CL_11 sh_66 rfl (Nat.le_of_ble_eq_true rfl) tw_946 rfl rfl (sn_aload_n (pc := 87) (i := 0) dX12_carryAll_87 rfl (sn_aload_n (pc := 88) (i := 0) dX12_carryAll_88 rfl (sn_aload_n (pc := 89) (i := 0) dX12_carryAll_89 rfl (sn_gI (pc := 90) (h := 66) (f := 6) dX12_carryAll_90 am_CL_11 sh_66 rfl (Nat.le_of_ble_eq_true rfl) tw_947 (sn_callV (pc := 93) (N := M_M_carry) dX12_carryAll_93 (cal_M_carry G) sh_66 rfl tw_1130 tw_1132 tp_30 tw_12 tw_1133 dsc_X12_carry rfl (sn_pI (pc := 96) (h := 66) (f := 6) dX12_carryAll_96 am_CL_11 sh_66 rfl (Nat.le_of_ble_eq_true rfl) tw_947 rfl rfl (sn_lf (pc := 99) (ln_a (i := 0) (q := 66) (ln_end (o := fun τ => f_M_carryAll_91_99 τ) (fun _ _ _ e h => s_M_carryAll_91_99 G  _ _ _ e h))))))))))))))))) _ _ _ _ _ ((eq_M_carryAll_91_75  σ).symm.trans e) hr
noncomputable def g_M_carryAll_91_51 (σ : am_St) : Option (am_St) :=
  (f_M_carry (σ.1 66 3) σ).bind (fun p1 =>
    let s2 := am_sI p1.2 66 3 p1.1
    (f_M_carry (s2.1 66 4) s2).bind (fun p3 =>
      let s4 := am_sI p3.2 66 4 p3.1
      f_M_carryAll_91_75 s4))
noncomputable def f_M_carryAll_91_51 (σ : am_St) : Option (am_St) := am_lk (g_M_carryAll_91_51  σ)
theorem eq_M_carryAll_91_51 (σ : am_St) : f_M_carryAll_91_51  σ = g_M_carryAll_91_51  σ := am_lk_eq _
set_option maxRecDepth 100000 in
set_option maxHeartbeats 4000000 in
theorem s_M_carryAll_91_51 (G : am_G) (σ : am_St) (r : am_St) (Q : am_AQ) (e : f_M_carryAll_91_51  σ = some r) (hr : am_Pv r Q) : am_AW G M_M_carryAll 51 [(0, .ref 66)] [] σ Q :=
  (show am_Snd G M_M_carryAll 51 am_Pv _ from (sn_aload_n (pc := 51) (i := 0) dX12_carryAll_51 rfl (sn_aload_n (pc := 52) (i := 0) dX12_carryAll_52 rfl (sn_aload_n (pc := 53) (i := 0) dX12_carryAll_53 rfl (sn_gI (pc := 54) (h := 66) (f := 3) dX12_carryAll_54 am_CL_11 sh_66 rfl (Nat.le_of_ble_eq_true rfl) tw_944 (sn_callV (pc := 57) (N := M_M_carry) dX12_carryAll_57 (cal_M_carry G) sh_66 rfl tw_1130 tw_1132 tp_30 tw_12 tw_1133 dsc_X12_carry rfl (sn_pI (pc := 60) (h := 66) (f := 3) dX12_carryAll_60 am_CL_11 sh_66 rfl (Nat.le_of_ble_eq_true rfl) tw_944 rfl rfl (sn_aload_n (pc := 63) (i := 0) dX12_carryAll_63 rfl (sn_aload_n (pc := 64) (i := 0) dX12_carryAll_64 rfl (sn_aload_n (pc := 65) (i := 0) dX12_carryAll_65 rfl (sn_gI (pc := 66) (h := 66) (f := 4) dX12_carryAll_66 am_CL_11 sh_66 rfl (Nat.le_of_ble_eq_true rfl) tw_945 (sn_callV (pc := 69) (N := M_M_carry) dX12_carryAll_69 (cal_M_carry G) sh_66 rfl tw_1130 tw_1132 tp_30 tw_12 tw_1133 dsc_X12_carry rfl (sn_pI (pc := 72) (h := 66) (f := 4) dX12_carryAll_72 am_CL_11 sh_66 rfl (Nat.le_of_ble_eq_true rfl) tw_945 rfl rfl (sn_lf (pc := 75) (ln_a (i := 0) (q := 66) (ln_end (o := fun τ => f_M_carryAll_91_75 τ) (fun _ _ _ e h => s_M_carryAll_91_75 G  _ _ _ e h))))))))))))))))) _ _ _ _ _ ((eq_M_carryAll_91_51  σ).symm.trans e) hr
noncomputable def g_M_carryAll_91_27 (σ : am_St) : Option (am_St) :=
  (f_M_carry (σ.1 66 1) σ).bind (fun p1 =>
    let s2 := am_sI p1.2 66 1 p1.1
    (f_M_carry (s2.1 66 2) s2).bind (fun p3 =>
      let s4 := am_sI p3.2 66 2 p3.1
      f_M_carryAll_91_51 s4))
noncomputable def f_M_carryAll_91_27 (σ : am_St) : Option (am_St) := am_lk (g_M_carryAll_91_27  σ)
theorem eq_M_carryAll_91_27 (σ : am_St) : f_M_carryAll_91_27  σ = g_M_carryAll_91_27  σ := am_lk_eq _
set_option maxRecDepth 100000 in
set_option maxHeartbeats 4000000 in
theorem s_M_carryAll_91_27 (G : am_G) (σ : am_St) (r : am_St) (Q : am_AQ) (e : f_M_carryAll_91_27  σ = some r) (hr : am_Pv r Q) : am_AW G M_M_carryAll 27 [(0, .ref 66)] [] σ Q :=
  (show am_Snd G M_M_carryAll 27 am_Pv _ from (sn_aload_n (pc := 27) (i := 0) dX12_carryAll_27 rfl (sn_aload_n (pc := 28) (i := 0) dX12_carryAll_28 rfl (sn_aload_n (pc := 29) (i := 0) dX12_carryAll_29 rfl (sn_gI (pc := 30) (h := 66) (f := 1) dX12_carryAll_30 am_CL_11 sh_66 rfl (Nat.le_of_ble_eq_true rfl) tw_942 (sn_callV (pc := 33) (N := M_M_carry) dX12_carryAll_33 (cal_M_carry G) sh_66 rfl tw_1130 tw_1132 tp_30 tw_12 tw_1133 dsc_X12_carry rfl (sn_pI (pc := 36) (h := 66) (f := 1) dX12_carryAll_36 am_CL_11 sh_66 rfl (Nat.le_of_ble_eq_true rfl) tw_942 rfl rfl (sn_aload_n (pc := 39) (i := 0) dX12_carryAll_39 rfl (sn_aload_n (pc := 40) (i := 0) dX12_carryAll_40 rfl (sn_aload_n (pc := 41) (i := 0) dX12_carryAll_41 rfl (sn_gI (pc := 42) (h := 66) (f := 2) dX12_carryAll_42 am_CL_11 sh_66 rfl (Nat.le_of_ble_eq_true rfl) tw_943 (sn_callV (pc := 45) (N := M_M_carry) dX12_carryAll_45 (cal_M_carry G) sh_66 rfl tw_1130 tw_1132 tp_30 tw_12 tw_1133 dsc_X12_carry rfl (sn_pI (pc := 48) (h := 66) (f := 2) dX12_carryAll_48 am_CL_11 sh_66 rfl (Nat.le_of_ble_eq_true rfl) tw_943 rfl rfl (sn_lf (pc := 51) (ln_a (i := 0) (q := 66) (ln_end (o := fun τ => f_M_carryAll_91_51 τ) (fun _ _ _ e h => s_M_carryAll_91_51 G  _ _ _ e h))))))))))))))))) _ _ _ _ _ ((eq_M_carryAll_91_27  σ).symm.trans e) hr
noncomputable def g_M_carryAll_91 (x2 : Int32) (σ : am_St) : Option (am_St) :=
  let s1 := am_sK σ (some 91)
  if x2 &&& 1 = x2 then
    let s2 := am_sI s1 66 40 x2
    let s3 := am_sI s2 66 39 0
    (f_M_carry (s3.1 66 0) s3).bind (fun p4 =>
      let s5 := am_sI p4.2 66 0 p4.1
      f_M_carryAll_91_27 s5)
  else none
noncomputable def f_M_carryAll_91 (x2 : Int32) (σ : am_St) : Option (am_St) := am_lk (g_M_carryAll_91 x2 σ)
theorem eq_M_carryAll_91 (x2 : Int32) (σ : am_St) : f_M_carryAll_91 x2 σ = g_M_carryAll_91 x2 σ := am_lk_eq _
set_option maxRecDepth 100000 in
set_option maxHeartbeats 4000000 in
theorem s_M_carryAll_91 (G : am_G) (x2 : Int32) (σ : am_St) (r : am_St) (Q : am_AQ) (e : f_M_carryAll_91 x2 σ = some r) (hr : am_Pv r Q) : am_AW G M_M_carryAll 0 [(0, .ref 66), (1, .ref 91), (2, .int x2)] [] σ Q :=
  (show am_Snd G M_M_carryAll 0 am_Pv _ from (sn_aload_n (pc := 0) (i := 0) dX12_carryAll_0 rfl (sn_aload_n (pc := 1) (i := 1) dX12_carryAll_1 rfl (sn_pK (pc := 2) (h := 66) (f := 41) dX12_carryAll_2 am_CL_11 sh_66 rfl (Nat.le_of_ble_eq_true rfl) tw_982 rfl rfl rfl sh_66_one (sn_aload_n (pc := 5) (i := 0) dX12_carryAll_5 rfl (sn_iload_n (pc := 6) (i := 2) dX12_carryAll_6 rfl (sn_pZ (pc := 7) (h := 66) (f := 40) dX12_carryAll_7 am_CL_11 sh_66 rfl (Nat.le_of_ble_eq_true rfl) tw_981 rfl rfl (sn_aload_n (pc := 10) (i := 0) dX12_carryAll_10 rfl (sn_iconst (pc := 11) (v := 0) dX12_carryAll_11 rfl (sn_pI (pc := 12) (h := 66) (f := 39) dX12_carryAll_12 am_CL_11 sh_66 rfl (Nat.le_of_ble_eq_true rfl) tw_980 rfl rfl (sn_aload_n (pc := 15) (i := 0) dX12_carryAll_15 rfl (sn_aload_n (pc := 16) (i := 0) dX12_carryAll_16 rfl (sn_aload_n (pc := 17) (i := 0) dX12_carryAll_17 rfl (sn_gI (pc := 18) (h := 66) (f := 0) dX12_carryAll_18 am_CL_11 sh_66 rfl (Nat.le_of_ble_eq_true rfl) tw_941 (sn_callV (pc := 21) (N := M_M_carry) dX12_carryAll_21 (cal_M_carry G) sh_66 rfl tw_1130 tw_1132 tp_30 tw_12 tw_1133 dsc_X12_carry rfl (sn_pI (pc := 24) (h := 66) (f := 0) dX12_carryAll_24 am_CL_11 sh_66 rfl (Nat.le_of_ble_eq_true rfl) tw_941 rfl rfl (sn_lf (pc := 27) (ln_a (i := 0) (q := 66) (ln_end (o := fun τ => f_M_carryAll_91_27 τ) (fun _ _ _ e h => s_M_carryAll_91_27 G  _ _ _ e h)))))))))))))))))))) _ _ _ _ _ ((eq_M_carryAll_91 x2 σ).symm.trans e) hr
noncomputable def cF_M_carryAll_91 : am_Fn := fun _ args σ K => match args with
  | [.ref q0, .ref q1, .int z2] => match Nat.beq q0 66, Nat.beq q1 91 with
    | true, true => (f_M_carryAll_91 z2 σ).bind (fun p => K none p)
    | _, _ => none
  | _ => none
theorem cal_M_carryAll_91 (G : am_G) : am_Cal G M_M_carryAll cF_M_carryAll_91 := by
  intro ρ args σ K r e
  unfold cF_M_carryAll_91 at e
  split at e
  · split at e
    · rename_i hq0 hq1
      obtain ⟨p, h1, h2⟩ := am_bind_some e
      rw [Nat.eq_of_beq_eq_true hq0]
      rw [Nat.eq_of_beq_eq_true hq1]
      exact ⟨none, p, am_Met.of rfl (Nat.le_of_ble_eq_true rfl) (s_M_carryAll_91 G _ σ p _ h1 ⟨rfl, rfl⟩), h2⟩
    · cases e
  · cases e
abbrev M_M_image : am_MD := (yX12_image, cX12_image, 1, (some .int), 3, 65)
theorem dX12_image_0 : decode cX12_image 0 = .ok (.aload_n 0, 1) := by decide +kernel
theorem dX12_image_1 : decode cX12_image 1 = .ok (.iconst 0, 1) := by decide +kernel
theorem dX12_image_2 : decode cX12_image 2 = .ok (.putfield 102, 3) := by decide +kernel
theorem dX12_image_5 : decode cX12_image 5 = .ok (.aload_n 0, 1) := by decide +kernel
theorem dX12_image_6 : decode cX12_image 6 = .ok (.iconst 1, 1) := by decide +kernel
theorem dX12_image_7 : decode cX12_image 7 = .ok (.putfield 257, 3) := by decide +kernel
theorem dX12_image_10 : decode cX12_image 10 = .ok (.aload_n 0, 1) := by decide +kernel
theorem dX12_image_11 : decode cX12_image 11 = .ok (.aload_n 0, 1) := by decide +kernel
theorem dX12_image_12 : decode cX12_image 12 = .ok (.getfield 89, 3) := by decide +kernel
theorem dX12_image_15 : decode cX12_image 15 = .ok (.iconst 1, 1) := by decide +kernel
theorem dX12_image_16 : decode cX12_image 16 = .ok (.invokevirtual 232, 3) := by decide +kernel
theorem dX12_image_19 : decode cX12_image 19 = .ok (.aload_n 0, 1) := by decide +kernel
theorem dX12_image_20 : decode cX12_image 20 = .ok (.getfield 112, 3) := by decide +kernel
theorem dX12_image_23 : decode cX12_image 23 = .ok (.ireturn, 1) := by decide +kernel
noncomputable def g_M_image (σ : am_St) : Option (Int32 × am_St) :=
  let s1 := am_sI σ 66 22 0
  let s2 := am_sI s1 66 38 1
  (f_M_carryAll_91 1 s2).bind (fun p3 =>
    some ((p3.1 66 3, p3)))
noncomputable def f_M_image (σ : am_St) : Option (Int32 × am_St) := am_lk (g_M_image  σ)
theorem eq_M_image (σ : am_St) : f_M_image  σ = g_M_image  σ := am_lk_eq _
set_option maxRecDepth 100000 in
set_option maxHeartbeats 4000000 in
theorem s_M_image (G : am_G) (σ : am_St) (r : Int32 × am_St) (Q : am_AQ) (e : f_M_image  σ = some r) (hr : am_Pi r Q) : am_AW G M_M_image 0 [(0, .ref 66)] [] σ Q :=
  (show am_Snd G M_M_image 0 am_Pi _ from (sn_aload_n (pc := 0) (i := 0) dX12_image_0 rfl (sn_iconst (pc := 1) (v := 0) dX12_image_1 rfl (sn_pI (pc := 2) (h := 66) (f := 22) dX12_image_2 am_CL_11 sh_66 rfl (Nat.le_of_ble_eq_true rfl) tw_963 rfl rfl (sn_aload_n (pc := 5) (i := 0) dX12_image_5 rfl (sn_iconst (pc := 6) (v := 1) dX12_image_6 rfl (sn_pZ (pc := 7) (h := 66) (f := 38) dX12_image_7 am_CL_11 sh_66 rfl (Nat.le_of_ble_eq_true rfl) tw_979 rfl rfl (sn_aload_n (pc := 10) (i := 0) dX12_image_10 rfl (sn_aload_n (pc := 11) (i := 0) dX12_image_11 rfl (sn_gR (r0 := 91) (pc := 12) (h := 66) (f := 37) dX12_image_12 am_CL_11 sh_66 rfl (Nat.le_of_ble_eq_true rfl) tw_978 (sn_iconst (pc := 15) (v := 1) dX12_image_15 rfl (sn_callV (pc := 16) (N := M_M_carryAll) dX12_image_16 (cal_M_carryAll_91 G) sh_66 rfl tw_1126 tw_1128 tp_29 tw_12 tw_1129 dsc_X12_carryAll rfl (sn_aload_n (pc := 19) (i := 0) dX12_image_19 rfl (sn_gI (pc := 20) (h := 66) (f := 3) dX12_image_20 am_CL_11 sh_66 rfl (Nat.le_of_ble_eq_true rfl) tw_944 (sn_reti (pc := 23) (R := fun x τ => (some ((x, τ)))) dX12_image_23 rfl (fun _ _ _ _ e h => by cases e; exact h)))))))))))))))) _ _ _ _ _ ((eq_M_image  σ).symm.trans e) hr
noncomputable def cF_M_image : am_Fn := fun _ args σ K => match args with
  | [.ref q0] => match Nat.beq q0 66 with
    | true => (f_M_image σ).bind (fun p => K (some (.int p.1)) p.2)
    | _ => none
  | _ => none
theorem cal_M_image (G : am_G) : am_Cal G M_M_image cF_M_image := by
  intro ρ args σ K r e
  unfold cF_M_image at e
  split at e
  · split at e
    · rename_i hq0
      obtain ⟨p, h1, h2⟩ := am_bind_some e
      rw [Nat.eq_of_beq_eq_true hq0]
      exact ⟨some (.int p.1), p.2, am_Met.of rfl (Nat.le_of_ble_eq_true rfl) (s_M_image G  σ p _ h1 ⟨rfl, rfl⟩), h2⟩
    · cases e
  · cases e
abbrev M_M_restore : am_MD := (yX12_restore, cX12_restore, 1, (some .int), 3, 65)
theorem dX12_restore_0 : decode cX12_restore 0 = .ok (.aload_n 0, 1) := by decide +kernel
theorem dX12_restore_1 : decode cX12_restore 1 = .ok (.iconst 0, 1) := by decide +kernel
theorem dX12_restore_2 : decode cX12_restore 2 = .ok (.putfield 102, 3) := by decide +kernel
theorem dX12_restore_5 : decode cX12_restore 5 = .ok (.aload_n 0, 1) := by decide +kernel
theorem dX12_restore_6 : decode cX12_restore 6 = .ok (.getfield 257, 3) := by decide +kernel
theorem dX12_restore_9 : decode cX12_restore 9 = .ok (.ifCond .ne 10, 3) := by decide +kernel
theorem dX12_restore_12 : decode cX12_restore 12 = .ok (.aload_n 0, 1) := by decide +kernel
theorem dX12_restore_13 : decode cX12_restore 13 = .ok (.bipush (-3), 2) := by decide +kernel
theorem dX12_restore_15 : decode cX12_restore 15 = .ok (.invokevirtual 154, 3) := by decide +kernel
theorem dX12_restore_18 : decode cX12_restore 18 = .ok (.ireturn, 1) := by decide +kernel
theorem dX12_restore_19 : decode cX12_restore 19 = .ok (.aload_n 0, 1) := by decide +kernel
theorem dX12_restore_20 : decode cX12_restore 20 = .ok (.aload_n 0, 1) := by decide +kernel
theorem dX12_restore_21 : decode cX12_restore 21 = .ok (.getfield 89, 3) := by decide +kernel
theorem dX12_restore_24 : decode cX12_restore 24 = .ok (.iconst 0, 1) := by decide +kernel
theorem dX12_restore_25 : decode cX12_restore 25 = .ok (.invokevirtual 232, 3) := by decide +kernel
theorem dX12_restore_28 : decode cX12_restore 28 = .ok (.aload_n 0, 1) := by decide +kernel
theorem dX12_restore_29 : decode cX12_restore 29 = .ok (.getfield 112, 3) := by decide +kernel
theorem dX12_restore_32 : decode cX12_restore 32 = .ok (.ireturn, 1) := by decide +kernel
noncomputable def g_M_restore (σ : am_St) : Option (Int32 × am_St) :=
  let s1 := am_sI σ 66 22 0
  if (s1.1 66 38) = 0 then
    (f_M_refuse (-3) s1).bind (fun p3 =>
      some ((p3.1, p3.2)))
  else
    (f_M_carryAll_91 0 s1).bind (fun p2 =>
      some ((p2.1 66 3, p2)))
noncomputable def f_M_restore (σ : am_St) : Option (Int32 × am_St) := am_lk (g_M_restore  σ)
theorem eq_M_restore (σ : am_St) : f_M_restore  σ = g_M_restore  σ := am_lk_eq _
set_option maxRecDepth 100000 in
set_option maxHeartbeats 4000000 in
theorem s_M_restore (G : am_G) (σ : am_St) (r : Int32 × am_St) (Q : am_AQ) (e : f_M_restore  σ = some r) (hr : am_Pi r Q) : am_AW G M_M_restore 0 [(0, .ref 66)] [] σ Q :=
  (show am_Snd G M_M_restore 0 am_Pi _ from (sn_aload_n (pc := 0) (i := 0) dX12_restore_0 rfl (sn_iconst (pc := 1) (v := 0) dX12_restore_1 rfl (sn_pI (pc := 2) (h := 66) (f := 22) dX12_restore_2 am_CL_11 sh_66 rfl (Nat.le_of_ble_eq_true rfl) tw_963 rfl rfl (sn_aload_n (pc := 5) (i := 0) dX12_restore_5 rfl (sn_gI (pc := 6) (h := 66) (f := 38) dX12_restore_6 am_CL_11 sh_66 rfl (Nat.le_of_ble_eq_true rfl) tw_979 (sn_if_ne (pc := 9) (tgt := 19) dX12_restore_9 rfl (sn_aload_n (pc := 19) (i := 0) dX12_restore_19 rfl (sn_aload_n (pc := 20) (i := 0) dX12_restore_20 rfl (sn_gR (r0 := 91) (pc := 21) (h := 66) (f := 37) dX12_restore_21 am_CL_11 sh_66 rfl (Nat.le_of_ble_eq_true rfl) tw_978 (sn_iconst (pc := 24) (v := 0) dX12_restore_24 rfl (sn_callV (pc := 25) (N := M_M_carryAll) dX12_restore_25 (cal_M_carryAll_91 G) sh_66 rfl tw_1126 tw_1128 tp_29 tw_12 tw_1129 dsc_X12_carryAll rfl (sn_aload_n (pc := 28) (i := 0) dX12_restore_28 rfl (sn_gI (pc := 29) (h := 66) (f := 3) dX12_restore_29 am_CL_11 sh_66 rfl (Nat.le_of_ble_eq_true rfl) tw_944 (sn_reti (pc := 32) (R := fun x τ => (some ((x, τ)))) dX12_restore_32 rfl (fun _ _ _ _ e h => by cases e; exact h))))))))) (sn_aload_n (pc := 12) (i := 0) dX12_restore_12 rfl (sn_bipush (pc := 13) (v := (-3)) dX12_restore_13 (show (Int8.ofInt (-3)).toInt32 = (-3) by decide) (sn_callV (pc := 15) (N := M_M_refuse) dX12_restore_15 (cal_M_refuse G) sh_66 rfl tw_1090 tw_1092 tp_23 tw_12 tw_1093 dsc_X12_refuse rfl (sn_reti (pc := 18) (R := fun x τ => (some ((x, τ)))) dX12_restore_18 rfl (fun _ _ _ _ e h => by cases e; exact h)))))))))))) _ _ _ _ _ ((eq_M_restore  σ).symm.trans e) hr
noncomputable def cF_M_restore : am_Fn := fun _ args σ K => match args with
  | [.ref q0] => match Nat.beq q0 66 with
    | true => (f_M_restore σ).bind (fun p => K (some (.int p.1)) p.2)
    | _ => none
  | _ => none
theorem cal_M_restore (G : am_G) : am_Cal G M_M_restore cF_M_restore := by
  intro ρ args σ K r e
  unfold cF_M_restore at e
  split at e
  · split at e
    · rename_i hq0
      obtain ⟨p, h1, h2⟩ := am_bind_some e
      rw [Nat.eq_of_beq_eq_true hq0]
      exact ⟨some (.int p.1), p.2, am_Met.of rfl (Nat.le_of_ble_eq_true rfl) (s_M_restore G  σ p _ h1 ⟨rfl, rfl⟩), h2⟩
    · cases e
  · cases e
abbrev M_M_guiltOf : am_MD := (yX12_guiltOf, cX12_guiltOf, 2, (some .int), 0, 0)
theorem dX12_guiltOf_0 : decode cX12_guiltOf 0 = .ok (.aload_n 0, 1) := by decide +kernel
theorem dX12_guiltOf_1 : decode cX12_guiltOf 1 = .ok (.getfield 20, 3) := by decide +kernel
theorem dX12_guiltOf_4 : decode cX12_guiltOf 4 = .ok (.iload_n 1, 1) := by decide +kernel
theorem dX12_guiltOf_5 : decode cX12_guiltOf 5 = .ok (.iaload, 1) := by decide +kernel
theorem dX12_guiltOf_6 : decode cX12_guiltOf 6 = .ok (.tableswitch 46 0 5 #[38, 40, 46, 46, 43, 40], 38) := by decide +kernel
theorem dX12_guiltOf_44 : decode cX12_guiltOf 44 = .ok (.iconst 5, 1) := by decide +kernel
theorem dX12_guiltOf_45 : decode cX12_guiltOf 45 = .ok (.ireturn, 1) := by decide +kernel
theorem dX12_guiltOf_46 : decode cX12_guiltOf 46 = .ok (.bipush 6, 2) := by decide +kernel
theorem dX12_guiltOf_48 : decode cX12_guiltOf 48 = .ok (.ireturn, 1) := by decide +kernel
theorem dX12_guiltOf_49 : decode cX12_guiltOf 49 = .ok (.bipush 8, 2) := by decide +kernel
theorem dX12_guiltOf_51 : decode cX12_guiltOf 51 = .ok (.ireturn, 1) := by decide +kernel
theorem dX12_guiltOf_52 : decode cX12_guiltOf 52 = .ok (.iconst 3, 1) := by decide +kernel
theorem dX12_guiltOf_53 : decode cX12_guiltOf 53 = .ok (.ireturn, 1) := by decide +kernel
noncomputable def g_M_guiltOf (x1 : Int32) (σ : am_St) : Option (Int32 × am_St) :=
  if am_ix x1 4 = true then
    if (σ.1 68 x1.toNatClampNeg) = 0 then
      some ((5, σ))
    else
    if (σ.1 68 x1.toNatClampNeg) = 1 then
      some ((6, σ))
    else
    if (σ.1 68 x1.toNatClampNeg) = 2 then
      some ((3, σ))
    else
    if (σ.1 68 x1.toNatClampNeg) = 3 then
      some ((3, σ))
    else
    if (σ.1 68 x1.toNatClampNeg) = 4 then
      some ((8, σ))
    else
    if (σ.1 68 x1.toNatClampNeg) = 5 then
      some ((6, σ))
    else
    some ((3, σ))
  else none
noncomputable def f_M_guiltOf (x1 : Int32) (σ : am_St) : Option (Int32 × am_St) := am_lk (g_M_guiltOf x1 σ)
theorem eq_M_guiltOf (x1 : Int32) (σ : am_St) : f_M_guiltOf x1 σ = g_M_guiltOf x1 σ := am_lk_eq _
set_option maxRecDepth 100000 in
set_option maxHeartbeats 4000000 in
theorem s_M_guiltOf (G : am_G) (x1 : Int32) (σ : am_St) (r : Int32 × am_St) (Q : am_AQ) (e : f_M_guiltOf x1 σ = some r) (hr : am_Pi r Q) : am_AW G M_M_guiltOf 0 [(0, .ref 66), (1, .int x1)] [] σ Q :=
  (show am_Snd G M_M_guiltOf 0 am_Pi _ from (sn_aload_n (pc := 0) (i := 0) dX12_guiltOf_0 rfl (sn_gR (r0 := 68) (pc := 1) (h := 66) (f := 8) dX12_guiltOf_1 am_CL_11 sh_66 rfl (Nat.le_of_ble_eq_true rfl) tw_949 (sn_iload_n (pc := 4) (i := 1) dX12_guiltOf_4 rfl (sn_aI (pc := 5) (h := 68) dX12_guiltOf_5 sh_68 (sn_tsw (pc := 6) (dt := 52) (vs := [0, 1, 2, 3, 4, 5]) (ts := [44, 46, 52, 52, 49, 46]) dX12_guiltOf_6 (by decide +kernel) (sn_iconst (pc := 52) (v := 3) dX12_guiltOf_52 rfl (sn_reti (pc := 53) (R := fun x τ => (some ((x, τ)))) dX12_guiltOf_53 rfl (fun _ _ _ _ e h => by cases e; exact h))) (am_all_cons (sn_iconst (pc := 44) (v := 5) dX12_guiltOf_44 rfl (sn_reti (pc := 45) (R := fun x τ => (some ((x, τ)))) dX12_guiltOf_45 rfl (fun _ _ _ _ e h => by cases e; exact h))) (am_all_cons (sn_bipush (pc := 46) (v := 6) dX12_guiltOf_46 rfl (sn_reti (pc := 48) (R := fun x τ => (some ((x, τ)))) dX12_guiltOf_48 rfl (fun _ _ _ _ e h => by cases e; exact h))) (am_all_cons (sn_iconst (pc := 52) (v := 3) dX12_guiltOf_52 rfl (sn_reti (pc := 53) (R := fun x τ => (some ((x, τ)))) dX12_guiltOf_53 rfl (fun _ _ _ _ e h => by cases e; exact h))) (am_all_cons (sn_iconst (pc := 52) (v := 3) dX12_guiltOf_52 rfl (sn_reti (pc := 53) (R := fun x τ => (some ((x, τ)))) dX12_guiltOf_53 rfl (fun _ _ _ _ e h => by cases e; exact h))) (am_all_cons (sn_bipush (pc := 49) (v := 8) dX12_guiltOf_49 rfl (sn_reti (pc := 51) (R := fun x τ => (some ((x, τ)))) dX12_guiltOf_51 rfl (fun _ _ _ _ e h => by cases e; exact h))) (am_all_cons (sn_bipush (pc := 46) (v := 6) dX12_guiltOf_46 rfl (sn_reti (pc := 48) (R := fun x τ => (some ((x, τ)))) dX12_guiltOf_48 rfl (fun _ _ _ _ e h => by cases e; exact h))) am_all_nil)))))))))))) _ _ _ _ _ ((eq_M_guiltOf x1 σ).symm.trans e) hr
noncomputable def cF_M_guiltOf : am_Fn := fun _ args σ K => match args with
  | [.ref q0, .int z1] => match Nat.beq q0 66 with
    | true => (f_M_guiltOf z1 σ).bind (fun p => K (some (.int p.1)) p.2)
    | _ => none
  | _ => none
theorem cal_M_guiltOf (G : am_G) : am_Cal G M_M_guiltOf cF_M_guiltOf := by
  intro ρ args σ K r e
  unfold cF_M_guiltOf at e
  split at e
  · split at e
    · rename_i hq0
      obtain ⟨p, h1, h2⟩ := am_bind_some e
      rw [Nat.eq_of_beq_eq_true hq0]
      exact ⟨some (.int p.1), p.2, am_Met.of rfl (Nat.le_of_ble_eq_true rfl) (s_M_guiltOf G _ σ p _ h1 ⟨rfl, rfl⟩), h2⟩
    · cases e
  · cases e
abbrev M_M_plainSlips : am_MD := (yX12_plainSlips, cX12_plainSlips, 2, (some .int), 0, 0)
theorem dX12_plainSlips_0 : decode cX12_plainSlips 0 = .ok (.aload_n 0, 1) := by decide +kernel
theorem dX12_plainSlips_1 : decode cX12_plainSlips 1 = .ok (.getfield 20, 3) := by decide +kernel
theorem dX12_plainSlips_4 : decode cX12_plainSlips 4 = .ok (.iload_n 1, 1) := by decide +kernel
theorem dX12_plainSlips_5 : decode cX12_plainSlips 5 = .ok (.iaload, 1) := by decide +kernel
theorem dX12_plainSlips_6 : decode cX12_plainSlips 6 = .ok (.tableswitch 48 0 3 #[30, 32, 35, 37], 30) := by decide +kernel
theorem dX12_plainSlips_36 : decode cX12_plainSlips 36 = .ok (.iconst 2, 1) := by decide +kernel
theorem dX12_plainSlips_37 : decode cX12_plainSlips 37 = .ok (.ireturn, 1) := by decide +kernel
theorem dX12_plainSlips_38 : decode cX12_plainSlips 38 = .ok (.bipush 6, 2) := by decide +kernel
theorem dX12_plainSlips_40 : decode cX12_plainSlips 40 = .ok (.ireturn, 1) := by decide +kernel
theorem dX12_plainSlips_41 : decode cX12_plainSlips 41 = .ok (.iconst 1, 1) := by decide +kernel
theorem dX12_plainSlips_42 : decode cX12_plainSlips 42 = .ok (.ireturn, 1) := by decide +kernel
theorem dX12_plainSlips_43 : decode cX12_plainSlips 43 = .ok (.iconst 1, 1) := by decide +kernel
theorem dX12_plainSlips_44 : decode cX12_plainSlips 44 = .ok (.aload_n 0, 1) := by decide +kernel
theorem dX12_plainSlips_45 : decode cX12_plainSlips 45 = .ok (.getfield 23, 3) := by decide +kernel
theorem dX12_plainSlips_48 : decode cX12_plainSlips 48 = .ok (.iload_n 1, 1) := by decide +kernel
theorem dX12_plainSlips_49 : decode cX12_plainSlips 49 = .ok (.iaload, 1) := by decide +kernel
theorem dX12_plainSlips_50 : decode cX12_plainSlips 50 = .ok (.iconst 2, 1) := by decide +kernel
theorem dX12_plainSlips_51 : decode cX12_plainSlips 51 = .ok (.idiv, 1) := by decide +kernel
theorem dX12_plainSlips_52 : decode cX12_plainSlips 52 = .ok (.iadd, 1) := by decide +kernel
theorem dX12_plainSlips_53 : decode cX12_plainSlips 53 = .ok (.ireturn, 1) := by decide +kernel
theorem dX12_plainSlips_54 : decode cX12_plainSlips 54 = .ok (.iconst 3, 1) := by decide +kernel
theorem dX12_plainSlips_55 : decode cX12_plainSlips 55 = .ok (.ireturn, 1) := by decide +kernel
noncomputable def g_M_plainSlips (x1 : Int32) (σ : am_St) : Option (Int32 × am_St) :=
  if am_ix x1 4 = true then
    if (σ.1 68 x1.toNatClampNeg) = 0 then
      some ((2, σ))
    else
    if (σ.1 68 x1.toNatClampNeg) = 1 then
      some ((6, σ))
    else
    if (σ.1 68 x1.toNatClampNeg) = 2 then
      some ((1, σ))
    else
    if (σ.1 68 x1.toNatClampNeg) = 3 then
      if am_ix x1 4 = true then
        some ((1 + ((σ.1 69 x1.toNatClampNeg) / 2), σ))
      else none
    else
    some ((3, σ))
  else none
noncomputable def f_M_plainSlips (x1 : Int32) (σ : am_St) : Option (Int32 × am_St) := am_lk (g_M_plainSlips x1 σ)
theorem eq_M_plainSlips (x1 : Int32) (σ : am_St) : f_M_plainSlips x1 σ = g_M_plainSlips x1 σ := am_lk_eq _
set_option maxRecDepth 100000 in
set_option maxHeartbeats 4000000 in
theorem s_M_plainSlips (G : am_G) (x1 : Int32) (σ : am_St) (r : Int32 × am_St) (Q : am_AQ) (e : f_M_plainSlips x1 σ = some r) (hr : am_Pi r Q) : am_AW G M_M_plainSlips 0 [(0, .ref 66), (1, .int x1)] [] σ Q :=
  (show am_Snd G M_M_plainSlips 0 am_Pi _ from (sn_aload_n (pc := 0) (i := 0) dX12_plainSlips_0 rfl (sn_gR (r0 := 68) (pc := 1) (h := 66) (f := 8) dX12_plainSlips_1 am_CL_11 sh_66 rfl (Nat.le_of_ble_eq_true rfl) tw_949 (sn_iload_n (pc := 4) (i := 1) dX12_plainSlips_4 rfl (sn_aI (pc := 5) (h := 68) dX12_plainSlips_5 sh_68 (sn_tsw (pc := 6) (dt := 54) (vs := [0, 1, 2, 3]) (ts := [36, 38, 41, 43]) dX12_plainSlips_6 (by decide +kernel) (sn_iconst (pc := 54) (v := 3) dX12_plainSlips_54 rfl (sn_reti (pc := 55) (R := fun x τ => (some ((x, τ)))) dX12_plainSlips_55 rfl (fun _ _ _ _ e h => by cases e; exact h))) (am_all_cons (sn_iconst (pc := 36) (v := 2) dX12_plainSlips_36 rfl (sn_reti (pc := 37) (R := fun x τ => (some ((x, τ)))) dX12_plainSlips_37 rfl (fun _ _ _ _ e h => by cases e; exact h))) (am_all_cons (sn_bipush (pc := 38) (v := 6) dX12_plainSlips_38 rfl (sn_reti (pc := 40) (R := fun x τ => (some ((x, τ)))) dX12_plainSlips_40 rfl (fun _ _ _ _ e h => by cases e; exact h))) (am_all_cons (sn_iconst (pc := 41) (v := 1) dX12_plainSlips_41 rfl (sn_reti (pc := 42) (R := fun x τ => (some ((x, τ)))) dX12_plainSlips_42 rfl (fun _ _ _ _ e h => by cases e; exact h))) (am_all_cons (sn_iconst (pc := 43) (v := 1) dX12_plainSlips_43 rfl (sn_aload_n (pc := 44) (i := 0) dX12_plainSlips_44 rfl (sn_gR (r0 := 69) (pc := 45) (h := 66) (f := 9) dX12_plainSlips_45 am_CL_11 sh_66 rfl (Nat.le_of_ble_eq_true rfl) tw_950 (sn_iload_n (pc := 48) (i := 1) dX12_plainSlips_48 rfl (sn_aI (pc := 49) (h := 69) dX12_plainSlips_49 sh_69 (sn_iconst (pc := 50) (v := 2) dX12_plainSlips_50 rfl (sn_idiv (pc := 51) dX12_plainSlips_51 (sn_iadd (pc := 52) dX12_plainSlips_52 (sn_reti (pc := 53) (R := fun x τ => (some ((x, τ)))) dX12_plainSlips_53 rfl (fun _ _ _ _ e h => by cases e; exact h)))))))))) am_all_nil)))))))))) _ _ _ _ _ ((eq_M_plainSlips x1 σ).symm.trans e) hr
noncomputable def cF_M_plainSlips : am_Fn := fun _ args σ K => match args with
  | [.ref q0, .int z1] => match Nat.beq q0 66 with
    | true => (f_M_plainSlips z1 σ).bind (fun p => K (some (.int p.1)) p.2)
    | _ => none
  | _ => none
theorem cal_M_plainSlips (G : am_G) : am_Cal G M_M_plainSlips cF_M_plainSlips := by
  intro ρ args σ K r e
  unfold cF_M_plainSlips at e
  split at e
  · split at e
    · rename_i hq0
      obtain ⟨p, h1, h2⟩ := am_bind_some e
      rw [Nat.eq_of_beq_eq_true hq0]
      exact ⟨some (.int p.1), p.2, am_Met.of rfl (Nat.le_of_ble_eq_true rfl) (s_M_plainSlips G _ σ p _ h1 ⟨rfl, rfl⟩), h2⟩
    · cases e
  · cases e
abbrev M_M_slipsOf : am_MD := (yX12_slipsOf, cX12_slipsOf, 3, (some .int), 1, 21)
theorem dX12_slipsOf_0 : decode cX12_slipsOf 0 = .ok (.aload_n 0, 1) := by decide +kernel
theorem dX12_slipsOf_1 : decode cX12_slipsOf 1 = .ok (.iload_n 1, 1) := by decide +kernel
theorem dX12_slipsOf_2 : decode cX12_slipsOf 2 = .ok (.invokevirtual 141, 3) := by decide +kernel
theorem dX12_slipsOf_5 : decode cX12_slipsOf 5 = .ok (.aload_n 0, 1) := by decide +kernel
theorem dX12_slipsOf_6 : decode cX12_slipsOf 6 = .ok (.getfield 29, 3) := by decide +kernel
theorem dX12_slipsOf_9 : decode cX12_slipsOf 9 = .ok (.iload_n 1, 1) := by decide +kernel
theorem dX12_slipsOf_10 : decode cX12_slipsOf 10 = .ok (.iaload, 1) := by decide +kernel
theorem dX12_slipsOf_11 : decode cX12_slipsOf 11 = .ok (.iconst 3, 1) := by decide +kernel
theorem dX12_slipsOf_12 : decode cX12_slipsOf 12 = .ok (.idiv, 1) := by decide +kernel
theorem dX12_slipsOf_13 : decode cX12_slipsOf 13 = .ok (.isub, 1) := by decide +kernel
theorem dX12_slipsOf_14 : decode cX12_slipsOf 14 = .ok (.istore_n 2, 1) := by decide +kernel
theorem dX12_slipsOf_15 : decode cX12_slipsOf 15 = .ok (.iload_n 2, 1) := by decide +kernel
theorem dX12_slipsOf_16 : decode cX12_slipsOf 16 = .ok (.ifCond .ge 7, 3) := by decide +kernel
theorem dX12_slipsOf_19 : decode cX12_slipsOf 19 = .ok (.iconst 0, 1) := by decide +kernel
theorem dX12_slipsOf_20 : decode cX12_slipsOf 20 = .ok (.goto 15, 3) := by decide +kernel
theorem dX12_slipsOf_23 : decode cX12_slipsOf 23 = .ok (.iload_n 2, 1) := by decide +kernel
theorem dX12_slipsOf_24 : decode cX12_slipsOf 24 = .ok (.bipush 9, 2) := by decide +kernel
theorem dX12_slipsOf_26 : decode cX12_slipsOf 26 = .ok (.if_icmp .le 8, 3) := by decide +kernel
theorem dX12_slipsOf_29 : decode cX12_slipsOf 29 = .ok (.bipush 9, 2) := by decide +kernel
theorem dX12_slipsOf_31 : decode cX12_slipsOf 31 = .ok (.goto 4, 3) := by decide +kernel
theorem dX12_slipsOf_34 : decode cX12_slipsOf 34 = .ok (.iload_n 2, 1) := by decide +kernel
theorem dX12_slipsOf_35 : decode cX12_slipsOf 35 = .ok (.ireturn, 1) := by decide +kernel
noncomputable def g_M_slipsOf (x1 : Int32) (σ : am_St) : Option (Int32 × am_St) :=
  (f_M_plainSlips x1 σ).bind (fun p1 =>
    if am_ix x1 4 = true then
      let v2 := p1.1 - ((p1.2.1 71 x1.toNatClampNeg) / 3)
      if 0 ≤ v2 then
        if v2 ≤ 9 then
          some ((v2, p1.2))
        else
          some ((9, p1.2))
      else
        some ((0, p1.2))
    else none)
noncomputable def f_M_slipsOf (x1 : Int32) (σ : am_St) : Option (Int32 × am_St) := am_lk (g_M_slipsOf x1 σ)
theorem eq_M_slipsOf (x1 : Int32) (σ : am_St) : f_M_slipsOf x1 σ = g_M_slipsOf x1 σ := am_lk_eq _
set_option maxRecDepth 100000 in
set_option maxHeartbeats 4000000 in
theorem s_M_slipsOf (G : am_G) (x1 : Int32) (σ : am_St) (r : Int32 × am_St) (Q : am_AQ) (e : f_M_slipsOf x1 σ = some r) (hr : am_Pi r Q) : am_AW G M_M_slipsOf 0 [(0, .ref 66), (1, .int x1)] [] σ Q :=
  (show am_Snd G M_M_slipsOf 0 am_Pi _ from (sn_aload_n (pc := 0) (i := 0) dX12_slipsOf_0 rfl (sn_iload_n (pc := 1) (i := 1) dX12_slipsOf_1 rfl (sn_callV (pc := 2) (N := M_M_plainSlips) dX12_slipsOf_2 (cal_M_plainSlips G) sh_66 rfl tw_1218 tw_1220 tp_48 tw_12 tw_1221 dsc_X12_plainSlips rfl (sn_aload_n (pc := 5) (i := 0) dX12_slipsOf_5 rfl (sn_gR (r0 := 71) (pc := 6) (h := 66) (f := 11) dX12_slipsOf_6 am_CL_11 sh_66 rfl (Nat.le_of_ble_eq_true rfl) tw_952 (sn_iload_n (pc := 9) (i := 1) dX12_slipsOf_9 rfl (sn_aI (pc := 10) (h := 71) dX12_slipsOf_10 sh_71 (sn_iconst (pc := 11) (v := 3) dX12_slipsOf_11 rfl (sn_idiv (pc := 12) dX12_slipsOf_12 (sn_isub (pc := 13) dX12_slipsOf_13 (sn_istore_n (pc := 14) (i := 2) dX12_slipsOf_14 rfl (Nat.le_of_ble_eq_true rfl) (sn_iload_n (pc := 15) (i := 2) dX12_slipsOf_15 rfl (sn_if_ge (pc := 16) (tgt := 23) dX12_slipsOf_16 rfl (sn_iload_n (pc := 23) (i := 2) dX12_slipsOf_23 rfl (sn_bipush (pc := 24) (v := 9) dX12_slipsOf_24 rfl (sn_icmp_le (pc := 26) (tgt := 34) dX12_slipsOf_26 rfl (sn_iload_n (pc := 34) (i := 2) dX12_slipsOf_34 rfl (sn_reti (pc := 35) (R := fun x τ => (some ((x, τ)))) dX12_slipsOf_35 rfl (fun _ _ _ _ e h => by cases e; exact h))) (sn_bipush (pc := 29) (v := 9) dX12_slipsOf_29 rfl (sn_goto (pc := 31) (tgt := 35) dX12_slipsOf_31 rfl (sn_reti (pc := 35) (R := fun x τ => (some ((x, τ)))) dX12_slipsOf_35 rfl (fun _ _ _ _ e h => by cases e; exact h))))))) (sn_iconst (pc := 19) (v := 0) dX12_slipsOf_19 rfl (sn_goto (pc := 20) (tgt := 35) dX12_slipsOf_20 rfl (sn_reti (pc := 35) (R := fun x τ => (some ((x, τ)))) dX12_slipsOf_35 rfl (fun _ _ _ _ e h => by cases e; exact h)))))))))))))))))) _ _ _ _ _ ((eq_M_slipsOf x1 σ).symm.trans e) hr
noncomputable def cF_M_slipsOf : am_Fn := fun _ args σ K => match args with
  | [.ref q0, .int z1] => match Nat.beq q0 66 with
    | true => (f_M_slipsOf z1 σ).bind (fun p => K (some (.int p.1)) p.2)
    | _ => none
  | _ => none
theorem cal_M_slipsOf (G : am_G) : am_Cal G M_M_slipsOf cF_M_slipsOf := by
  intro ρ args σ K r e
  unfold cF_M_slipsOf at e
  split at e
  · split at e
    · rename_i hq0
      obtain ⟨p, h1, h2⟩ := am_bind_some e
      rw [Nat.eq_of_beq_eq_true hq0]
      exact ⟨some (.int p.1), p.2, am_Met.of rfl (Nat.le_of_ble_eq_true rfl) (s_M_slipsOf G _ σ p _ h1 ⟨rfl, rfl⟩), h2⟩
    · cases e
  · cases e
