abbrev M_M_tale : am_MD := (yX12_tale, cX12_tale, 8, (some .int), 1, 25)
theorem dX12_tale_0 : decode cX12_tale 0 = .ok (.aload_n 0, 1) := by decide +kernel
theorem dX12_tale_1 : decode cX12_tale 1 = .ok (.iconst 0, 1) := by decide +kernel
theorem dX12_tale_2 : decode cX12_tale 2 = .ok (.putfield 102, 3) := by decide +kernel
theorem dX12_tale_5 : decode cX12_tale 5 = .ok (.iload_n 1, 1) := by decide +kernel
theorem dX12_tale_6 : decode cX12_tale 6 = .ok (.iconst 0, 1) := by decide +kernel
theorem dX12_tale_7 : decode cX12_tale 7 = .ok (.bipush 99, 2) := by decide +kernel
theorem dX12_tale_9 : decode cX12_tale 9 = .ok (.invokestatic 268, 3) := by decide +kernel
theorem dX12_tale_12 : decode cX12_tale 12 = .ok (.istore_n 3, 1) := by decide +kernel
theorem dX12_tale_13 : decode cX12_tale 13 = .ok (.iload_n 3, 1) := by decide +kernel
theorem dX12_tale_14 : decode cX12_tale 14 = .ok (.ifCond .ne 18, 3) := by decide +kernel
theorem dX12_tale_17 : decode cX12_tale 17 = .ok (.iload_n 2, 1) := by decide +kernel
theorem dX12_tale_18 : decode cX12_tale 18 = .ok (.i2l, 1) := by decide +kernel
theorem dX12_tale_19 : decode cX12_tale 19 = .ok (.lconst 0, 1) := by decide +kernel
theorem dX12_tale_20 : decode cX12_tale 20 = .ok (.lconst 1, 1) := by decide +kernel
theorem dX12_tale_21 : decode cX12_tale 21 = .ok (.invokestatic 108, 3) := by decide +kernel
theorem dX12_tale_24 : decode cX12_tale 24 = .ok (.ifCond .ne 8, 3) := by decide +kernel
theorem dX12_tale_27 : decode cX12_tale 27 = .ok (.bipush (-2), 2) := by decide +kernel
theorem dX12_tale_29 : decode cX12_tale 29 = .ok (.goto 4, 3) := by decide +kernel
theorem dX12_tale_32 : decode cX12_tale 32 = .ok (.iload_n 3, 1) := by decide +kernel
theorem dX12_tale_33 : decode cX12_tale 33 = .ok (.istore_n 3, 1) := by decide +kernel
theorem dX12_tale_34 : decode cX12_tale 34 = .ok (.iload_n 3, 1) := by decide +kernel
theorem dX12_tale_35 : decode cX12_tale 35 = .ok (.ifCond .ge 9, 3) := by decide +kernel
theorem dX12_tale_38 : decode cX12_tale 38 = .ok (.aload_n 0, 1) := by decide +kernel
theorem dX12_tale_39 : decode cX12_tale 39 = .ok (.iload_n 3, 1) := by decide +kernel
theorem dX12_tale_40 : decode cX12_tale 40 = .ok (.invokevirtual 154, 3) := by decide +kernel
theorem dX12_tale_43 : decode cX12_tale 43 = .ok (.ireturn, 1) := by decide +kernel
theorem dX12_tale_44 : decode cX12_tale 44 = .ok (.iload_n 1, 1) := by decide +kernel
theorem dX12_tale_45 : decode cX12_tale 45 = .ok (.istore 4, 2) := by decide +kernel
theorem dX12_tale_47 : decode cX12_tale 47 = .ok (.iconst 0, 1) := by decide +kernel
theorem dX12_tale_48 : decode cX12_tale 48 = .ok (.istore 5, 2) := by decide +kernel
theorem dX12_tale_50 : decode cX12_tale 50 = .ok (.iconst 0, 1) := by decide +kernel
theorem dX12_tale_51 : decode cX12_tale 51 = .ok (.istore 6, 2) := by decide +kernel
theorem dX12_tale_53 : decode cX12_tale 53 = .ok (.iload 6, 2) := by decide +kernel
theorem dX12_tale_55 : decode cX12_tale 55 = .ok (.aload_n 0, 1) := by decide +kernel
theorem dX12_tale_56 : decode cX12_tale 56 = .ok (.getfield 13, 3) := by decide +kernel
theorem dX12_tale_59 : decode cX12_tale 59 = .ok (.if_icmp .ge 72, 3) := by decide +kernel
theorem dX12_tale_62 : decode cX12_tale 62 = .ok (.iconst 0, 1) := by decide +kernel
theorem dX12_tale_63 : decode cX12_tale 63 = .ok (.istore 7, 2) := by decide +kernel
theorem dX12_tale_65 : decode cX12_tale 65 = .ok (.iload 7, 2) := by decide +kernel
theorem dX12_tale_67 : decode cX12_tale 67 = .ok (.aload_n 0, 1) := by decide +kernel
theorem dX12_tale_68 : decode cX12_tale 68 = .ok (.getfield 105, 3) := by decide +kernel
theorem dX12_tale_71 : decode cX12_tale 71 = .ok (.if_icmp .ge 54, 3) := by decide +kernel
theorem dX12_tale_74 : decode cX12_tale 74 = .ok (.iload 4, 2) := by decide +kernel
theorem dX12_tale_76 : decode cX12_tale 76 = .ok (.iload 6, 2) := by decide +kernel
theorem dX12_tale_78 : decode cX12_tale 78 = .ok (.ifCond .ne 7, 3) := by decide +kernel
theorem dX12_tale_81 : decode cX12_tale 81 = .ok (.iconst 5, 1) := by decide +kernel
theorem dX12_tale_82 : decode cX12_tale 82 = .ok (.goto 4, 3) := by decide +kernel
theorem dX12_tale_85 : decode cX12_tale 85 = .ok (.iconst 2, 1) := by decide +kernel
theorem dX12_tale_86 : decode cX12_tale 86 = .ok (.isub, 1) := by decide +kernel
theorem dX12_tale_87 : decode cX12_tale 87 = .ok (.istore 4, 2) := by decide +kernel
theorem dX12_tale_89 : decode cX12_tale 89 = .ok (.iload 4, 2) := by decide +kernel
theorem dX12_tale_91 : decode cX12_tale 91 = .ok (.ifCond .ge 25, 3) := by decide +kernel
theorem dX12_tale_94 : decode cX12_tale 94 = .ok (.iload_n 2, 1) := by decide +kernel
theorem dX12_tale_95 : decode cX12_tale 95 = .ok (.ifCond .ne 8, 3) := by decide +kernel
theorem dX12_tale_98 : decode cX12_tale 98 = .ok (.iload 5, 2) := by decide +kernel
theorem dX12_tale_100 : decode cX12_tale 100 = .ok (.goto 15, 3) := by decide +kernel
theorem dX12_tale_103 : decode cX12_tale 103 = .ok (.bipush 10, 2) := by decide +kernel
theorem dX12_tale_105 : decode cX12_tale 105 = .ok (.iload 7, 2) := by decide +kernel
theorem dX12_tale_107 : decode cX12_tale 107 = .ok (.imul, 1) := by decide +kernel
theorem dX12_tale_108 : decode cX12_tale 108 = .ok (.aload_n 0, 1) := by decide +kernel
theorem dX12_tale_109 : decode cX12_tale 109 = .ok (.iload 6, 2) := by decide +kernel
theorem dX12_tale_111 : decode cX12_tale 111 = .ok (.invokevirtual 323, 3) := by decide +kernel
theorem dX12_tale_114 : decode cX12_tale 114 = .ok (.iadd, 1) := by decide +kernel
theorem dX12_tale_115 : decode cX12_tale 115 = .ok (.ireturn, 1) := by decide +kernel
theorem dX12_tale_116 : decode cX12_tale 116 = .ok (.iinc 5 1, 3) := by decide +kernel
theorem dX12_tale_119 : decode cX12_tale 119 = .ok (.iinc 7 1, 3) := by decide +kernel
theorem dX12_tale_122 : decode cX12_tale 122 = .ok (.goto (-57), 3) := by decide +kernel
theorem dX12_tale_125 : decode cX12_tale 125 = .ok (.iinc 6 1, 3) := by decide +kernel
theorem dX12_tale_128 : decode cX12_tale 128 = .ok (.goto (-75), 3) := by decide +kernel
theorem dX12_tale_131 : decode cX12_tale 131 = .ok (.iload_n 2, 1) := by decide +kernel
theorem dX12_tale_132 : decode cX12_tale 132 = .ok (.ifCond .ne 8, 3) := by decide +kernel
theorem dX12_tale_135 : decode cX12_tale 135 = .ok (.iload 5, 2) := by decide +kernel
theorem dX12_tale_137 : decode cX12_tale 137 = .ok (.goto 5, 3) := by decide +kernel
theorem dX12_tale_140 : decode cX12_tale 140 = .ok (.bipush (-9), 2) := by decide +kernel
theorem dX12_tale_142 : decode cX12_tale 142 = .ok (.ireturn, 1) := by decide +kernel
abbrev Pl_M_tale_53 (G : am_G) : ((Int32 × Int32 × Int32 × Int32 × am_St) ⊕ (Int32 × am_St)) → am_AQ → Prop := am_PL G M_M_tale 53 (fun s : Int32 × Int32 × Int32 × Int32 × am_St => [(6, .int s.2.2.2.1), (5, .int s.2.2.1), (4, .int s.2.1), (2, .int s.1), (0, .ref 66)]) (fun s => s.2.2.2.2) am_Pi
abbrev Pl_M_tale_65 (G : am_G) : ((Int32 × Int32 × Int32 × Int32 × Int32 × am_St) ⊕ ((Int32 × Int32 × Int32 × Int32 × am_St) ⊕ (Int32 × am_St))) → am_AQ → Prop := am_PL G M_M_tale 65 (fun s : Int32 × Int32 × Int32 × Int32 × Int32 × am_St => [(7, .int s.2.2.2.2.1), (6, .int s.2.2.2.1), (5, .int s.2.2.1), (4, .int s.2.1), (2, .int s.1), (0, .ref 66)]) (fun s => s.2.2.2.2.2) (Pl_M_tale_53 G)
noncomputable def g_M_tale_86 (x2 : Int32) (x5 : Int32) (x6 : Int32) (x7 : Int32) (y0 : Int32) (y1 : Int32) (σ : am_St) : Option ((Int32 × Int32 × Int32 × Int32 × Int32 × am_St) ⊕ ((Int32 × Int32 × Int32 × Int32 × am_St) ⊕ (Int32 × am_St))) :=
  let v1 := y0 - y1
  if 0 ≤ v1 then
    let v2 := x5 + 1
    let v3 := x7 + 1
    some (.inl (x2, v1, v2, x6, v3, σ))
  else
    if x2 = 0 then
      some (.inr (.inr ((x5, σ))))
    else
      (f_M_minuteBy x6 σ).bind (fun p4 =>
        some (.inr (.inr (((10 * x7) + p4.1, p4.2)))))
noncomputable def f_M_tale_86 (x2 : Int32) (x5 : Int32) (x6 : Int32) (x7 : Int32) (y0 : Int32) (y1 : Int32) (σ : am_St) : Option ((Int32 × Int32 × Int32 × Int32 × Int32 × am_St) ⊕ ((Int32 × Int32 × Int32 × Int32 × am_St) ⊕ (Int32 × am_St))) := am_lk (g_M_tale_86 x2 x5 x6 x7 y0 y1 σ)
theorem eq_M_tale_86 (x2 : Int32) (x5 : Int32) (x6 : Int32) (x7 : Int32) (y0 : Int32) (y1 : Int32) (σ : am_St) : f_M_tale_86 x2 x5 x6 x7 y0 y1 σ = g_M_tale_86 x2 x5 x6 x7 y0 y1 σ := am_lk_eq _
set_option maxRecDepth 100000 in
set_option maxHeartbeats 4000000 in
theorem s_M_tale_86 (G : am_G) (x2 : Int32) (x5 : Int32) (x6 : Int32) (x7 : Int32) (y0 : Int32) (y1 : Int32) (σ : am_St) (r : (Int32 × Int32 × Int32 × Int32 × Int32 × am_St) ⊕ ((Int32 × Int32 × Int32 × Int32 × am_St) ⊕ (Int32 × am_St))) (Q : am_AQ) (e : f_M_tale_86 x2 x5 x6 x7 y0 y1 σ = some r) (hr : (Pl_M_tale_65 G) r Q) : am_AW G M_M_tale 86 [(7, .int x7), (6, .int x6), (5, .int x5), (2, .int x2), (0, .ref 66)] [.int y1, .int y0] σ Q :=
  (show am_Snd G M_M_tale 86 (Pl_M_tale_65 G) _ from (sn_isub (pc := 86) dX12_tale_86 (sn_istore (pc := 87) dX12_tale_87 (Nat.le_of_ble_eq_true rfl) (sn_iload (pc := 89) dX12_tale_89 (sn_if_ge (pc := 91) (tgt := 116) dX12_tale_91 rfl (sn_iinc (pc := 116) (v := 1) dX12_tale_116 rfl (Nat.le_of_ble_eq_true rfl) (sn_iinc (pc := 119) (v := 1) dX12_tale_119 rfl (Nat.le_of_ble_eq_true rfl) (sn_goto (pc := 122) (tgt := 65) dX12_tale_122 rfl (sn_lf (pc := 65) (ln_a (i := 0) (q := 66) (ln_i (i := 2) (fun z0 => (ln_i (i := 4) (fun z1 => (ln_i (i := 5) (fun z2 => (ln_i (i := 6) (fun z3 => (ln_i (i := 7) (fun z4 => (ln_end (o := fun τ => (some (.inl (z0, z1, z2, z3, z4, τ)) : Option ((Int32 × Int32 × Int32 × Int32 × Int32 × am_St) ⊕ ((Int32 × Int32 × Int32 × Int32 × am_St) ⊕ (Int32 × am_St))))) (fun _ _ _ e h => by cases e; exact h))))))))))))))))) (sn_iload_n (pc := 94) (i := 2) dX12_tale_94 rfl (sn_if_ne (pc := 95) (tgt := 103) dX12_tale_95 rfl (sn_bipush (pc := 103) (v := 10) dX12_tale_103 rfl (sn_iload (pc := 105) dX12_tale_105 (sn_imul (pc := 107) dX12_tale_107 (sn_aload_n (pc := 108) (i := 0) dX12_tale_108 rfl (sn_iload (pc := 109) dX12_tale_109 (sn_callV (pc := 111) (N := M_M_minuteBy) dX12_tale_111 (cal_M_minuteBy G) sh_66 rfl tw_1372 tw_1374 tp_64 tw_12 tw_1375 dsc_X12_minuteBy rfl (sn_iadd (pc := 114) dX12_tale_114 (sn_reti (pc := 115) (R := fun x τ => (some (.inr (.inr ((x, τ)))) : Option ((Int32 × Int32 × Int32 × Int32 × Int32 × am_St) ⊕ ((Int32 × Int32 × Int32 × Int32 × am_St) ⊕ (Int32 × am_St))))) dX12_tale_115 rfl (fun _ _ _ _ e h => by cases e; exact h))))))))) (sn_iload (pc := 98) dX12_tale_98 (sn_goto (pc := 100) (tgt := 115) dX12_tale_100 rfl (sn_reti (pc := 115) (R := fun x τ => (some (.inr (.inr ((x, τ)))) : Option ((Int32 × Int32 × Int32 × Int32 × Int32 × am_St) ⊕ ((Int32 × Int32 × Int32 × Int32 × am_St) ⊕ (Int32 × am_St))))) dX12_tale_115 rfl (fun _ _ _ _ e h => by cases e; exact h))))))))))) _ _ _ _ _ ((eq_M_tale_86 x2 x5 x6 x7 y0 y1 σ).symm.trans e) hr
noncomputable def b_M_tale_65 (x2 : Int32) (x4 : Int32) (x5 : Int32) (x6 : Int32) (x7 : Int32) (σ : am_St) : Option ((Int32 × Int32 × Int32 × Int32 × Int32 × am_St) ⊕ ((Int32 × Int32 × Int32 × Int32 × am_St) ⊕ (Int32 × am_St))) :=
  if (σ.1 66 2) ≤ x7 then
    let v1 := x6 + 1
    some (.inr (.inl (x2, x4, x5, v1, σ)))
  else
    if x6 = 0 then
      f_M_tale_86 x2 x5 x6 x7 x4 5 σ
    else
      f_M_tale_86 x2 x5 x6 x7 x4 2 σ
noncomputable def f_M_tale_65 (x2 : Int32) (x4 : Int32) (x5 : Int32) (x6 : Int32) (x7 : Int32) (σ : am_St) : Option ((Int32 × Int32 × Int32 × Int32 × am_St) ⊕ (Int32 × am_St)) := am_lp (fun s : Int32 × Int32 × Int32 × Int32 × Int32 × am_St => b_M_tale_65 s.1 s.2.1 s.2.2.1 s.2.2.2.1 s.2.2.2.2.1 s.2.2.2.2.2) (x2, x4, x5, x6, x7, σ)
set_option maxRecDepth 100000 in
set_option maxHeartbeats 4000000 in
theorem sb_M_tale_65 (G : am_G) (x2 : Int32) (x4 : Int32) (x5 : Int32) (x6 : Int32) (x7 : Int32) (σ : am_St) (r : (Int32 × Int32 × Int32 × Int32 × Int32 × am_St) ⊕ ((Int32 × Int32 × Int32 × Int32 × am_St) ⊕ (Int32 × am_St))) (Q : am_AQ) (e : b_M_tale_65 x2 x4 x5 x6 x7 σ = some r) (hr : Pl_M_tale_65 G r Q) : am_AW G M_M_tale 65 [(7, .int x7), (6, .int x6), (5, .int x5), (4, .int x4), (2, .int x2), (0, .ref 66)] [] σ Q :=
  (show am_Snd G M_M_tale 65 (Pl_M_tale_65 G) _ from (sn_iload (pc := 65) dX12_tale_65 (sn_aload_n (pc := 67) (i := 0) dX12_tale_67 rfl (sn_gI (pc := 68) (h := 66) (f := 2) dX12_tale_68 am_CL_11 sh_66 rfl (Nat.le_of_ble_eq_true rfl) tw_943 (sn_icmp_ge (pc := 71) (tgt := 125) dX12_tale_71 rfl (sn_iinc (pc := 125) (v := 1) dX12_tale_125 rfl (Nat.le_of_ble_eq_true rfl) (sn_goto (pc := 128) (tgt := 53) dX12_tale_128 rfl (sn_lf (pc := 53) (ln_a (i := 0) (q := 66) (ln_i (i := 2) (fun z0 => (ln_i (i := 4) (fun z1 => (ln_i (i := 5) (fun z2 => (ln_i (i := 6) (fun z3 => (ln_end (o := fun τ => (some (.inr (.inl (z0, z1, z2, z3, τ))) : Option ((Int32 × Int32 × Int32 × Int32 × Int32 × am_St) ⊕ ((Int32 × Int32 × Int32 × Int32 × am_St) ⊕ (Int32 × am_St))))) (fun _ _ _ e h => by cases e; exact h)))))))))))))) (sn_iload (pc := 74) dX12_tale_74 (sn_iload (pc := 76) dX12_tale_76 (sn_if_ne (pc := 78) (tgt := 85) dX12_tale_78 rfl (sn_iconst (pc := 85) (v := 2) dX12_tale_85 rfl (sn_lf (pc := 86) (ln_a (i := 0) (q := 66) (ln_i (i := 2) (fun z0 => (ln_i (i := 5) (fun z1 => (ln_i (i := 6) (fun z2 => (ln_i (i := 7) (fun z3 => (ln_si (fun w1 => (ln_si (fun w0 => (ln_end (o := fun τ => f_M_tale_86 z0 z1 z2 z3 w0 w1 τ) (fun _ _ _ e h => s_M_tale_86 G z0 z1 z2 z3 w0 w1 _ _ _ e h))))))))))))))))) (sn_iconst (pc := 81) (v := 5) dX12_tale_81 rfl (sn_goto (pc := 82) (tgt := 86) dX12_tale_82 rfl (sn_lf (pc := 86) (ln_a (i := 0) (q := 66) (ln_i (i := 2) (fun z0 => (ln_i (i := 5) (fun z1 => (ln_i (i := 6) (fun z2 => (ln_i (i := 7) (fun z3 => (ln_si (fun w1 => (ln_si (fun w0 => (ln_end (o := fun τ => f_M_tale_86 z0 z1 z2 z3 w0 w1 τ) (fun _ _ _ e h => s_M_tale_86 G z0 z1 z2 z3 w0 w1 _ _ _ e h)))))))))))))))))))))))))) _ _ _ _ _ e hr
theorem s_M_tale_65 (G : am_G) (x2 : Int32) (x4 : Int32) (x5 : Int32) (x6 : Int32) (x7 : Int32) (σ : am_St) (r : (Int32 × Int32 × Int32 × Int32 × am_St) ⊕ (Int32 × am_St)) (Q : am_AQ) (e : f_M_tale_65 x2 x4 x5 x6 x7 σ = some r) (hr : (Pl_M_tale_53 G) r Q) : am_AW G M_M_tale 65 [(7, .int x7), (6, .int x6), (5, .int x5), (4, .int x4), (2, .int x2), (0, .ref 66)] [] σ Q :=
  am_loop (P := (Pl_M_tale_53 G)) (L := fun s : Int32 × Int32 × Int32 × Int32 × Int32 × am_St => [(7, .int s.2.2.2.2.1), (6, .int s.2.2.2.1), (5, .int s.2.2.1), (4, .int s.2.1), (2, .int s.1), (0, .ref 66)]) (g := fun s => s.2.2.2.2.2) (fun s o Q e hr => sb_M_tale_65 G s.1 s.2.1 s.2.2.1 s.2.2.2.1 s.2.2.2.2.1 s.2.2.2.2.2 o Q e hr) (x2, x4, x5, x6, x7, σ) r Q e hr
noncomputable def b_M_tale_53 (x2 : Int32) (x4 : Int32) (x5 : Int32) (x6 : Int32) (σ : am_St) : Option ((Int32 × Int32 × Int32 × Int32 × am_St) ⊕ (Int32 × am_St)) :=
  if (σ.1 66 1) ≤ x6 then
    if x2 = 0 then
      some (.inr ((x5, σ)))
    else
      some (.inr (((-9), σ)))
  else
    f_M_tale_65 x2 x4 x5 x6 0 σ
noncomputable def f_M_tale_53 (x2 : Int32) (x4 : Int32) (x5 : Int32) (x6 : Int32) (σ : am_St) : Option (Int32 × am_St) := am_lp (fun s : Int32 × Int32 × Int32 × Int32 × am_St => b_M_tale_53 s.1 s.2.1 s.2.2.1 s.2.2.2.1 s.2.2.2.2) (x2, x4, x5, x6, σ)
set_option maxRecDepth 100000 in
set_option maxHeartbeats 4000000 in
theorem sb_M_tale_53 (G : am_G) (x2 : Int32) (x4 : Int32) (x5 : Int32) (x6 : Int32) (σ : am_St) (r : (Int32 × Int32 × Int32 × Int32 × am_St) ⊕ (Int32 × am_St)) (Q : am_AQ) (e : b_M_tale_53 x2 x4 x5 x6 σ = some r) (hr : Pl_M_tale_53 G r Q) : am_AW G M_M_tale 53 [(6, .int x6), (5, .int x5), (4, .int x4), (2, .int x2), (0, .ref 66)] [] σ Q :=
  (show am_Snd G M_M_tale 53 (Pl_M_tale_53 G) _ from (sn_iload (pc := 53) dX12_tale_53 (sn_aload_n (pc := 55) (i := 0) dX12_tale_55 rfl (sn_gI (pc := 56) (h := 66) (f := 1) dX12_tale_56 am_CL_11 sh_66 rfl (Nat.le_of_ble_eq_true rfl) tw_942 (sn_icmp_ge (pc := 59) (tgt := 131) dX12_tale_59 rfl (sn_iload_n (pc := 131) (i := 2) dX12_tale_131 rfl (sn_if_ne (pc := 132) (tgt := 140) dX12_tale_132 rfl (sn_bipush (pc := 140) (v := (-9)) dX12_tale_140 (show (Int8.ofInt (-9)).toInt32 = (-9) by decide) (sn_reti (pc := 142) (R := fun x τ => (some (.inr ((x, τ))) : Option ((Int32 × Int32 × Int32 × Int32 × am_St) ⊕ (Int32 × am_St)))) dX12_tale_142 rfl (fun _ _ _ _ e h => by cases e; exact h))) (sn_iload (pc := 135) dX12_tale_135 (sn_goto (pc := 137) (tgt := 142) dX12_tale_137 rfl (sn_reti (pc := 142) (R := fun x τ => (some (.inr ((x, τ))) : Option ((Int32 × Int32 × Int32 × Int32 × am_St) ⊕ (Int32 × am_St)))) dX12_tale_142 rfl (fun _ _ _ _ e h => by cases e; exact h)))))) (sn_iconst (pc := 62) (v := 0) dX12_tale_62 rfl (sn_istore (pc := 63) dX12_tale_63 (Nat.le_of_ble_eq_true rfl) (sn_lf (pc := 65) (ln_a (i := 0) (q := 66) (ln_i (i := 2) (fun z0 => (ln_i (i := 4) (fun z1 => (ln_i (i := 5) (fun z2 => (ln_i (i := 6) (fun z3 => (ln_i (i := 7) (fun z4 => (ln_end (o := fun τ => f_M_tale_65 z0 z1 z2 z3 z4 τ) (fun _ _ _ e h => s_M_tale_65 G z0 z1 z2 z3 z4 _ _ _ e h))))))))))))))))))))) _ _ _ _ _ e hr
theorem s_M_tale_53 (G : am_G) (x2 : Int32) (x4 : Int32) (x5 : Int32) (x6 : Int32) (σ : am_St) (r : Int32 × am_St) (Q : am_AQ) (e : f_M_tale_53 x2 x4 x5 x6 σ = some r) (hr : am_Pi r Q) : am_AW G M_M_tale 53 [(6, .int x6), (5, .int x5), (4, .int x4), (2, .int x2), (0, .ref 66)] [] σ Q :=
  am_loop (P := am_Pi) (L := fun s : Int32 × Int32 × Int32 × Int32 × am_St => [(6, .int s.2.2.2.1), (5, .int s.2.2.1), (4, .int s.2.1), (2, .int s.1), (0, .ref 66)]) (g := fun s => s.2.2.2.2) (fun s o Q e hr => sb_M_tale_53 G s.1 s.2.1 s.2.2.1 s.2.2.2.1 s.2.2.2.2 o Q e hr) (x2, x4, x5, x6, σ) r Q e hr
noncomputable def g_M_tale_33 (x1 : Int32) (x2 : Int32) (y0 : Int32) (σ : am_St) : Option (Int32 × am_St) :=
  if 0 ≤ y0 then
    f_M_tale_53 x2 x1 0 0 σ
  else
    (f_M_refuse y0 σ).bind (fun p1 =>
      some ((p1.1, p1.2)))
noncomputable def f_M_tale_33 (x1 : Int32) (x2 : Int32) (y0 : Int32) (σ : am_St) : Option (Int32 × am_St) := am_lk (g_M_tale_33 x1 x2 y0 σ)
theorem eq_M_tale_33 (x1 : Int32) (x2 : Int32) (y0 : Int32) (σ : am_St) : f_M_tale_33 x1 x2 y0 σ = g_M_tale_33 x1 x2 y0 σ := am_lk_eq _
set_option maxRecDepth 100000 in
set_option maxHeartbeats 4000000 in
theorem s_M_tale_33 (G : am_G) (x1 : Int32) (x2 : Int32) (y0 : Int32) (σ : am_St) (r : Int32 × am_St) (Q : am_AQ) (e : f_M_tale_33 x1 x2 y0 σ = some r) (hr : am_Pi r Q) : am_AW G M_M_tale 33 [(2, .int x2), (1, .int x1), (0, .ref 66)] [.int y0] σ Q :=
  (show am_Snd G M_M_tale 33 am_Pi _ from (sn_istore_n (pc := 33) (i := 3) dX12_tale_33 rfl (Nat.le_of_ble_eq_true rfl) (sn_iload_n (pc := 34) (i := 3) dX12_tale_34 rfl (sn_if_ge (pc := 35) (tgt := 44) dX12_tale_35 rfl (sn_iload_n (pc := 44) (i := 1) dX12_tale_44 rfl (sn_istore (pc := 45) dX12_tale_45 (Nat.le_of_ble_eq_true rfl) (sn_iconst (pc := 47) (v := 0) dX12_tale_47 rfl (sn_istore (pc := 48) dX12_tale_48 (Nat.le_of_ble_eq_true rfl) (sn_iconst (pc := 50) (v := 0) dX12_tale_50 rfl (sn_istore (pc := 51) dX12_tale_51 (Nat.le_of_ble_eq_true rfl) (sn_lf (pc := 53) (ln_a (i := 0) (q := 66) (ln_i (i := 2) (fun z0 => (ln_i (i := 4) (fun z1 => (ln_i (i := 5) (fun z2 => (ln_i (i := 6) (fun z3 => (ln_end (o := fun τ => f_M_tale_53 z0 z1 z2 z3 τ) (fun _ _ _ e h => s_M_tale_53 G z0 z1 z2 z3 _ _ _ e h)))))))))))))))))) (sn_aload_n (pc := 38) (i := 0) dX12_tale_38 rfl (sn_iload_n (pc := 39) (i := 3) dX12_tale_39 rfl (sn_callV (pc := 40) (N := M_M_refuse) dX12_tale_40 (cal_M_refuse G) sh_66 rfl tw_1090 tw_1092 tp_23 tw_12 tw_1093 dsc_X12_refuse rfl (sn_reti (pc := 43) (R := fun x τ => (some ((x, τ)))) dX12_tale_43 rfl (fun _ _ _ _ e h => by cases e; exact h))))))))) _ _ _ _ _ ((eq_M_tale_33 x1 x2 y0 σ).symm.trans e) hr
noncomputable def g_M_tale_27 (x1 : Int32) (x2 : Int32) (σ : am_St) : Option (Int32 × am_St) :=
  f_M_tale_33 x1 x2 ((-2)) σ
noncomputable def f_M_tale_27 (x1 : Int32) (x2 : Int32) (σ : am_St) : Option (Int32 × am_St) := am_lk (g_M_tale_27 x1 x2 σ)
theorem eq_M_tale_27 (x1 : Int32) (x2 : Int32) (σ : am_St) : f_M_tale_27 x1 x2 σ = g_M_tale_27 x1 x2 σ := am_lk_eq _
set_option maxRecDepth 100000 in
set_option maxHeartbeats 4000000 in
theorem s_M_tale_27 (G : am_G) (x1 : Int32) (x2 : Int32) (σ : am_St) (r : Int32 × am_St) (Q : am_AQ) (e : f_M_tale_27 x1 x2 σ = some r) (hr : am_Pi r Q) : am_AW G M_M_tale 27 [(2, .int x2), (1, .int x1), (0, .ref 66)] [] σ Q :=
  (show am_Snd G M_M_tale 27 am_Pi _ from (sn_bipush (pc := 27) (v := (-2)) dX12_tale_27 (show (Int8.ofInt (-2)).toInt32 = (-2) by decide) (sn_goto (pc := 29) (tgt := 33) dX12_tale_29 rfl (sn_lf (pc := 33) (ln_a (i := 0) (q := 66) (ln_i (i := 1) (fun z0 => (ln_i (i := 2) (fun z1 => (ln_si (fun w0 => (ln_end (o := fun τ => f_M_tale_33 z0 z1 w0 τ) (fun _ _ _ e h => s_M_tale_33 G z0 z1 w0 _ _ _ e h))))))))))))) _ _ _ _ _ ((eq_M_tale_27 x1 x2 σ).symm.trans e) hr
noncomputable def g_M_tale_32 (x1 : Int32) (x2 : Int32) (x3 : Int32) (σ : am_St) : Option (Int32 × am_St) :=
  f_M_tale_33 x1 x2 x3 σ
noncomputable def f_M_tale_32 (x1 : Int32) (x2 : Int32) (x3 : Int32) (σ : am_St) : Option (Int32 × am_St) := am_lk (g_M_tale_32 x1 x2 x3 σ)
theorem eq_M_tale_32 (x1 : Int32) (x2 : Int32) (x3 : Int32) (σ : am_St) : f_M_tale_32 x1 x2 x3 σ = g_M_tale_32 x1 x2 x3 σ := am_lk_eq _
set_option maxRecDepth 100000 in
set_option maxHeartbeats 4000000 in
theorem s_M_tale_32 (G : am_G) (x1 : Int32) (x2 : Int32) (x3 : Int32) (σ : am_St) (r : Int32 × am_St) (Q : am_AQ) (e : f_M_tale_32 x1 x2 x3 σ = some r) (hr : am_Pi r Q) : am_AW G M_M_tale 32 [(3, .int x3), (2, .int x2), (1, .int x1), (0, .ref 66)] [] σ Q :=
  (show am_Snd G M_M_tale 32 am_Pi _ from (sn_iload_n (pc := 32) (i := 3) dX12_tale_32 rfl (sn_lf (pc := 33) (ln_a (i := 0) (q := 66) (ln_i (i := 1) (fun z0 => (ln_i (i := 2) (fun z1 => (ln_si (fun w0 => (ln_end (o := fun τ => f_M_tale_33 z0 z1 w0 τ) (fun _ _ _ e h => s_M_tale_33 G z0 z1 w0 _ _ _ e h)))))))))))) _ _ _ _ _ ((eq_M_tale_32 x1 x2 x3 σ).symm.trans e) hr
noncomputable def g_M_tale (x1 : Int32) (x2 : Int32) (σ : am_St) : Option (Int32 × am_St) :=
  let s1 := am_sI σ 66 22 0
  (f_M_wrongNumber x1 0 99 s1).bind (fun p2 =>
    if p2.1 = 0 then
      (f_M_in x2.toInt64 0 1 p2.2).bind (fun p3 =>
        if p3.1 = 0 then
          f_M_tale_27 x1 x2 p3.2
        else
          f_M_tale_32 x1 x2 p2.1 p3.2)
    else
      f_M_tale_32 x1 x2 p2.1 p2.2)
noncomputable def f_M_tale (x1 : Int32) (x2 : Int32) (σ : am_St) : Option (Int32 × am_St) := am_lk (g_M_tale x1 x2 σ)
theorem eq_M_tale (x1 : Int32) (x2 : Int32) (σ : am_St) : f_M_tale x1 x2 σ = g_M_tale x1 x2 σ := am_lk_eq _
set_option maxRecDepth 100000 in
set_option maxHeartbeats 4000000 in
theorem s_M_tale (G : am_G) (x1 : Int32) (x2 : Int32) (σ : am_St) (r : Int32 × am_St) (Q : am_AQ) (e : f_M_tale x1 x2 σ = some r) (hr : am_Pi r Q) : am_AW G M_M_tale 0 [(0, .ref 66), (1, .int x1), (2, .int x2)] [] σ Q :=
  (show am_Snd G M_M_tale 0 am_Pi _ from (sn_aload_n (pc := 0) (i := 0) dX12_tale_0 rfl (sn_iconst (pc := 1) (v := 0) dX12_tale_1 rfl (sn_pI (pc := 2) (h := 66) (f := 22) dX12_tale_2 am_CL_11 sh_66 rfl (Nat.le_of_ble_eq_true rfl) tw_963 rfl rfl (sn_iload_n (pc := 5) (i := 1) dX12_tale_5 rfl (sn_iconst (pc := 6) (v := 0) dX12_tale_6 rfl (sn_bipush (pc := 7) (v := 99) dX12_tale_7 rfl (sn_callS (pc := 9) (N := M_M_wrongNumber) dX12_tale_9 (cal_M_wrongNumber G) tw_1250 tw_1251 tw_12 tw_1252 dsc_X12_wrongNumber rfl (sn_istore_n (pc := 12) (i := 3) dX12_tale_12 rfl (Nat.le_of_ble_eq_true rfl) (sn_iload_n (pc := 13) (i := 3) dX12_tale_13 rfl (sn_if_ne (pc := 14) (tgt := 32) dX12_tale_14 rfl (sn_lf (pc := 32) (ln_a (i := 0) (q := 66) (ln_i (i := 1) (fun z0 => (ln_i (i := 2) (fun z1 => (ln_i (i := 3) (fun z2 => (ln_end (o := fun τ => f_M_tale_32 z0 z1 z2 τ) (fun _ _ _ e h => s_M_tale_32 G z0 z1 z2 _ _ _ e h)))))))))) (sn_iload_n (pc := 17) (i := 2) dX12_tale_17 rfl (sn_i2l (pc := 18) dX12_tale_18 (sn_lconst (pc := 19) (v := 0) dX12_tale_19 rfl (sn_lconst (pc := 20) (v := 1) dX12_tale_20 rfl (sn_callS (pc := 21) (N := M_M_in) dX12_tale_21 (cal_M_in G) tw_1116 tw_1117 tw_12 tw_1118 dsc_X12_in rfl (sn_if_ne (pc := 24) (tgt := 32) dX12_tale_24 rfl (sn_lf (pc := 32) (ln_a (i := 0) (q := 66) (ln_i (i := 1) (fun z0 => (ln_i (i := 2) (fun z1 => (ln_i (i := 3) (fun z2 => (ln_end (o := fun τ => f_M_tale_32 z0 z1 z2 τ) (fun _ _ _ e h => s_M_tale_32 G z0 z1 z2 _ _ _ e h)))))))))) (sn_lf (pc := 27) (ln_a (i := 0) (q := 66) (ln_i (i := 1) (fun z0 => (ln_i (i := 2) (fun z1 => (ln_end (o := fun τ => f_M_tale_27 z0 z1 τ) (fun _ _ _ e h => s_M_tale_27 G z0 z1 _ _ _ e h))))))))))))))))))))))))) _ _ _ _ _ ((eq_M_tale x1 x2 σ).symm.trans e) hr
noncomputable def cF_M_tale : am_Fn := fun _ args σ K => match args with
  | [.ref q0, .int z1, .int z2] => match Nat.beq q0 66 with
    | true => (f_M_tale z1 z2 σ).bind (fun p => K (some (.int p.1)) p.2)
    | _ => none
  | _ => none
theorem cal_M_tale (G : am_G) : am_Cal G M_M_tale cF_M_tale := by
  intro ρ args σ K r e
  unfold cF_M_tale at e
  split at e
  · split at e
    · rename_i hq0
      obtain ⟨p, h1, h2⟩ := am_bind_some e
      rw [Nat.eq_of_beq_eq_true hq0]
      exact ⟨some (.int p.1), p.2, am_Met.of rfl (Nat.le_of_ble_eq_true rfl) (s_M_tale G _ _ σ p _ h1 ⟨rfl, rfl⟩), h2⟩
    · cases e
  · cases e
abbrev M_M_lasts : am_MD := (yX12_lasts, cX12_lasts, 10, (some .long), 2, 55)
theorem dX12_lasts_0 : decode cX12_lasts 0 = .ok (.aload_n 0, 1) := by decide +kernel
theorem dX12_lasts_1 : decode cX12_lasts 1 = .ok (.iconst 0, 1) := by decide +kernel
theorem dX12_lasts_2 : decode cX12_lasts 2 = .ok (.putfield 102, 3) := by decide +kernel
theorem dX12_lasts_5 : decode cX12_lasts 5 = .ok (.iload_n 1, 1) := by decide +kernel
theorem dX12_lasts_6 : decode cX12_lasts 6 = .ok (.iconst 0, 1) := by decide +kernel
theorem dX12_lasts_7 : decode cX12_lasts 7 = .ok (.iconst 4, 1) := by decide +kernel
theorem dX12_lasts_8 : decode cX12_lasts 8 = .ok (.invokestatic 268, 3) := by decide +kernel
theorem dX12_lasts_11 : decode cX12_lasts 11 = .ok (.istore_n 3, 1) := by decide +kernel
theorem dX12_lasts_12 : decode cX12_lasts 12 = .ok (.iload_n 3, 1) := by decide +kernel
theorem dX12_lasts_13 : decode cX12_lasts 13 = .ok (.ifCond .ne 18, 3) := by decide +kernel
theorem dX12_lasts_16 : decode cX12_lasts 16 = .ok (.iload_n 2, 1) := by decide +kernel
theorem dX12_lasts_17 : decode cX12_lasts 17 = .ok (.i2l, 1) := by decide +kernel
theorem dX12_lasts_18 : decode cX12_lasts 18 = .ok (.lconst 0, 1) := by decide +kernel
theorem dX12_lasts_19 : decode cX12_lasts 19 = .ok (.lconst 1, 1) := by decide +kernel
theorem dX12_lasts_20 : decode cX12_lasts 20 = .ok (.invokestatic 108, 3) := by decide +kernel
theorem dX12_lasts_23 : decode cX12_lasts 23 = .ok (.ifCond .ne 8, 3) := by decide +kernel
theorem dX12_lasts_26 : decode cX12_lasts 26 = .ok (.bipush (-2), 2) := by decide +kernel
theorem dX12_lasts_28 : decode cX12_lasts 28 = .ok (.goto 4, 3) := by decide +kernel
theorem dX12_lasts_31 : decode cX12_lasts 31 = .ok (.iload_n 3, 1) := by decide +kernel
theorem dX12_lasts_32 : decode cX12_lasts 32 = .ok (.istore_n 3, 1) := by decide +kernel
theorem dX12_lasts_33 : decode cX12_lasts 33 = .ok (.iload_n 3, 1) := by decide +kernel
theorem dX12_lasts_34 : decode cX12_lasts 34 = .ok (.ifCond .ge 14, 3) := by decide +kernel
theorem dX12_lasts_37 : decode cX12_lasts 37 = .ok (.ldc2_w 282, 3) := by decide +kernel
theorem dX12_lasts_40 : decode cX12_lasts 40 = .ok (.aload_n 0, 1) := by decide +kernel
theorem dX12_lasts_41 : decode cX12_lasts 41 = .ok (.iload_n 3, 1) := by decide +kernel
theorem dX12_lasts_42 : decode cX12_lasts 42 = .ok (.invokevirtual 154, 3) := by decide +kernel
theorem dX12_lasts_45 : decode cX12_lasts 45 = .ok (.i2l, 1) := by decide +kernel
theorem dX12_lasts_46 : decode cX12_lasts 46 = .ok (.lsub, 1) := by decide +kernel
theorem dX12_lasts_47 : decode cX12_lasts 47 = .ok (.lreturn, 1) := by decide +kernel
theorem dX12_lasts_48 : decode cX12_lasts 48 = .ok (.lconst 1, 1) := by decide +kernel
theorem dX12_lasts_49 : decode cX12_lasts 49 = .ok (.lstore 4, 2) := by decide +kernel
theorem dX12_lasts_51 : decode cX12_lasts 51 = .ok (.lconst 1, 1) := by decide +kernel
theorem dX12_lasts_52 : decode cX12_lasts 52 = .ok (.lstore 6, 2) := by decide +kernel
theorem dX12_lasts_54 : decode cX12_lasts 54 = .ok (.iconst 0, 1) := by decide +kernel
theorem dX12_lasts_55 : decode cX12_lasts 55 = .ok (.istore 8, 2) := by decide +kernel
theorem dX12_lasts_57 : decode cX12_lasts 57 = .ok (.iload 8, 2) := by decide +kernel
theorem dX12_lasts_59 : decode cX12_lasts 59 = .ok (.iload_n 1, 1) := by decide +kernel
theorem dX12_lasts_60 : decode cX12_lasts 60 = .ok (.if_icmp .ge 50, 3) := by decide +kernel
theorem dX12_lasts_63 : decode cX12_lasts 63 = .ok (.iconst 0, 1) := by decide +kernel
theorem dX12_lasts_64 : decode cX12_lasts 64 = .ok (.istore 9, 2) := by decide +kernel
theorem dX12_lasts_66 : decode cX12_lasts 66 = .ok (.iload 9, 2) := by decide +kernel
theorem dX12_lasts_68 : decode cX12_lasts 68 = .ok (.aload_n 0, 1) := by decide +kernel
theorem dX12_lasts_69 : decode cX12_lasts 69 = .ok (.getfield 105, 3) := by decide +kernel
theorem dX12_lasts_72 : decode cX12_lasts 72 = .ok (.if_icmp .ge 32, 3) := by decide +kernel
theorem dX12_lasts_75 : decode cX12_lasts 75 = .ok (.lload 4, 2) := by decide +kernel
theorem dX12_lasts_77 : decode cX12_lasts 77 = .ok (.bipush 10, 2) := by decide +kernel
theorem dX12_lasts_79 : decode cX12_lasts 79 = .ok (.aload_n 0, 1) := by decide +kernel
theorem dX12_lasts_80 : decode cX12_lasts 80 = .ok (.iload 9, 2) := by decide +kernel
theorem dX12_lasts_82 : decode cX12_lasts 82 = .ok (.invokevirtual 265, 3) := by decide +kernel
theorem dX12_lasts_85 : decode cX12_lasts 85 = .ok (.isub, 1) := by decide +kernel
theorem dX12_lasts_86 : decode cX12_lasts 86 = .ok (.i2l, 1) := by decide +kernel
theorem dX12_lasts_87 : decode cX12_lasts 87 = .ok (.lmul, 1) := by decide +kernel
theorem dX12_lasts_88 : decode cX12_lasts 88 = .ok (.lstore 4, 2) := by decide +kernel
theorem dX12_lasts_90 : decode cX12_lasts 90 = .ok (.lload 6, 2) := by decide +kernel
theorem dX12_lasts_92 : decode cX12_lasts 92 = .ok (.ldc2_w 326, 3) := by decide +kernel
theorem dX12_lasts_95 : decode cX12_lasts 95 = .ok (.lmul, 1) := by decide +kernel
theorem dX12_lasts_96 : decode cX12_lasts 96 = .ok (.lstore 6, 2) := by decide +kernel
theorem dX12_lasts_98 : decode cX12_lasts 98 = .ok (.iinc 9 1, 3) := by decide +kernel
theorem dX12_lasts_101 : decode cX12_lasts 101 = .ok (.goto (-35), 3) := by decide +kernel
theorem dX12_lasts_104 : decode cX12_lasts 104 = .ok (.iinc 8 1, 3) := by decide +kernel
theorem dX12_lasts_107 : decode cX12_lasts 107 = .ok (.goto (-50), 3) := by decide +kernel
theorem dX12_lasts_110 : decode cX12_lasts 110 = .ok (.lload 4, 2) := by decide +kernel
theorem dX12_lasts_112 : decode cX12_lasts 112 = .ok (.lload 6, 2) := by decide +kernel
theorem dX12_lasts_114 : decode cX12_lasts 114 = .ok (.iload_n 2, 1) := by decide +kernel
theorem dX12_lasts_115 : decode cX12_lasts 115 = .ok (.invokestatic 287, 3) := by decide +kernel
theorem dX12_lasts_118 : decode cX12_lasts 118 = .ok (.lreturn, 1) := by decide +kernel
abbrev Pl_M_lasts_57 (G : am_G) : ((Int32 × Int32 × Int64 × Int64 × Int32 × am_St) ⊕ (Int64 × am_St)) → am_AQ → Prop := am_PL G M_M_lasts 57 (fun s : Int32 × Int32 × Int64 × Int64 × Int32 × am_St => [(8, .int s.2.2.2.2.1), (6, .long s.2.2.2.1), (4, .long s.2.2.1), (2, .int s.2.1), (1, .int s.1), (0, .ref 66)]) (fun s => s.2.2.2.2.2) am_Pl
abbrev Pl_M_lasts_66 (G : am_G) : ((Int32 × Int32 × Int64 × Int64 × Int32 × Int32 × am_St) ⊕ ((Int32 × Int32 × Int64 × Int64 × Int32 × am_St) ⊕ (Int64 × am_St))) → am_AQ → Prop := am_PL G M_M_lasts 66 (fun s : Int32 × Int32 × Int64 × Int64 × Int32 × Int32 × am_St => [(9, .int s.2.2.2.2.2.1), (8, .int s.2.2.2.2.1), (6, .long s.2.2.2.1), (4, .long s.2.2.1), (2, .int s.2.1), (1, .int s.1), (0, .ref 66)]) (fun s => s.2.2.2.2.2.2) (Pl_M_lasts_57 G)
noncomputable def b_M_lasts_66 (x1 : Int32) (x2 : Int32) (x4 : Int64) (x6 : Int64) (x8 : Int32) (x9 : Int32) (σ : am_St) : Option ((Int32 × Int32 × Int64 × Int64 × Int32 × Int32 × am_St) ⊕ ((Int32 × Int32 × Int64 × Int64 × Int32 × am_St) ⊕ (Int64 × am_St))) :=
  if (σ.1 66 2) ≤ x9 then
    let v1 := x8 + 1
    some (.inr (.inl (x1, x2, x4, x6, v1, σ)))
  else
    (f_M_slipsOf x9 σ).bind (fun p2 =>
      let v3 := x4 * ((10 - p2.1).toInt64)
      let v4 := x6 * 10
      let v5 := x9 + 1
      some (.inl (x1, x2, v3, v4, x8, v5, p2.2)))
noncomputable def f_M_lasts_66 (x1 : Int32) (x2 : Int32) (x4 : Int64) (x6 : Int64) (x8 : Int32) (x9 : Int32) (σ : am_St) : Option ((Int32 × Int32 × Int64 × Int64 × Int32 × am_St) ⊕ (Int64 × am_St)) := am_lp (fun s : Int32 × Int32 × Int64 × Int64 × Int32 × Int32 × am_St => b_M_lasts_66 s.1 s.2.1 s.2.2.1 s.2.2.2.1 s.2.2.2.2.1 s.2.2.2.2.2.1 s.2.2.2.2.2.2) (x1, x2, x4, x6, x8, x9, σ)
set_option maxRecDepth 100000 in
set_option maxHeartbeats 4000000 in
theorem sb_M_lasts_66 (G : am_G) (x1 : Int32) (x2 : Int32) (x4 : Int64) (x6 : Int64) (x8 : Int32) (x9 : Int32) (σ : am_St) (r : (Int32 × Int32 × Int64 × Int64 × Int32 × Int32 × am_St) ⊕ ((Int32 × Int32 × Int64 × Int64 × Int32 × am_St) ⊕ (Int64 × am_St))) (Q : am_AQ) (e : b_M_lasts_66 x1 x2 x4 x6 x8 x9 σ = some r) (hr : Pl_M_lasts_66 G r Q) : am_AW G M_M_lasts 66 [(9, .int x9), (8, .int x8), (6, .long x6), (4, .long x4), (2, .int x2), (1, .int x1), (0, .ref 66)] [] σ Q :=
  (show am_Snd G M_M_lasts 66 (Pl_M_lasts_66 G) _ from (sn_iload (pc := 66) dX12_lasts_66 (sn_aload_n (pc := 68) (i := 0) dX12_lasts_68 rfl (sn_gI (pc := 69) (h := 66) (f := 2) dX12_lasts_69 am_CL_11 sh_66 rfl (Nat.le_of_ble_eq_true rfl) tw_943 (sn_icmp_ge (pc := 72) (tgt := 104) dX12_lasts_72 rfl (sn_iinc (pc := 104) (v := 1) dX12_lasts_104 rfl (Nat.le_of_ble_eq_true rfl) (sn_goto (pc := 107) (tgt := 57) dX12_lasts_107 rfl (sn_lf (pc := 57) (ln_a (i := 0) (q := 66) (ln_i (i := 1) (fun z0 => (ln_i (i := 2) (fun z1 => (ln_l (i := 4) (fun z2 => (ln_l (i := 6) (fun z3 => (ln_i (i := 8) (fun z4 => (ln_end (o := fun τ => (some (.inr (.inl (z0, z1, z2, z3, z4, τ))) : Option ((Int32 × Int32 × Int64 × Int64 × Int32 × Int32 × am_St) ⊕ ((Int32 × Int32 × Int64 × Int64 × Int32 × am_St) ⊕ (Int64 × am_St))))) (fun _ _ _ e h => by cases e; exact h)))))))))))))))) (sn_lload (pc := 75) dX12_lasts_75 (sn_bipush (pc := 77) (v := 10) dX12_lasts_77 rfl (sn_aload_n (pc := 79) (i := 0) dX12_lasts_79 rfl (sn_iload (pc := 80) dX12_lasts_80 (sn_callV (pc := 82) (N := M_M_slipsOf) dX12_lasts_82 (cal_M_slipsOf G) sh_66 rfl tw_1214 tw_1216 tp_47 tw_12 tw_1217 dsc_X12_slipsOf rfl (sn_isub (pc := 85) dX12_lasts_85 (sn_i2l (pc := 86) dX12_lasts_86 (sn_lmul (pc := 87) dX12_lasts_87 (sn_lstore (pc := 88) dX12_lasts_88 (Nat.le_of_ble_eq_true rfl) (sn_lload (pc := 90) dX12_lasts_90 (sn_ldc2 (pc := 92) dX12_lasts_92 tw_1380 (sn_lmul (pc := 95) dX12_lasts_95 (sn_lstore (pc := 96) dX12_lasts_96 (Nat.le_of_ble_eq_true rfl) (sn_iinc (pc := 98) (v := 1) dX12_lasts_98 rfl (Nat.le_of_ble_eq_true rfl) (sn_goto (pc := 101) (tgt := 66) dX12_lasts_101 rfl (sn_lf (pc := 66) (ln_a (i := 0) (q := 66) (ln_i (i := 1) (fun z0 => (ln_i (i := 2) (fun z1 => (ln_l (i := 4) (fun z2 => (ln_l (i := 6) (fun z3 => (ln_i (i := 8) (fun z4 => (ln_i (i := 9) (fun z5 => (ln_end (o := fun τ => (some (.inl (z0, z1, z2, z3, z4, z5, τ)) : Option ((Int32 × Int32 × Int64 × Int64 × Int32 × Int32 × am_St) ⊕ ((Int32 × Int32 × Int64 × Int64 × Int32 × am_St) ⊕ (Int64 × am_St))))) (fun _ _ _ e h => by cases e; exact h)))))))))))))))))))))))))))))))))))) _ _ _ _ _ e hr
theorem s_M_lasts_66 (G : am_G) (x1 : Int32) (x2 : Int32) (x4 : Int64) (x6 : Int64) (x8 : Int32) (x9 : Int32) (σ : am_St) (r : (Int32 × Int32 × Int64 × Int64 × Int32 × am_St) ⊕ (Int64 × am_St)) (Q : am_AQ) (e : f_M_lasts_66 x1 x2 x4 x6 x8 x9 σ = some r) (hr : (Pl_M_lasts_57 G) r Q) : am_AW G M_M_lasts 66 [(9, .int x9), (8, .int x8), (6, .long x6), (4, .long x4), (2, .int x2), (1, .int x1), (0, .ref 66)] [] σ Q :=
  am_loop (P := (Pl_M_lasts_57 G)) (L := fun s : Int32 × Int32 × Int64 × Int64 × Int32 × Int32 × am_St => [(9, .int s.2.2.2.2.2.1), (8, .int s.2.2.2.2.1), (6, .long s.2.2.2.1), (4, .long s.2.2.1), (2, .int s.2.1), (1, .int s.1), (0, .ref 66)]) (g := fun s => s.2.2.2.2.2.2) (fun s o Q e hr => sb_M_lasts_66 G s.1 s.2.1 s.2.2.1 s.2.2.2.1 s.2.2.2.2.1 s.2.2.2.2.2.1 s.2.2.2.2.2.2 o Q e hr) (x1, x2, x4, x6, x8, x9, σ) r Q e hr
noncomputable def b_M_lasts_57 (x1 : Int32) (x2 : Int32) (x4 : Int64) (x6 : Int64) (x8 : Int32) (σ : am_St) : Option ((Int32 × Int32 × Int64 × Int64 × Int32 × am_St) ⊕ (Int64 × am_St)) :=
  if x1 ≤ x8 then
    (f_M_partOf x4 x6 x2 σ).bind (fun p1 =>
      some (.inr ((p1.1, p1.2))))
  else
    f_M_lasts_66 x1 x2 x4 x6 x8 0 σ
noncomputable def f_M_lasts_57 (x1 : Int32) (x2 : Int32) (x4 : Int64) (x6 : Int64) (x8 : Int32) (σ : am_St) : Option (Int64 × am_St) := am_lp (fun s : Int32 × Int32 × Int64 × Int64 × Int32 × am_St => b_M_lasts_57 s.1 s.2.1 s.2.2.1 s.2.2.2.1 s.2.2.2.2.1 s.2.2.2.2.2) (x1, x2, x4, x6, x8, σ)
set_option maxRecDepth 100000 in
set_option maxHeartbeats 4000000 in
theorem sb_M_lasts_57 (G : am_G) (x1 : Int32) (x2 : Int32) (x4 : Int64) (x6 : Int64) (x8 : Int32) (σ : am_St) (r : (Int32 × Int32 × Int64 × Int64 × Int32 × am_St) ⊕ (Int64 × am_St)) (Q : am_AQ) (e : b_M_lasts_57 x1 x2 x4 x6 x8 σ = some r) (hr : Pl_M_lasts_57 G r Q) : am_AW G M_M_lasts 57 [(8, .int x8), (6, .long x6), (4, .long x4), (2, .int x2), (1, .int x1), (0, .ref 66)] [] σ Q :=
  (show am_Snd G M_M_lasts 57 (Pl_M_lasts_57 G) _ from (sn_iload (pc := 57) dX12_lasts_57 (sn_iload_n (pc := 59) (i := 1) dX12_lasts_59 rfl (sn_icmp_ge (pc := 60) (tgt := 110) dX12_lasts_60 rfl (sn_lload (pc := 110) dX12_lasts_110 (sn_lload (pc := 112) dX12_lasts_112 (sn_iload_n (pc := 114) (i := 2) dX12_lasts_114 rfl (sn_callS (pc := 115) (N := M_M_partOf) dX12_lasts_115 (cal_M_partOf G) tw_1282 tw_1283 tw_12 tw_1284 dsc_X12_partOf rfl (sn_retl (pc := 118) (R := fun x τ => (some (.inr ((x, τ))) : Option ((Int32 × Int32 × Int64 × Int64 × Int32 × am_St) ⊕ (Int64 × am_St)))) dX12_lasts_118 rfl (fun _ _ _ _ e h => by cases e; exact h)))))) (sn_iconst (pc := 63) (v := 0) dX12_lasts_63 rfl (sn_istore (pc := 64) dX12_lasts_64 (Nat.le_of_ble_eq_true rfl) (sn_lf (pc := 66) (ln_a (i := 0) (q := 66) (ln_i (i := 1) (fun z0 => (ln_i (i := 2) (fun z1 => (ln_l (i := 4) (fun z2 => (ln_l (i := 6) (fun z3 => (ln_i (i := 8) (fun z4 => (ln_i (i := 9) (fun z5 => (ln_end (o := fun τ => f_M_lasts_66 z0 z1 z2 z3 z4 z5 τ) (fun _ _ _ e h => s_M_lasts_66 G z0 z1 z2 z3 z4 z5 _ _ _ e h)))))))))))))))))))))) _ _ _ _ _ e hr
theorem s_M_lasts_57 (G : am_G) (x1 : Int32) (x2 : Int32) (x4 : Int64) (x6 : Int64) (x8 : Int32) (σ : am_St) (r : Int64 × am_St) (Q : am_AQ) (e : f_M_lasts_57 x1 x2 x4 x6 x8 σ = some r) (hr : am_Pl r Q) : am_AW G M_M_lasts 57 [(8, .int x8), (6, .long x6), (4, .long x4), (2, .int x2), (1, .int x1), (0, .ref 66)] [] σ Q :=
  am_loop (P := am_Pl) (L := fun s : Int32 × Int32 × Int64 × Int64 × Int32 × am_St => [(8, .int s.2.2.2.2.1), (6, .long s.2.2.2.1), (4, .long s.2.2.1), (2, .int s.2.1), (1, .int s.1), (0, .ref 66)]) (g := fun s => s.2.2.2.2.2) (fun s o Q e hr => sb_M_lasts_57 G s.1 s.2.1 s.2.2.1 s.2.2.2.1 s.2.2.2.2.1 s.2.2.2.2.2 o Q e hr) (x1, x2, x4, x6, x8, σ) r Q e hr
noncomputable def g_M_lasts_32 (x1 : Int32) (x2 : Int32) (y0 : Int32) (σ : am_St) : Option (Int64 × am_St) :=
  if 0 ≤ y0 then
    f_M_lasts_57 x1 x2 1 1 0 σ
  else
    (f_M_refuse y0 σ).bind (fun p1 =>
      some ((4000000000000000000 - p1.1.toInt64, p1.2)))
noncomputable def f_M_lasts_32 (x1 : Int32) (x2 : Int32) (y0 : Int32) (σ : am_St) : Option (Int64 × am_St) := am_lk (g_M_lasts_32 x1 x2 y0 σ)
theorem eq_M_lasts_32 (x1 : Int32) (x2 : Int32) (y0 : Int32) (σ : am_St) : f_M_lasts_32 x1 x2 y0 σ = g_M_lasts_32 x1 x2 y0 σ := am_lk_eq _
set_option maxRecDepth 100000 in
set_option maxHeartbeats 4000000 in
theorem s_M_lasts_32 (G : am_G) (x1 : Int32) (x2 : Int32) (y0 : Int32) (σ : am_St) (r : Int64 × am_St) (Q : am_AQ) (e : f_M_lasts_32 x1 x2 y0 σ = some r) (hr : am_Pl r Q) : am_AW G M_M_lasts 32 [(2, .int x2), (1, .int x1), (0, .ref 66)] [.int y0] σ Q :=
  (show am_Snd G M_M_lasts 32 am_Pl _ from (sn_istore_n (pc := 32) (i := 3) dX12_lasts_32 rfl (Nat.le_of_ble_eq_true rfl) (sn_iload_n (pc := 33) (i := 3) dX12_lasts_33 rfl (sn_if_ge (pc := 34) (tgt := 48) dX12_lasts_34 rfl (sn_lconst (pc := 48) (v := 1) dX12_lasts_48 rfl (sn_lstore (pc := 49) dX12_lasts_49 (Nat.le_of_ble_eq_true rfl) (sn_lconst (pc := 51) (v := 1) dX12_lasts_51 rfl (sn_lstore (pc := 52) dX12_lasts_52 (Nat.le_of_ble_eq_true rfl) (sn_iconst (pc := 54) (v := 0) dX12_lasts_54 rfl (sn_istore (pc := 55) dX12_lasts_55 (Nat.le_of_ble_eq_true rfl) (sn_lf (pc := 57) (ln_a (i := 0) (q := 66) (ln_i (i := 1) (fun z0 => (ln_i (i := 2) (fun z1 => (ln_l (i := 4) (fun z2 => (ln_l (i := 6) (fun z3 => (ln_i (i := 8) (fun z4 => (ln_end (o := fun τ => f_M_lasts_57 z0 z1 z2 z3 z4 τ) (fun _ _ _ e h => s_M_lasts_57 G z0 z1 z2 z3 z4 _ _ _ e h)))))))))))))))))))) (sn_ldc2 (pc := 37) dX12_lasts_37 tw_1277 (sn_aload_n (pc := 40) (i := 0) dX12_lasts_40 rfl (sn_iload_n (pc := 41) (i := 3) dX12_lasts_41 rfl (sn_callV (pc := 42) (N := M_M_refuse) dX12_lasts_42 (cal_M_refuse G) sh_66 rfl tw_1090 tw_1092 tp_23 tw_12 tw_1093 dsc_X12_refuse rfl (sn_i2l (pc := 45) dX12_lasts_45 (sn_lsub (pc := 46) dX12_lasts_46 (sn_retl (pc := 47) (R := fun x τ => (some ((x, τ)))) dX12_lasts_47 rfl (fun _ _ _ _ e h => by cases e; exact h)))))))))))) _ _ _ _ _ ((eq_M_lasts_32 x1 x2 y0 σ).symm.trans e) hr
noncomputable def g_M_lasts_26 (x1 : Int32) (x2 : Int32) (σ : am_St) : Option (Int64 × am_St) :=
  f_M_lasts_32 x1 x2 ((-2)) σ
noncomputable def f_M_lasts_26 (x1 : Int32) (x2 : Int32) (σ : am_St) : Option (Int64 × am_St) := am_lk (g_M_lasts_26 x1 x2 σ)
theorem eq_M_lasts_26 (x1 : Int32) (x2 : Int32) (σ : am_St) : f_M_lasts_26 x1 x2 σ = g_M_lasts_26 x1 x2 σ := am_lk_eq _
set_option maxRecDepth 100000 in
set_option maxHeartbeats 4000000 in
theorem s_M_lasts_26 (G : am_G) (x1 : Int32) (x2 : Int32) (σ : am_St) (r : Int64 × am_St) (Q : am_AQ) (e : f_M_lasts_26 x1 x2 σ = some r) (hr : am_Pl r Q) : am_AW G M_M_lasts 26 [(2, .int x2), (1, .int x1), (0, .ref 66)] [] σ Q :=
  (show am_Snd G M_M_lasts 26 am_Pl _ from (sn_bipush (pc := 26) (v := (-2)) dX12_lasts_26 (show (Int8.ofInt (-2)).toInt32 = (-2) by decide) (sn_goto (pc := 28) (tgt := 32) dX12_lasts_28 rfl (sn_lf (pc := 32) (ln_a (i := 0) (q := 66) (ln_i (i := 1) (fun z0 => (ln_i (i := 2) (fun z1 => (ln_si (fun w0 => (ln_end (o := fun τ => f_M_lasts_32 z0 z1 w0 τ) (fun _ _ _ e h => s_M_lasts_32 G z0 z1 w0 _ _ _ e h))))))))))))) _ _ _ _ _ ((eq_M_lasts_26 x1 x2 σ).symm.trans e) hr
noncomputable def g_M_lasts_31 (x1 : Int32) (x2 : Int32) (x3 : Int32) (σ : am_St) : Option (Int64 × am_St) :=
  f_M_lasts_32 x1 x2 x3 σ
noncomputable def f_M_lasts_31 (x1 : Int32) (x2 : Int32) (x3 : Int32) (σ : am_St) : Option (Int64 × am_St) := am_lk (g_M_lasts_31 x1 x2 x3 σ)
theorem eq_M_lasts_31 (x1 : Int32) (x2 : Int32) (x3 : Int32) (σ : am_St) : f_M_lasts_31 x1 x2 x3 σ = g_M_lasts_31 x1 x2 x3 σ := am_lk_eq _
set_option maxRecDepth 100000 in
set_option maxHeartbeats 4000000 in
theorem s_M_lasts_31 (G : am_G) (x1 : Int32) (x2 : Int32) (x3 : Int32) (σ : am_St) (r : Int64 × am_St) (Q : am_AQ) (e : f_M_lasts_31 x1 x2 x3 σ = some r) (hr : am_Pl r Q) : am_AW G M_M_lasts 31 [(3, .int x3), (2, .int x2), (1, .int x1), (0, .ref 66)] [] σ Q :=
  (show am_Snd G M_M_lasts 31 am_Pl _ from (sn_iload_n (pc := 31) (i := 3) dX12_lasts_31 rfl (sn_lf (pc := 32) (ln_a (i := 0) (q := 66) (ln_i (i := 1) (fun z0 => (ln_i (i := 2) (fun z1 => (ln_si (fun w0 => (ln_end (o := fun τ => f_M_lasts_32 z0 z1 w0 τ) (fun _ _ _ e h => s_M_lasts_32 G z0 z1 w0 _ _ _ e h)))))))))))) _ _ _ _ _ ((eq_M_lasts_31 x1 x2 x3 σ).symm.trans e) hr
noncomputable def g_M_lasts (x1 : Int32) (x2 : Int32) (σ : am_St) : Option (Int64 × am_St) :=
  let s1 := am_sI σ 66 22 0
  (f_M_wrongNumber x1 0 4 s1).bind (fun p2 =>
    if p2.1 = 0 then
      (f_M_in x2.toInt64 0 1 p2.2).bind (fun p3 =>
        if p3.1 = 0 then
          f_M_lasts_26 x1 x2 p3.2
        else
          f_M_lasts_31 x1 x2 p2.1 p3.2)
    else
      f_M_lasts_31 x1 x2 p2.1 p2.2)
noncomputable def f_M_lasts (x1 : Int32) (x2 : Int32) (σ : am_St) : Option (Int64 × am_St) := am_lk (g_M_lasts x1 x2 σ)
theorem eq_M_lasts (x1 : Int32) (x2 : Int32) (σ : am_St) : f_M_lasts x1 x2 σ = g_M_lasts x1 x2 σ := am_lk_eq _
set_option maxRecDepth 100000 in
set_option maxHeartbeats 4000000 in
theorem s_M_lasts (G : am_G) (x1 : Int32) (x2 : Int32) (σ : am_St) (r : Int64 × am_St) (Q : am_AQ) (e : f_M_lasts x1 x2 σ = some r) (hr : am_Pl r Q) : am_AW G M_M_lasts 0 [(0, .ref 66), (1, .int x1), (2, .int x2)] [] σ Q :=
  (show am_Snd G M_M_lasts 0 am_Pl _ from (sn_aload_n (pc := 0) (i := 0) dX12_lasts_0 rfl (sn_iconst (pc := 1) (v := 0) dX12_lasts_1 rfl (sn_pI (pc := 2) (h := 66) (f := 22) dX12_lasts_2 am_CL_11 sh_66 rfl (Nat.le_of_ble_eq_true rfl) tw_963 rfl rfl (sn_iload_n (pc := 5) (i := 1) dX12_lasts_5 rfl (sn_iconst (pc := 6) (v := 0) dX12_lasts_6 rfl (sn_iconst (pc := 7) (v := 4) dX12_lasts_7 rfl (sn_callS (pc := 8) (N := M_M_wrongNumber) dX12_lasts_8 (cal_M_wrongNumber G) tw_1250 tw_1251 tw_12 tw_1252 dsc_X12_wrongNumber rfl (sn_istore_n (pc := 11) (i := 3) dX12_lasts_11 rfl (Nat.le_of_ble_eq_true rfl) (sn_iload_n (pc := 12) (i := 3) dX12_lasts_12 rfl (sn_if_ne (pc := 13) (tgt := 31) dX12_lasts_13 rfl (sn_lf (pc := 31) (ln_a (i := 0) (q := 66) (ln_i (i := 1) (fun z0 => (ln_i (i := 2) (fun z1 => (ln_i (i := 3) (fun z2 => (ln_end (o := fun τ => f_M_lasts_31 z0 z1 z2 τ) (fun _ _ _ e h => s_M_lasts_31 G z0 z1 z2 _ _ _ e h)))))))))) (sn_iload_n (pc := 16) (i := 2) dX12_lasts_16 rfl (sn_i2l (pc := 17) dX12_lasts_17 (sn_lconst (pc := 18) (v := 0) dX12_lasts_18 rfl (sn_lconst (pc := 19) (v := 1) dX12_lasts_19 rfl (sn_callS (pc := 20) (N := M_M_in) dX12_lasts_20 (cal_M_in G) tw_1116 tw_1117 tw_12 tw_1118 dsc_X12_in rfl (sn_if_ne (pc := 23) (tgt := 31) dX12_lasts_23 rfl (sn_lf (pc := 31) (ln_a (i := 0) (q := 66) (ln_i (i := 1) (fun z0 => (ln_i (i := 2) (fun z1 => (ln_i (i := 3) (fun z2 => (ln_end (o := fun τ => f_M_lasts_31 z0 z1 z2 τ) (fun _ _ _ e h => s_M_lasts_31 G z0 z1 z2 _ _ _ e h)))))))))) (sn_lf (pc := 26) (ln_a (i := 0) (q := 66) (ln_i (i := 1) (fun z0 => (ln_i (i := 2) (fun z1 => (ln_end (o := fun τ => f_M_lasts_26 z0 z1 τ) (fun _ _ _ e h => s_M_lasts_26 G z0 z1 _ _ _ e h))))))))))))))))))))))))) _ _ _ _ _ ((eq_M_lasts x1 x2 σ).symm.trans e) hr
noncomputable def cF_M_lasts : am_Fn := fun _ args σ K => match args with
  | [.ref q0, .int z1, .int z2] => match Nat.beq q0 66 with
    | true => (f_M_lasts z1 z2 σ).bind (fun p => K (some (.long p.1)) p.2)
    | _ => none
  | _ => none
theorem cal_M_lasts (G : am_G) : am_Cal G M_M_lasts cF_M_lasts := by
  intro ρ args σ K r e
  unfold cF_M_lasts at e
  split at e
  · split at e
    · rename_i hq0
      obtain ⟨p, h1, h2⟩ := am_bind_some e
      rw [Nat.eq_of_beq_eq_true hq0]
      exact ⟨some (.long p.1), p.2, am_Met.of rfl (Nat.le_of_ble_eq_true rfl) (s_M_lasts G _ _ σ p _ h1 ⟨rfl, rfl⟩), h2⟩
    · cases e
  · cases e
abbrev M_M_half : am_MD := (yX12_half, cX12_half, 4, (some .int), 2, 43)
theorem dX12_half_0 : decode cX12_half 0 = .ok (.aload_n 0, 1) := by decide +kernel
theorem dX12_half_1 : decode cX12_half 1 = .ok (.iconst 0, 1) := by decide +kernel
theorem dX12_half_2 : decode cX12_half 2 = .ok (.putfield 102, 3) := by decide +kernel
theorem dX12_half_5 : decode cX12_half 5 = .ok (.sipush 10000, 3) := by decide +kernel
theorem dX12_half_8 : decode cX12_half 8 = .ok (.istore_n 1, 1) := by decide +kernel
theorem dX12_half_9 : decode cX12_half 9 = .ok (.iconst 1, 1) := by decide +kernel
theorem dX12_half_10 : decode cX12_half 10 = .ok (.istore_n 2, 1) := by decide +kernel
theorem dX12_half_11 : decode cX12_half 11 = .ok (.iload_n 2, 1) := by decide +kernel
theorem dX12_half_12 : decode cX12_half 12 = .ok (.bipush 100, 2) := by decide +kernel
theorem dX12_half_14 : decode cX12_half 14 = .ok (.if_icmp .ge 48, 3) := by decide +kernel
theorem dX12_half_17 : decode cX12_half 17 = .ok (.iconst 0, 1) := by decide +kernel
theorem dX12_half_18 : decode cX12_half 18 = .ok (.istore_n 3, 1) := by decide +kernel
theorem dX12_half_19 : decode cX12_half 19 = .ok (.iload_n 3, 1) := by decide +kernel
theorem dX12_half_20 : decode cX12_half 20 = .ok (.aload_n 0, 1) := by decide +kernel
theorem dX12_half_21 : decode cX12_half 21 = .ok (.getfield 105, 3) := by decide +kernel
theorem dX12_half_24 : decode cX12_half 24 = .ok (.if_icmp .ge 23, 3) := by decide +kernel
theorem dX12_half_27 : decode cX12_half 27 = .ok (.iload_n 1, 1) := by decide +kernel
theorem dX12_half_28 : decode cX12_half 28 = .ok (.bipush 10, 2) := by decide +kernel
theorem dX12_half_30 : decode cX12_half 30 = .ok (.aload_n 0, 1) := by decide +kernel
theorem dX12_half_31 : decode cX12_half 31 = .ok (.iload_n 3, 1) := by decide +kernel
theorem dX12_half_32 : decode cX12_half 32 = .ok (.invokevirtual 265, 3) := by decide +kernel
theorem dX12_half_35 : decode cX12_half 35 = .ok (.isub, 1) := by decide +kernel
theorem dX12_half_36 : decode cX12_half 36 = .ok (.imul, 1) := by decide +kernel
theorem dX12_half_37 : decode cX12_half 37 = .ok (.bipush 10, 2) := by decide +kernel
theorem dX12_half_39 : decode cX12_half 39 = .ok (.idiv, 1) := by decide +kernel
theorem dX12_half_40 : decode cX12_half 40 = .ok (.istore_n 1, 1) := by decide +kernel
theorem dX12_half_41 : decode cX12_half 41 = .ok (.iinc 3 1, 3) := by decide +kernel
theorem dX12_half_44 : decode cX12_half 44 = .ok (.goto (-25), 3) := by decide +kernel
theorem dX12_half_47 : decode cX12_half 47 = .ok (.iload_n 1, 1) := by decide +kernel
theorem dX12_half_48 : decode cX12_half 48 = .ok (.sipush 5000, 3) := by decide +kernel
theorem dX12_half_51 : decode cX12_half 51 = .ok (.if_icmp .ge 5, 3) := by decide +kernel
theorem dX12_half_54 : decode cX12_half 54 = .ok (.iload_n 2, 1) := by decide +kernel
theorem dX12_half_55 : decode cX12_half 55 = .ok (.ireturn, 1) := by decide +kernel
theorem dX12_half_56 : decode cX12_half 56 = .ok (.iinc 2 1, 3) := by decide +kernel
theorem dX12_half_59 : decode cX12_half 59 = .ok (.goto (-48), 3) := by decide +kernel
theorem dX12_half_62 : decode cX12_half 62 = .ok (.bipush (-9), 2) := by decide +kernel
theorem dX12_half_64 : decode cX12_half 64 = .ok (.ireturn, 1) := by decide +kernel
abbrev Pl_M_half_11 (G : am_G) : ((Int32 × Int32 × am_St) ⊕ (Int32 × am_St)) → am_AQ → Prop := am_PL G M_M_half 11 (fun s : Int32 × Int32 × am_St => [(2, .int s.2.1), (1, .int s.1), (0, .ref 66)]) (fun s => s.2.2) am_Pi
abbrev Pl_M_half_19 (G : am_G) : ((Int32 × Int32 × Int32 × am_St) ⊕ ((Int32 × Int32 × am_St) ⊕ (Int32 × am_St))) → am_AQ → Prop := am_PL G M_M_half 19 (fun s : Int32 × Int32 × Int32 × am_St => [(3, .int s.2.2.1), (2, .int s.2.1), (1, .int s.1), (0, .ref 66)]) (fun s => s.2.2.2) (Pl_M_half_11 G)
noncomputable def b_M_half_19 (x1 : Int32) (x2 : Int32) (x3 : Int32) (σ : am_St) : Option ((Int32 × Int32 × Int32 × am_St) ⊕ ((Int32 × Int32 × am_St) ⊕ (Int32 × am_St))) :=
  if (σ.1 66 2) ≤ x3 then
    if 5000 ≤ x1 then
      let v1 := x2 + 1
      some (.inr (.inl (x1, v1, σ)))
    else
      some (.inr (.inr ((x2, σ))))
  else
    (f_M_slipsOf x3 σ).bind (fun p2 =>
      let v3 := (x1 * (10 - p2.1)) / 10
      let v4 := x3 + 1
      some (.inl (v3, x2, v4, p2.2)))
noncomputable def f_M_half_19 (x1 : Int32) (x2 : Int32) (x3 : Int32) (σ : am_St) : Option ((Int32 × Int32 × am_St) ⊕ (Int32 × am_St)) := am_lp (fun s : Int32 × Int32 × Int32 × am_St => b_M_half_19 s.1 s.2.1 s.2.2.1 s.2.2.2) (x1, x2, x3, σ)
set_option maxRecDepth 100000 in
set_option maxHeartbeats 4000000 in
theorem sb_M_half_19 (G : am_G) (x1 : Int32) (x2 : Int32) (x3 : Int32) (σ : am_St) (r : (Int32 × Int32 × Int32 × am_St) ⊕ ((Int32 × Int32 × am_St) ⊕ (Int32 × am_St))) (Q : am_AQ) (e : b_M_half_19 x1 x2 x3 σ = some r) (hr : Pl_M_half_19 G r Q) : am_AW G M_M_half 19 [(3, .int x3), (2, .int x2), (1, .int x1), (0, .ref 66)] [] σ Q :=
  (show am_Snd G M_M_half 19 (Pl_M_half_19 G) _ from (sn_iload_n (pc := 19) (i := 3) dX12_half_19 rfl (sn_aload_n (pc := 20) (i := 0) dX12_half_20 rfl (sn_gI (pc := 21) (h := 66) (f := 2) dX12_half_21 am_CL_11 sh_66 rfl (Nat.le_of_ble_eq_true rfl) tw_943 (sn_icmp_ge (pc := 24) (tgt := 47) dX12_half_24 rfl (sn_iload_n (pc := 47) (i := 1) dX12_half_47 rfl (sn_sipush (pc := 48) (v := 5000) dX12_half_48 rfl (sn_icmp_ge (pc := 51) (tgt := 56) dX12_half_51 rfl (sn_iinc (pc := 56) (v := 1) dX12_half_56 rfl (Nat.le_of_ble_eq_true rfl) (sn_goto (pc := 59) (tgt := 11) dX12_half_59 rfl (sn_lf (pc := 11) (ln_a (i := 0) (q := 66) (ln_i (i := 1) (fun z0 => (ln_i (i := 2) (fun z1 => (ln_end (o := fun τ => (some (.inr (.inl (z0, z1, τ))) : Option ((Int32 × Int32 × Int32 × am_St) ⊕ ((Int32 × Int32 × am_St) ⊕ (Int32 × am_St))))) (fun _ _ _ e h => by cases e; exact h)))))))))) (sn_iload_n (pc := 54) (i := 2) dX12_half_54 rfl (sn_reti (pc := 55) (R := fun x τ => (some (.inr (.inr ((x, τ)))) : Option ((Int32 × Int32 × Int32 × am_St) ⊕ ((Int32 × Int32 × am_St) ⊕ (Int32 × am_St))))) dX12_half_55 rfl (fun _ _ _ _ e h => by cases e; exact h)))))) (sn_iload_n (pc := 27) (i := 1) dX12_half_27 rfl (sn_bipush (pc := 28) (v := 10) dX12_half_28 rfl (sn_aload_n (pc := 30) (i := 0) dX12_half_30 rfl (sn_iload_n (pc := 31) (i := 3) dX12_half_31 rfl (sn_callV (pc := 32) (N := M_M_slipsOf) dX12_half_32 (cal_M_slipsOf G) sh_66 rfl tw_1214 tw_1216 tp_47 tw_12 tw_1217 dsc_X12_slipsOf rfl (sn_isub (pc := 35) dX12_half_35 (sn_imul (pc := 36) dX12_half_36 (sn_bipush (pc := 37) (v := 10) dX12_half_37 rfl (sn_idiv (pc := 39) dX12_half_39 (sn_istore_n (pc := 40) (i := 1) dX12_half_40 rfl (Nat.le_of_ble_eq_true rfl) (sn_iinc (pc := 41) (v := 1) dX12_half_41 rfl (Nat.le_of_ble_eq_true rfl) (sn_goto (pc := 44) (tgt := 19) dX12_half_44 rfl (sn_lf (pc := 19) (ln_a (i := 0) (q := 66) (ln_i (i := 1) (fun z0 => (ln_i (i := 2) (fun z1 => (ln_i (i := 3) (fun z2 => (ln_end (o := fun τ => (some (.inl (z0, z1, z2, τ)) : Option ((Int32 × Int32 × Int32 × am_St) ⊕ ((Int32 × Int32 × am_St) ⊕ (Int32 × am_St))))) (fun _ _ _ e h => by cases e; exact h))))))))))))))))))))))))))) _ _ _ _ _ e hr
theorem s_M_half_19 (G : am_G) (x1 : Int32) (x2 : Int32) (x3 : Int32) (σ : am_St) (r : (Int32 × Int32 × am_St) ⊕ (Int32 × am_St)) (Q : am_AQ) (e : f_M_half_19 x1 x2 x3 σ = some r) (hr : (Pl_M_half_11 G) r Q) : am_AW G M_M_half 19 [(3, .int x3), (2, .int x2), (1, .int x1), (0, .ref 66)] [] σ Q :=
  am_loop (P := (Pl_M_half_11 G)) (L := fun s : Int32 × Int32 × Int32 × am_St => [(3, .int s.2.2.1), (2, .int s.2.1), (1, .int s.1), (0, .ref 66)]) (g := fun s => s.2.2.2) (fun s o Q e hr => sb_M_half_19 G s.1 s.2.1 s.2.2.1 s.2.2.2 o Q e hr) (x1, x2, x3, σ) r Q e hr
noncomputable def b_M_half_11 (x1 : Int32) (x2 : Int32) (σ : am_St) : Option ((Int32 × Int32 × am_St) ⊕ (Int32 × am_St)) :=
  if 100 ≤ x2 then
    some (.inr (((-9), σ)))
  else
    f_M_half_19 x1 x2 0 σ
noncomputable def f_M_half_11 (x1 : Int32) (x2 : Int32) (σ : am_St) : Option (Int32 × am_St) := am_lp (fun s : Int32 × Int32 × am_St => b_M_half_11 s.1 s.2.1 s.2.2) (x1, x2, σ)
set_option maxRecDepth 100000 in
set_option maxHeartbeats 4000000 in
theorem sb_M_half_11 (G : am_G) (x1 : Int32) (x2 : Int32) (σ : am_St) (r : (Int32 × Int32 × am_St) ⊕ (Int32 × am_St)) (Q : am_AQ) (e : b_M_half_11 x1 x2 σ = some r) (hr : Pl_M_half_11 G r Q) : am_AW G M_M_half 11 [(2, .int x2), (1, .int x1), (0, .ref 66)] [] σ Q :=
  (show am_Snd G M_M_half 11 (Pl_M_half_11 G) _ from (sn_iload_n (pc := 11) (i := 2) dX12_half_11 rfl (sn_bipush (pc := 12) (v := 100) dX12_half_12 rfl (sn_icmp_ge (pc := 14) (tgt := 62) dX12_half_14 rfl (sn_bipush (pc := 62) (v := (-9)) dX12_half_62 (show (Int8.ofInt (-9)).toInt32 = (-9) by decide) (sn_reti (pc := 64) (R := fun x τ => (some (.inr ((x, τ))) : Option ((Int32 × Int32 × am_St) ⊕ (Int32 × am_St)))) dX12_half_64 rfl (fun _ _ _ _ e h => by cases e; exact h))) (sn_iconst (pc := 17) (v := 0) dX12_half_17 rfl (sn_istore_n (pc := 18) (i := 3) dX12_half_18 rfl (Nat.le_of_ble_eq_true rfl) (sn_lf (pc := 19) (ln_a (i := 0) (q := 66) (ln_i (i := 1) (fun z0 => (ln_i (i := 2) (fun z1 => (ln_i (i := 3) (fun z2 => (ln_end (o := fun τ => f_M_half_19 z0 z1 z2 τ) (fun _ _ _ e h => s_M_half_19 G z0 z1 z2 _ _ _ e h)))))))))))))))) _ _ _ _ _ e hr
theorem s_M_half_11 (G : am_G) (x1 : Int32) (x2 : Int32) (σ : am_St) (r : Int32 × am_St) (Q : am_AQ) (e : f_M_half_11 x1 x2 σ = some r) (hr : am_Pi r Q) : am_AW G M_M_half 11 [(2, .int x2), (1, .int x1), (0, .ref 66)] [] σ Q :=
  am_loop (P := am_Pi) (L := fun s : Int32 × Int32 × am_St => [(2, .int s.2.1), (1, .int s.1), (0, .ref 66)]) (g := fun s => s.2.2) (fun s o Q e hr => sb_M_half_11 G s.1 s.2.1 s.2.2 o Q e hr) (x1, x2, σ) r Q e hr
noncomputable def g_M_half (σ : am_St) : Option (Int32 × am_St) :=
  let s1 := am_sI σ 66 22 0
  f_M_half_11 10000 1 s1
noncomputable def f_M_half (σ : am_St) : Option (Int32 × am_St) := am_lk (g_M_half  σ)
theorem eq_M_half (σ : am_St) : f_M_half  σ = g_M_half  σ := am_lk_eq _
set_option maxRecDepth 100000 in
set_option maxHeartbeats 4000000 in
theorem s_M_half (G : am_G) (σ : am_St) (r : Int32 × am_St) (Q : am_AQ) (e : f_M_half  σ = some r) (hr : am_Pi r Q) : am_AW G M_M_half 0 [(0, .ref 66)] [] σ Q :=
  (show am_Snd G M_M_half 0 am_Pi _ from (sn_aload_n (pc := 0) (i := 0) dX12_half_0 rfl (sn_iconst (pc := 1) (v := 0) dX12_half_1 rfl (sn_pI (pc := 2) (h := 66) (f := 22) dX12_half_2 am_CL_11 sh_66 rfl (Nat.le_of_ble_eq_true rfl) tw_963 rfl rfl (sn_sipush (pc := 5) (v := 10000) dX12_half_5 rfl (sn_istore_n (pc := 8) (i := 1) dX12_half_8 rfl (Nat.le_of_ble_eq_true rfl) (sn_iconst (pc := 9) (v := 1) dX12_half_9 rfl (sn_istore_n (pc := 10) (i := 2) dX12_half_10 rfl (Nat.le_of_ble_eq_true rfl) (sn_lf (pc := 11) (ln_a (i := 0) (q := 66) (ln_i (i := 1) (fun z0 => (ln_i (i := 2) (fun z1 => (ln_end (o := fun τ => f_M_half_11 z0 z1 τ) (fun _ _ _ e h => s_M_half_11 G z0 z1 _ _ _ e h)))))))))))))))) _ _ _ _ _ ((eq_M_half  σ).symm.trans e) hr
noncomputable def cF_M_half : am_Fn := fun _ args σ K => match args with
  | [.ref q0] => match Nat.beq q0 66 with
    | true => (f_M_half σ).bind (fun p => K (some (.int p.1)) p.2)
    | _ => none
  | _ => none
theorem cal_M_half (G : am_G) : am_Cal G M_M_half cF_M_half := by
  intro ρ args σ K r e
  unfold cF_M_half at e
  split at e
  · split at e
    · rename_i hq0
      obtain ⟨p, h1, h2⟩ := am_bind_some e
      rw [Nat.eq_of_beq_eq_true hq0]
      exact ⟨some (.int p.1), p.2, am_Met.of rfl (Nat.le_of_ble_eq_true rfl) (s_M_half G  σ p _ h1 ⟨rfl, rfl⟩), h2⟩
    · cases e
  · cases e
abbrev M_M_owningCosts : am_MD := (yX12_owningCosts, cX12_owningCosts, 2, (some .int), 0, 0)
theorem dX12_owningCosts_0 : decode cX12_owningCosts 0 = .ok (.iload_n 0, 1) := by decide +kernel
theorem dX12_owningCosts_1 : decode cX12_owningCosts 1 = .ok (.ifCond .ne 9, 3) := by decide +kernel
theorem dX12_owningCosts_4 : decode cX12_owningCosts 4 = .ok (.iload_n 1, 1) := by decide +kernel
theorem dX12_owningCosts_5 : decode cX12_owningCosts 5 = .ok (.iconst 2, 1) := by decide +kernel
theorem dX12_owningCosts_6 : decode cX12_owningCosts 6 = .ok (.idiv, 1) := by decide +kernel
theorem dX12_owningCosts_7 : decode cX12_owningCosts 7 = .ok (.goto 13, 3) := by decide +kernel
theorem dX12_owningCosts_10 : decode cX12_owningCosts 10 = .ok (.iload_n 0, 1) := by decide +kernel
theorem dX12_owningCosts_11 : decode cX12_owningCosts 11 = .ok (.iconst 3, 1) := by decide +kernel
theorem dX12_owningCosts_12 : decode cX12_owningCosts 12 = .ok (.if_icmp .ne 7, 3) := by decide +kernel
theorem dX12_owningCosts_15 : decode cX12_owningCosts 15 = .ok (.iconst 0, 1) := by decide +kernel
theorem dX12_owningCosts_16 : decode cX12_owningCosts 16 = .ok (.goto 4, 3) := by decide +kernel
theorem dX12_owningCosts_19 : decode cX12_owningCosts 19 = .ok (.iload_n 1, 1) := by decide +kernel
theorem dX12_owningCosts_20 : decode cX12_owningCosts 20 = .ok (.ireturn, 1) := by decide +kernel
noncomputable def g_M_owningCosts (x0 : Int32) (x1 : Int32) (σ : am_St) : Option (Int32 × am_St) :=
  if x0 = 0 then
    some ((x1 / 2, σ))
  else
    if x0 = 3 then
      some ((0, σ))
    else
      some ((x1, σ))
noncomputable def f_M_owningCosts (x0 : Int32) (x1 : Int32) (σ : am_St) : Option (Int32 × am_St) := am_lk (g_M_owningCosts x0 x1 σ)
theorem eq_M_owningCosts (x0 : Int32) (x1 : Int32) (σ : am_St) : f_M_owningCosts x0 x1 σ = g_M_owningCosts x0 x1 σ := am_lk_eq _
set_option maxRecDepth 100000 in
set_option maxHeartbeats 4000000 in
theorem s_M_owningCosts (G : am_G) (x0 : Int32) (x1 : Int32) (σ : am_St) (r : Int32 × am_St) (Q : am_AQ) (e : f_M_owningCosts x0 x1 σ = some r) (hr : am_Pi r Q) : am_AW G M_M_owningCosts 0 [(0, .int x0), (1, .int x1)] [] σ Q :=
  (show am_Snd G M_M_owningCosts 0 am_Pi _ from (sn_iload_n (pc := 0) (i := 0) dX12_owningCosts_0 rfl (sn_if_ne (pc := 1) (tgt := 10) dX12_owningCosts_1 rfl (sn_iload_n (pc := 10) (i := 0) dX12_owningCosts_10 rfl (sn_iconst (pc := 11) (v := 3) dX12_owningCosts_11 rfl (sn_icmp_ne (pc := 12) (tgt := 19) dX12_owningCosts_12 rfl (sn_iload_n (pc := 19) (i := 1) dX12_owningCosts_19 rfl (sn_reti (pc := 20) (R := fun x τ => (some ((x, τ)))) dX12_owningCosts_20 rfl (fun _ _ _ _ e h => by cases e; exact h))) (sn_iconst (pc := 15) (v := 0) dX12_owningCosts_15 rfl (sn_goto (pc := 16) (tgt := 20) dX12_owningCosts_16 rfl (sn_reti (pc := 20) (R := fun x τ => (some ((x, τ)))) dX12_owningCosts_20 rfl (fun _ _ _ _ e h => by cases e; exact h))))))) (sn_iload_n (pc := 4) (i := 1) dX12_owningCosts_4 rfl (sn_iconst (pc := 5) (v := 2) dX12_owningCosts_5 rfl (sn_idiv (pc := 6) dX12_owningCosts_6 (sn_goto (pc := 7) (tgt := 20) dX12_owningCosts_7 rfl (sn_reti (pc := 20) (R := fun x τ => (some ((x, τ)))) dX12_owningCosts_20 rfl (fun _ _ _ _ e h => by cases e; exact h))))))))) _ _ _ _ _ ((eq_M_owningCosts x0 x1 σ).symm.trans e) hr
noncomputable def cF_M_owningCosts : am_Fn := fun _ args σ K => match args with
  | [.int z0, .int z1] => (f_M_owningCosts z0 z1 σ).bind (fun p => K (some (.int p.1)) p.2)
  | _ => none
theorem cal_M_owningCosts (G : am_G) : am_Cal G M_M_owningCosts cF_M_owningCosts := by
  intro ρ args σ K r e
  unfold cF_M_owningCosts at e
  split at e
  · obtain ⟨p, h1, h2⟩ := am_bind_some e
    exact ⟨some (.int p.1), p.2, am_Met.of rfl (Nat.le_of_ble_eq_true rfl) (s_M_owningCosts G _ _ σ p _ h1 ⟨rfl, rfl⟩), h2⟩
  · cases e
abbrev M_M_isNamed : am_MD := (yX12_isNamed, cX12_isNamed, 4, (some .boolean), 4, 92)
theorem dX12_isNamed_0 : decode cX12_isNamed 0 = .ok (.iconst 0, 1) := by decide +kernel
theorem dX12_isNamed_1 : decode cX12_isNamed 1 = .ok (.istore_n 2, 1) := by decide +kernel
theorem dX12_isNamed_2 : decode cX12_isNamed 2 = .ok (.iconst 0, 1) := by decide +kernel
theorem dX12_isNamed_3 : decode cX12_isNamed 3 = .ok (.istore_n 3, 1) := by decide +kernel
theorem dX12_isNamed_4 : decode cX12_isNamed 4 = .ok (.iload_n 3, 1) := by decide +kernel
theorem dX12_isNamed_5 : decode cX12_isNamed 5 = .ok (.aload_n 0, 1) := by decide +kernel
theorem dX12_isNamed_6 : decode cX12_isNamed 6 = .ok (.getfield 105, 3) := by decide +kernel
theorem dX12_isNamed_9 : decode cX12_isNamed 9 = .ok (.if_icmp .ge 41, 3) := by decide +kernel
theorem dX12_isNamed_12 : decode cX12_isNamed 12 = .ok (.iload_n 2, 1) := by decide +kernel
theorem dX12_isNamed_13 : decode cX12_isNamed 13 = .ok (.ifCond .ne 25, 3) := by decide +kernel
theorem dX12_isNamed_16 : decode cX12_isNamed 16 = .ok (.iload_n 3, 1) := by decide +kernel
theorem dX12_isNamed_17 : decode cX12_isNamed 17 = .ok (.iload_n 1, 1) := by decide +kernel
theorem dX12_isNamed_18 : decode cX12_isNamed 18 = .ok (.if_icmp .eq 24, 3) := by decide +kernel
theorem dX12_isNamed_21 : decode cX12_isNamed 21 = .ok (.aload_n 0, 1) := by decide +kernel
theorem dX12_isNamed_22 : decode cX12_isNamed 22 = .ok (.iload_n 3, 1) := by decide +kernel
theorem dX12_isNamed_23 : decode cX12_isNamed 23 = .ok (.iload_n 1, 1) := by decide +kernel
theorem dX12_isNamed_24 : decode cX12_isNamed 24 = .ok (.aload_n 0, 1) := by decide +kernel
theorem dX12_isNamed_25 : decode cX12_isNamed 25 = .ok (.getfield 127, 3) := by decide +kernel
theorem dX12_isNamed_28 : decode cX12_isNamed 28 = .ok (.invokevirtual 317, 3) := by decide +kernel
theorem dX12_isNamed_31 : decode cX12_isNamed 31 = .ok (.aload_n 0, 1) := by decide +kernel
theorem dX12_isNamed_32 : decode cX12_isNamed 32 = .ok (.getfield 130, 3) := by decide +kernel
theorem dX12_isNamed_35 : decode cX12_isNamed 35 = .ok (.if_icmp .ne 7, 3) := by decide +kernel
theorem dX12_isNamed_38 : decode cX12_isNamed 38 = .ok (.iconst 1, 1) := by decide +kernel
theorem dX12_isNamed_39 : decode cX12_isNamed 39 = .ok (.goto 4, 3) := by decide +kernel
theorem dX12_isNamed_42 : decode cX12_isNamed 42 = .ok (.iconst 0, 1) := by decide +kernel
theorem dX12_isNamed_43 : decode cX12_isNamed 43 = .ok (.istore_n 2, 1) := by decide +kernel
theorem dX12_isNamed_44 : decode cX12_isNamed 44 = .ok (.iinc 3 1, 3) := by decide +kernel
theorem dX12_isNamed_47 : decode cX12_isNamed 47 = .ok (.goto (-43), 3) := by decide +kernel
theorem dX12_isNamed_50 : decode cX12_isNamed 50 = .ok (.iload_n 2, 1) := by decide +kernel
theorem dX12_isNamed_51 : decode cX12_isNamed 51 = .ok (.ireturn, 1) := by decide +kernel
abbrev Pl_M_isNamed_4 (G : am_G) : ((Int32 × Int32 × Int32 × am_St) ⊕ (Int32 × am_St)) → am_AQ → Prop := am_PL G M_M_isNamed 4 (fun s : Int32 × Int32 × Int32 × am_St => [(3, .int s.2.2.1), (2, .int s.2.1), (1, .int s.1), (0, .ref 66)]) (fun s => s.2.2.2) am_Pi
noncomputable def g_M_isNamed_43 (x1 : Int32) (x3 : Int32) (y0 : Int32) (σ : am_St) : Option ((Int32 × Int32 × Int32 × am_St) ⊕ (Int32 × am_St)) :=
  let v1 := x3 + 1
  some (.inl (x1, y0, v1, σ))
noncomputable def f_M_isNamed_43 (x1 : Int32) (x3 : Int32) (y0 : Int32) (σ : am_St) : Option ((Int32 × Int32 × Int32 × am_St) ⊕ (Int32 × am_St)) := am_lk (g_M_isNamed_43 x1 x3 y0 σ)
theorem eq_M_isNamed_43 (x1 : Int32) (x3 : Int32) (y0 : Int32) (σ : am_St) : f_M_isNamed_43 x1 x3 y0 σ = g_M_isNamed_43 x1 x3 y0 σ := am_lk_eq _
set_option maxRecDepth 100000 in
set_option maxHeartbeats 4000000 in
theorem s_M_isNamed_43 (G : am_G) (x1 : Int32) (x3 : Int32) (y0 : Int32) (σ : am_St) (r : (Int32 × Int32 × Int32 × am_St) ⊕ (Int32 × am_St)) (Q : am_AQ) (e : f_M_isNamed_43 x1 x3 y0 σ = some r) (hr : (Pl_M_isNamed_4 G) r Q) : am_AW G M_M_isNamed 43 [(3, .int x3), (1, .int x1), (0, .ref 66)] [.int y0] σ Q :=
  (show am_Snd G M_M_isNamed 43 (Pl_M_isNamed_4 G) _ from (sn_istore_n (pc := 43) (i := 2) dX12_isNamed_43 rfl (Nat.le_of_ble_eq_true rfl) (sn_iinc (pc := 44) (v := 1) dX12_isNamed_44 rfl (Nat.le_of_ble_eq_true rfl) (sn_goto (pc := 47) (tgt := 4) dX12_isNamed_47 rfl (sn_lf (pc := 4) (ln_a (i := 0) (q := 66) (ln_i (i := 1) (fun z0 => (ln_i (i := 2) (fun z1 => (ln_i (i := 3) (fun z2 => (ln_end (o := fun τ => (some (.inl (z0, z1, z2, τ)) : Option ((Int32 × Int32 × Int32 × am_St) ⊕ (Int32 × am_St)))) (fun _ _ _ e h => by cases e; exact h)))))))))))))) _ _ _ _ _ ((eq_M_isNamed_43 x1 x3 y0 σ).symm.trans e) hr
noncomputable def g_M_isNamed_38 (x1 : Int32) (x3 : Int32) (σ : am_St) : Option ((Int32 × Int32 × Int32 × am_St) ⊕ (Int32 × am_St)) :=
  f_M_isNamed_43 x1 x3 1 σ
noncomputable def f_M_isNamed_38 (x1 : Int32) (x3 : Int32) (σ : am_St) : Option ((Int32 × Int32 × Int32 × am_St) ⊕ (Int32 × am_St)) := am_lk (g_M_isNamed_38 x1 x3 σ)
theorem eq_M_isNamed_38 (x1 : Int32) (x3 : Int32) (σ : am_St) : f_M_isNamed_38 x1 x3 σ = g_M_isNamed_38 x1 x3 σ := am_lk_eq _
set_option maxRecDepth 100000 in
set_option maxHeartbeats 4000000 in
theorem s_M_isNamed_38 (G : am_G) (x1 : Int32) (x3 : Int32) (σ : am_St) (r : (Int32 × Int32 × Int32 × am_St) ⊕ (Int32 × am_St)) (Q : am_AQ) (e : f_M_isNamed_38 x1 x3 σ = some r) (hr : (Pl_M_isNamed_4 G) r Q) : am_AW G M_M_isNamed 38 [(3, .int x3), (1, .int x1), (0, .ref 66)] [] σ Q :=
  (show am_Snd G M_M_isNamed 38 (Pl_M_isNamed_4 G) _ from (sn_iconst (pc := 38) (v := 1) dX12_isNamed_38 rfl (sn_goto (pc := 39) (tgt := 43) dX12_isNamed_39 rfl (sn_lf (pc := 43) (ln_a (i := 0) (q := 66) (ln_i (i := 1) (fun z0 => (ln_i (i := 3) (fun z1 => (ln_si (fun w0 => (ln_end (o := fun τ => f_M_isNamed_43 z0 z1 w0 τ) (fun _ _ _ e h => s_M_isNamed_43 G z0 z1 w0 _ _ _ e h))))))))))))) _ _ _ _ _ ((eq_M_isNamed_38 x1 x3 σ).symm.trans e) hr
noncomputable def g_M_isNamed_42 (x1 : Int32) (x3 : Int32) (σ : am_St) : Option ((Int32 × Int32 × Int32 × am_St) ⊕ (Int32 × am_St)) :=
  f_M_isNamed_43 x1 x3 0 σ
noncomputable def f_M_isNamed_42 (x1 : Int32) (x3 : Int32) (σ : am_St) : Option ((Int32 × Int32 × Int32 × am_St) ⊕ (Int32 × am_St)) := am_lk (g_M_isNamed_42 x1 x3 σ)
theorem eq_M_isNamed_42 (x1 : Int32) (x3 : Int32) (σ : am_St) : f_M_isNamed_42 x1 x3 σ = g_M_isNamed_42 x1 x3 σ := am_lk_eq _
set_option maxRecDepth 100000 in
set_option maxHeartbeats 4000000 in
theorem s_M_isNamed_42 (G : am_G) (x1 : Int32) (x3 : Int32) (σ : am_St) (r : (Int32 × Int32 × Int32 × am_St) ⊕ (Int32 × am_St)) (Q : am_AQ) (e : f_M_isNamed_42 x1 x3 σ = some r) (hr : (Pl_M_isNamed_4 G) r Q) : am_AW G M_M_isNamed 42 [(3, .int x3), (1, .int x1), (0, .ref 66)] [] σ Q :=
  (show am_Snd G M_M_isNamed 42 (Pl_M_isNamed_4 G) _ from (sn_iconst (pc := 42) (v := 0) dX12_isNamed_42 rfl (sn_lf (pc := 43) (ln_a (i := 0) (q := 66) (ln_i (i := 1) (fun z0 => (ln_i (i := 3) (fun z1 => (ln_si (fun w0 => (ln_end (o := fun τ => f_M_isNamed_43 z0 z1 w0 τ) (fun _ _ _ e h => s_M_isNamed_43 G z0 z1 w0 _ _ _ e h)))))))))))) _ _ _ _ _ ((eq_M_isNamed_42 x1 x3 σ).symm.trans e) hr
noncomputable def b_M_isNamed_4 (x1 : Int32) (x2 : Int32) (x3 : Int32) (σ : am_St) : Option ((Int32 × Int32 × Int32 × am_St) ⊕ (Int32 × am_St)) :=
  if (σ.1 66 2) ≤ x3 then
    if x2 &&& 1 = x2 then some (.inr ((x2, σ))) else none
  else
    if x2 = 0 then
      if x3 = x1 then
        f_M_isNamed_42 x1 x3 σ
      else
        (f_M_saysOf x3 x1 (σ.1 66 6) σ).bind (fun p1 =>
          if p1.1 = (p1.2.1 66 5) then
            f_M_isNamed_38 x1 x3 p1.2
          else
            f_M_isNamed_42 x1 x3 p1.2)
    else
      f_M_isNamed_38 x1 x3 σ
noncomputable def f_M_isNamed_4 (x1 : Int32) (x2 : Int32) (x3 : Int32) (σ : am_St) : Option (Int32 × am_St) := am_lp (fun s : Int32 × Int32 × Int32 × am_St => b_M_isNamed_4 s.1 s.2.1 s.2.2.1 s.2.2.2) (x1, x2, x3, σ)
set_option maxRecDepth 100000 in
set_option maxHeartbeats 4000000 in
theorem sb_M_isNamed_4 (G : am_G) (x1 : Int32) (x2 : Int32) (x3 : Int32) (σ : am_St) (r : (Int32 × Int32 × Int32 × am_St) ⊕ (Int32 × am_St)) (Q : am_AQ) (e : b_M_isNamed_4 x1 x2 x3 σ = some r) (hr : Pl_M_isNamed_4 G r Q) : am_AW G M_M_isNamed 4 [(3, .int x3), (2, .int x2), (1, .int x1), (0, .ref 66)] [] σ Q :=
  (show am_Snd G M_M_isNamed 4 (Pl_M_isNamed_4 G) _ from (sn_iload_n (pc := 4) (i := 3) dX12_isNamed_4 rfl (sn_aload_n (pc := 5) (i := 0) dX12_isNamed_5 rfl (sn_gI (pc := 6) (h := 66) (f := 2) dX12_isNamed_6 am_CL_11 sh_66 rfl (Nat.le_of_ble_eq_true rfl) tw_943 (sn_icmp_ge (pc := 9) (tgt := 50) dX12_isNamed_9 rfl (sn_iload_n (pc := 50) (i := 2) dX12_isNamed_50 rfl (sn_retz (pc := 51) (R := fun x τ => (some (.inr ((x, τ))) : Option ((Int32 × Int32 × Int32 × am_St) ⊕ (Int32 × am_St)))) dX12_isNamed_51 rfl (fun _ _ _ _ e h => by cases e; exact h))) (sn_iload_n (pc := 12) (i := 2) dX12_isNamed_12 rfl (sn_if_ne (pc := 13) (tgt := 38) dX12_isNamed_13 rfl (sn_lf (pc := 38) (ln_a (i := 0) (q := 66) (ln_i (i := 1) (fun z0 => (ln_i (i := 3) (fun z1 => (ln_end (o := fun τ => f_M_isNamed_38 z0 z1 τ) (fun _ _ _ e h => s_M_isNamed_38 G z0 z1 _ _ _ e h)))))))) (sn_iload_n (pc := 16) (i := 3) dX12_isNamed_16 rfl (sn_iload_n (pc := 17) (i := 1) dX12_isNamed_17 rfl (sn_icmp_eq (pc := 18) (tgt := 42) dX12_isNamed_18 rfl (sn_lf (pc := 42) (ln_a (i := 0) (q := 66) (ln_i (i := 1) (fun z0 => (ln_i (i := 3) (fun z1 => (ln_end (o := fun τ => f_M_isNamed_42 z0 z1 τ) (fun _ _ _ e h => s_M_isNamed_42 G z0 z1 _ _ _ e h)))))))) (sn_aload_n (pc := 21) (i := 0) dX12_isNamed_21 rfl (sn_iload_n (pc := 22) (i := 3) dX12_isNamed_22 rfl (sn_iload_n (pc := 23) (i := 1) dX12_isNamed_23 rfl (sn_aload_n (pc := 24) (i := 0) dX12_isNamed_24 rfl (sn_gI (pc := 25) (h := 66) (f := 6) dX12_isNamed_25 am_CL_11 sh_66 rfl (Nat.le_of_ble_eq_true rfl) tw_947 (sn_callV (pc := 28) (N := M_M_saysOf) dX12_isNamed_28 (cal_M_saysOf G) sh_66 rfl tw_1348 tw_1350 tp_60 tw_12 tw_1351 dsc_X12_saysOf rfl (sn_aload_n (pc := 31) (i := 0) dX12_isNamed_31 rfl (sn_gI (pc := 32) (h := 66) (f := 5) dX12_isNamed_32 am_CL_11 sh_66 rfl (Nat.le_of_ble_eq_true rfl) tw_946 (sn_icmp_ne (pc := 35) (tgt := 42) dX12_isNamed_35 rfl (sn_lf (pc := 42) (ln_a (i := 0) (q := 66) (ln_i (i := 1) (fun z0 => (ln_i (i := 3) (fun z1 => (ln_end (o := fun τ => f_M_isNamed_42 z0 z1 τ) (fun _ _ _ e h => s_M_isNamed_42 G z0 z1 _ _ _ e h)))))))) (sn_lf (pc := 38) (ln_a (i := 0) (q := 66) (ln_i (i := 1) (fun z0 => (ln_i (i := 3) (fun z1 => (ln_end (o := fun τ => f_M_isNamed_38 z0 z1 τ) (fun _ _ _ e h => s_M_isNamed_38 G z0 z1 _ _ _ e h))))))))))))))))))))))))))) _ _ _ _ _ e hr
theorem s_M_isNamed_4 (G : am_G) (x1 : Int32) (x2 : Int32) (x3 : Int32) (σ : am_St) (r : Int32 × am_St) (Q : am_AQ) (e : f_M_isNamed_4 x1 x2 x3 σ = some r) (hr : am_Pi r Q) : am_AW G M_M_isNamed 4 [(3, .int x3), (2, .int x2), (1, .int x1), (0, .ref 66)] [] σ Q :=
  am_loop (P := am_Pi) (L := fun s : Int32 × Int32 × Int32 × am_St => [(3, .int s.2.2.1), (2, .int s.2.1), (1, .int s.1), (0, .ref 66)]) (g := fun s => s.2.2.2) (fun s o Q e hr => sb_M_isNamed_4 G s.1 s.2.1 s.2.2.1 s.2.2.2 o Q e hr) (x1, x2, x3, σ) r Q e hr
noncomputable def g_M_isNamed (x1 : Int32) (σ : am_St) : Option (Int32 × am_St) :=
  f_M_isNamed_4 x1 0 0 σ
noncomputable def f_M_isNamed (x1 : Int32) (σ : am_St) : Option (Int32 × am_St) := am_lk (g_M_isNamed x1 σ)
theorem eq_M_isNamed (x1 : Int32) (σ : am_St) : f_M_isNamed x1 σ = g_M_isNamed x1 σ := am_lk_eq _
set_option maxRecDepth 100000 in
set_option maxHeartbeats 4000000 in
theorem s_M_isNamed (G : am_G) (x1 : Int32) (σ : am_St) (r : Int32 × am_St) (Q : am_AQ) (e : f_M_isNamed x1 σ = some r) (hr : am_Pi r Q) : am_AW G M_M_isNamed 0 [(0, .ref 66), (1, .int x1)] [] σ Q :=
  (show am_Snd G M_M_isNamed 0 am_Pi _ from (sn_iconst (pc := 0) (v := 0) dX12_isNamed_0 rfl (sn_istore_n (pc := 1) (i := 2) dX12_isNamed_1 rfl (Nat.le_of_ble_eq_true rfl) (sn_iconst (pc := 2) (v := 0) dX12_isNamed_2 rfl (sn_istore_n (pc := 3) (i := 3) dX12_isNamed_3 rfl (Nat.le_of_ble_eq_true rfl) (sn_lf (pc := 4) (ln_a (i := 0) (q := 66) (ln_i (i := 1) (fun z0 => (ln_i (i := 2) (fun z1 => (ln_i (i := 3) (fun z2 => (ln_end (o := fun τ => f_M_isNamed_4 z0 z1 z2 τ) (fun _ _ _ e h => s_M_isNamed_4 G z0 z1 z2 _ _ _ e h))))))))))))))) _ _ _ _ _ ((eq_M_isNamed x1 σ).symm.trans e) hr
noncomputable def cF_M_isNamed : am_Fn := fun _ args σ K => match args with
  | [.ref q0, .int z1] => match Nat.beq q0 66 with
    | true => (f_M_isNamed z1 σ).bind (fun p => K (some (.int p.1)) p.2)
    | _ => none
  | _ => none
theorem cal_M_isNamed (G : am_G) : am_Cal G M_M_isNamed cF_M_isNamed := by
  intro ρ args σ K r e
  unfold cF_M_isNamed at e
  split at e
  · split at e
    · rename_i hq0
      obtain ⟨p, h1, h2⟩ := am_bind_some e
      rw [Nat.eq_of_beq_eq_true hq0]
      exact ⟨some (.int p.1), p.2, am_Met.of rfl (Nat.le_of_ble_eq_true rfl) (s_M_isNamed G _ σ p _ h1 ⟨rfl, rfl⟩), h2⟩
    · cases e
  · cases e
abbrev M_M_notCosts : am_MD := (yX12_notCosts, cX12_notCosts, 4, (some .int), 5, 115)
theorem dX12_notCosts_0 : decode cX12_notCosts 0 = .ok (.iload_n 2, 1) := by decide +kernel
theorem dX12_notCosts_1 : decode cX12_notCosts 1 = .ok (.iconst 2, 1) := by decide +kernel
theorem dX12_notCosts_2 : decode cX12_notCosts 2 = .ok (.if_icmp .eq 11, 3) := by decide +kernel
theorem dX12_notCosts_5 : decode cX12_notCosts 5 = .ok (.aload_n 0, 1) := by decide +kernel
theorem dX12_notCosts_6 : decode cX12_notCosts 6 = .ok (.iload_n 1, 1) := by decide +kernel
theorem dX12_notCosts_7 : decode cX12_notCosts 7 = .ok (.invokevirtual 328, 3) := by decide +kernel
theorem dX12_notCosts_10 : decode cX12_notCosts 10 = .ok (.ifCond .eq 7, 3) := by decide +kernel
theorem dX12_notCosts_13 : decode cX12_notCosts 13 = .ok (.iload_n 3, 1) := by decide +kernel
theorem dX12_notCosts_14 : decode cX12_notCosts 14 = .ok (.goto 17, 3) := by decide +kernel
theorem dX12_notCosts_17 : decode cX12_notCosts 17 = .ok (.iload_n 2, 1) := by decide +kernel
theorem dX12_notCosts_18 : decode cX12_notCosts 18 = .ok (.ifCond .ne 12, 3) := by decide +kernel
theorem dX12_notCosts_21 : decode cX12_notCosts 21 = .ok (.iload_n 3, 1) := by decide +kernel
theorem dX12_notCosts_22 : decode cX12_notCosts 22 = .ok (.aload_n 0, 1) := by decide +kernel
theorem dX12_notCosts_23 : decode cX12_notCosts 23 = .ok (.getfield 105, 3) := by decide +kernel
theorem dX12_notCosts_26 : decode cX12_notCosts 26 = .ok (.idiv, 1) := by decide +kernel
theorem dX12_notCosts_27 : decode cX12_notCosts 27 = .ok (.goto 4, 3) := by decide +kernel
theorem dX12_notCosts_30 : decode cX12_notCosts 30 = .ok (.iconst 0, 1) := by decide +kernel
theorem dX12_notCosts_31 : decode cX12_notCosts 31 = .ok (.ireturn, 1) := by decide +kernel
noncomputable def g_M_notCosts (x1 : Int32) (x2 : Int32) (x3 : Int32) (σ : am_St) : Option (Int32 × am_St) :=
  if x2 = 2 then
    some ((x3, σ))
  else
    (f_M_isNamed x1 σ).bind (fun p1 =>
      if p1.1 = 0 then
        if x2 = 0 then
          if p1.2.1 66 2 = 0 then none else
            some ((x3 / (p1.2.1 66 2), p1.2))
        else
          some ((0, p1.2))
      else
        some ((x3, p1.2)))
noncomputable def f_M_notCosts (x1 : Int32) (x2 : Int32) (x3 : Int32) (σ : am_St) : Option (Int32 × am_St) := am_lk (g_M_notCosts x1 x2 x3 σ)
theorem eq_M_notCosts (x1 : Int32) (x2 : Int32) (x3 : Int32) (σ : am_St) : f_M_notCosts x1 x2 x3 σ = g_M_notCosts x1 x2 x3 σ := am_lk_eq _
set_option maxRecDepth 100000 in
set_option maxHeartbeats 4000000 in
theorem s_M_notCosts (G : am_G) (x1 : Int32) (x2 : Int32) (x3 : Int32) (σ : am_St) (r : Int32 × am_St) (Q : am_AQ) (e : f_M_notCosts x1 x2 x3 σ = some r) (hr : am_Pi r Q) : am_AW G M_M_notCosts 0 [(0, .ref 66), (1, .int x1), (2, .int x2), (3, .int x3)] [] σ Q :=
  (show am_Snd G M_M_notCosts 0 am_Pi _ from (sn_iload_n (pc := 0) (i := 2) dX12_notCosts_0 rfl (sn_iconst (pc := 1) (v := 2) dX12_notCosts_1 rfl (sn_icmp_eq (pc := 2) (tgt := 13) dX12_notCosts_2 rfl (sn_iload_n (pc := 13) (i := 3) dX12_notCosts_13 rfl (sn_goto (pc := 14) (tgt := 31) dX12_notCosts_14 rfl (sn_reti (pc := 31) (R := fun x τ => (some ((x, τ)))) dX12_notCosts_31 rfl (fun _ _ _ _ e h => by cases e; exact h)))) (sn_aload_n (pc := 5) (i := 0) dX12_notCosts_5 rfl (sn_iload_n (pc := 6) (i := 1) dX12_notCosts_6 rfl (sn_callV (pc := 7) (N := M_M_isNamed) dX12_notCosts_7 (cal_M_isNamed G) sh_66 rfl tw_1396 tw_1398 tp_66 tw_12 tw_1399 dsc_X12_isNamed rfl (sn_if_eq (pc := 10) (tgt := 17) dX12_notCosts_10 rfl (sn_iload_n (pc := 17) (i := 2) dX12_notCosts_17 rfl (sn_if_ne (pc := 18) (tgt := 30) dX12_notCosts_18 rfl (sn_iconst (pc := 30) (v := 0) dX12_notCosts_30 rfl (sn_reti (pc := 31) (R := fun x τ => (some ((x, τ)))) dX12_notCosts_31 rfl (fun _ _ _ _ e h => by cases e; exact h))) (sn_iload_n (pc := 21) (i := 3) dX12_notCosts_21 rfl (sn_aload_n (pc := 22) (i := 0) dX12_notCosts_22 rfl (sn_gI (pc := 23) (h := 66) (f := 2) dX12_notCosts_23 am_CL_11 sh_66 rfl (Nat.le_of_ble_eq_true rfl) tw_943 (sn_idiv (pc := 26) dX12_notCosts_26 (sn_goto (pc := 27) (tgt := 31) dX12_notCosts_27 rfl (sn_reti (pc := 31) (R := fun x τ => (some ((x, τ)))) dX12_notCosts_31 rfl (fun _ _ _ _ e h => by cases e; exact h))))))))) (sn_iload_n (pc := 13) (i := 3) dX12_notCosts_13 rfl (sn_goto (pc := 14) (tgt := 31) dX12_notCosts_14 rfl (sn_reti (pc := 31) (R := fun x τ => (some ((x, τ)))) dX12_notCosts_31 rfl (fun _ _ _ _ e h => by cases e; exact h)))))))))))) _ _ _ _ _ ((eq_M_notCosts x1 x2 x3 σ).symm.trans e) hr
noncomputable def cF_M_notCosts : am_Fn := fun _ args σ K => match args with
  | [.ref q0, .int z1, .int z2, .int z3] => match Nat.beq q0 66 with
    | true => (f_M_notCosts z1 z2 z3 σ).bind (fun p => K (some (.int p.1)) p.2)
    | _ => none
  | _ => none
theorem cal_M_notCosts (G : am_G) : am_Cal G M_M_notCosts cF_M_notCosts := by
  intro ρ args σ K r e
  unfold cF_M_notCosts at e
  split at e
  · split at e
    · rename_i hq0
      obtain ⟨p, h1, h2⟩ := am_bind_some e
      rw [Nat.eq_of_beq_eq_true hq0]
      exact ⟨some (.int p.1), p.2, am_Met.of rfl (Nat.le_of_ble_eq_true rfl) (s_M_notCosts G _ _ _ σ p _ h1 ⟨rfl, rfl⟩), h2⟩
    · cases e
  · cases e
abbrev M_M_ownsUp : am_MD := (yX12_ownsUp, cX12_ownsUp, 4, (some .boolean), 6, 138)
theorem dX12_ownsUp_0 : decode cX12_ownsUp 0 = .ok (.iload_n 2, 1) := by decide +kernel
theorem dX12_ownsUp_1 : decode cX12_ownsUp 1 = .ok (.iload_n 3, 1) := by decide +kernel
theorem dX12_ownsUp_2 : decode cX12_ownsUp 2 = .ok (.invokestatic 331, 3) := by decide +kernel
theorem dX12_ownsUp_5 : decode cX12_ownsUp 5 = .ok (.aload_n 0, 1) := by decide +kernel
theorem dX12_ownsUp_6 : decode cX12_ownsUp 6 = .ok (.iload_n 1, 1) := by decide +kernel
theorem dX12_ownsUp_7 : decode cX12_ownsUp 7 = .ok (.iload_n 2, 1) := by decide +kernel
theorem dX12_ownsUp_8 : decode cX12_ownsUp 8 = .ok (.iload_n 3, 1) := by decide +kernel
theorem dX12_ownsUp_9 : decode cX12_ownsUp 9 = .ok (.invokevirtual 334, 3) := by decide +kernel
theorem dX12_ownsUp_12 : decode cX12_ownsUp 12 = .ok (.if_icmp .gt 7, 3) := by decide +kernel
theorem dX12_ownsUp_15 : decode cX12_ownsUp 15 = .ok (.iconst 1, 1) := by decide +kernel
theorem dX12_ownsUp_16 : decode cX12_ownsUp 16 = .ok (.goto 4, 3) := by decide +kernel
theorem dX12_ownsUp_19 : decode cX12_ownsUp 19 = .ok (.iconst 0, 1) := by decide +kernel
theorem dX12_ownsUp_20 : decode cX12_ownsUp 20 = .ok (.ireturn, 1) := by decide +kernel
noncomputable def g_M_ownsUp (x1 : Int32) (x2 : Int32) (x3 : Int32) (σ : am_St) : Option (Int32 × am_St) :=
  (f_M_owningCosts x2 x3 σ).bind (fun p1 =>
    (f_M_notCosts x1 x2 x3 p1.2).bind (fun p2 =>
      if p2.1 < p1.1 then
        some ((0, p2.2))
      else
        some ((1, p2.2))))
noncomputable def f_M_ownsUp (x1 : Int32) (x2 : Int32) (x3 : Int32) (σ : am_St) : Option (Int32 × am_St) := am_lk (g_M_ownsUp x1 x2 x3 σ)
theorem eq_M_ownsUp (x1 : Int32) (x2 : Int32) (x3 : Int32) (σ : am_St) : f_M_ownsUp x1 x2 x3 σ = g_M_ownsUp x1 x2 x3 σ := am_lk_eq _
set_option maxRecDepth 100000 in
set_option maxHeartbeats 4000000 in
theorem s_M_ownsUp (G : am_G) (x1 : Int32) (x2 : Int32) (x3 : Int32) (σ : am_St) (r : Int32 × am_St) (Q : am_AQ) (e : f_M_ownsUp x1 x2 x3 σ = some r) (hr : am_Pi r Q) : am_AW G M_M_ownsUp 0 [(0, .ref 66), (1, .int x1), (2, .int x2), (3, .int x3)] [] σ Q :=
  (show am_Snd G M_M_ownsUp 0 am_Pi _ from (sn_iload_n (pc := 0) (i := 2) dX12_ownsUp_0 rfl (sn_iload_n (pc := 1) (i := 3) dX12_ownsUp_1 rfl (sn_callS (pc := 2) (N := M_M_owningCosts) dX12_ownsUp_2 (cal_M_owningCosts G) tw_1389 tw_1390 tw_12 tw_1391 dsc_X12_owningCosts rfl (sn_aload_n (pc := 5) (i := 0) dX12_ownsUp_5 rfl (sn_iload_n (pc := 6) (i := 1) dX12_ownsUp_6 rfl (sn_iload_n (pc := 7) (i := 2) dX12_ownsUp_7 rfl (sn_iload_n (pc := 8) (i := 3) dX12_ownsUp_8 rfl (sn_callV (pc := 9) (N := M_M_notCosts) dX12_ownsUp_9 (cal_M_notCosts G) sh_66 rfl tw_1392 tw_1394 tp_65 tw_12 tw_1395 dsc_X12_notCosts rfl (sn_icmp_gt (pc := 12) (tgt := 19) dX12_ownsUp_12 rfl (sn_iconst (pc := 19) (v := 0) dX12_ownsUp_19 rfl (sn_retz (pc := 20) (R := fun x τ => (some ((x, τ)))) dX12_ownsUp_20 rfl (fun _ _ _ _ e h => by cases e; exact h))) (sn_iconst (pc := 15) (v := 1) dX12_ownsUp_15 rfl (sn_goto (pc := 16) (tgt := 20) dX12_ownsUp_16 rfl (sn_retz (pc := 20) (R := fun x τ => (some ((x, τ)))) dX12_ownsUp_20 rfl (fun _ _ _ _ e h => by cases e; exact h)))))))))))))) _ _ _ _ _ ((eq_M_ownsUp x1 x2 x3 σ).symm.trans e) hr
noncomputable def cF_M_ownsUp : am_Fn := fun _ args σ K => match args with
  | [.ref q0, .int z1, .int z2, .int z3] => match Nat.beq q0 66 with
    | true => (f_M_ownsUp z1 z2 z3 σ).bind (fun p => K (some (.int p.1)) p.2)
    | _ => none
  | _ => none
theorem cal_M_ownsUp (G : am_G) : am_Cal G M_M_ownsUp cF_M_ownsUp := by
  intro ρ args σ K r e
  unfold cF_M_ownsUp at e
  split at e
  · split at e
    · rename_i hq0
      obtain ⟨p, h1, h2⟩ := am_bind_some e
      rw [Nat.eq_of_beq_eq_true hq0]
      exact ⟨some (.int p.1), p.2, am_Met.of rfl (Nat.le_of_ble_eq_true rfl) (s_M_ownsUp G _ _ _ σ p _ h1 ⟨rfl, rfl⟩), h2⟩
    · cases e
  · cases e
abbrev M_M_othersPay : am_MD := (yX12_othersPay, cX12_othersPay, 4, (some .int), 7, 161)
theorem dX12_othersPay_0 : decode cX12_othersPay 0 = .ok (.aload_n 0, 1) := by decide +kernel
theorem dX12_othersPay_1 : decode cX12_othersPay 1 = .ok (.iload_n 1, 1) := by decide +kernel
theorem dX12_othersPay_2 : decode cX12_othersPay 2 = .ok (.iload_n 2, 1) := by decide +kernel
theorem dX12_othersPay_3 : decode cX12_othersPay 3 = .ok (.iload_n 3, 1) := by decide +kernel
theorem dX12_othersPay_4 : decode cX12_othersPay 4 = .ok (.invokevirtual 337, 3) := by decide +kernel
theorem dX12_othersPay_7 : decode cX12_othersPay 7 = .ok (.ifCond .eq 5, 3) := by decide +kernel
theorem dX12_othersPay_10 : decode cX12_othersPay 10 = .ok (.iconst 0, 1) := by decide +kernel
theorem dX12_othersPay_11 : decode cX12_othersPay 11 = .ok (.ireturn, 1) := by decide +kernel
theorem dX12_othersPay_12 : decode cX12_othersPay 12 = .ok (.iload_n 2, 1) := by decide +kernel
theorem dX12_othersPay_13 : decode cX12_othersPay 13 = .ok (.iconst 2, 1) := by decide +kernel
theorem dX12_othersPay_14 : decode cX12_othersPay 14 = .ok (.if_icmp .ne 14, 3) := by decide +kernel
theorem dX12_othersPay_17 : decode cX12_othersPay 17 = .ok (.aload_n 0, 1) := by decide +kernel
theorem dX12_othersPay_18 : decode cX12_othersPay 18 = .ok (.getfield 105, 3) := by decide +kernel
theorem dX12_othersPay_21 : decode cX12_othersPay 21 = .ok (.iconst 1, 1) := by decide +kernel
theorem dX12_othersPay_22 : decode cX12_othersPay 22 = .ok (.isub, 1) := by decide +kernel
theorem dX12_othersPay_23 : decode cX12_othersPay 23 = .ok (.iload_n 3, 1) := by decide +kernel
theorem dX12_othersPay_24 : decode cX12_othersPay 24 = .ok (.imul, 1) := by decide +kernel
theorem dX12_othersPay_25 : decode cX12_othersPay 25 = .ok (.goto 32, 3) := by decide +kernel
theorem dX12_othersPay_28 : decode cX12_othersPay 28 = .ok (.iload_n 2, 1) := by decide +kernel
theorem dX12_othersPay_29 : decode cX12_othersPay 29 = .ok (.ifCond .ne 27, 3) := by decide +kernel
theorem dX12_othersPay_32 : decode cX12_othersPay 32 = .ok (.aload_n 0, 1) := by decide +kernel
theorem dX12_othersPay_33 : decode cX12_othersPay 33 = .ok (.iload_n 1, 1) := by decide +kernel
theorem dX12_othersPay_34 : decode cX12_othersPay 34 = .ok (.invokevirtual 328, 3) := by decide +kernel
theorem dX12_othersPay_37 : decode cX12_othersPay 37 = .ok (.ifCond .ne 19, 3) := by decide +kernel
theorem dX12_othersPay_40 : decode cX12_othersPay 40 = .ok (.aload_n 0, 1) := by decide +kernel
theorem dX12_othersPay_41 : decode cX12_othersPay 41 = .ok (.getfield 105, 3) := by decide +kernel
theorem dX12_othersPay_44 : decode cX12_othersPay 44 = .ok (.iconst 1, 1) := by decide +kernel
theorem dX12_othersPay_45 : decode cX12_othersPay 45 = .ok (.isub, 1) := by decide +kernel
theorem dX12_othersPay_46 : decode cX12_othersPay 46 = .ok (.iload_n 3, 1) := by decide +kernel
theorem dX12_othersPay_47 : decode cX12_othersPay 47 = .ok (.aload_n 0, 1) := by decide +kernel
theorem dX12_othersPay_48 : decode cX12_othersPay 48 = .ok (.getfield 105, 3) := by decide +kernel
theorem dX12_othersPay_51 : decode cX12_othersPay 51 = .ok (.idiv, 1) := by decide +kernel
theorem dX12_othersPay_52 : decode cX12_othersPay 52 = .ok (.imul, 1) := by decide +kernel
theorem dX12_othersPay_53 : decode cX12_othersPay 53 = .ok (.goto 4, 3) := by decide +kernel
theorem dX12_othersPay_56 : decode cX12_othersPay 56 = .ok (.iconst 0, 1) := by decide +kernel
theorem dX12_othersPay_57 : decode cX12_othersPay 57 = .ok (.ireturn, 1) := by decide +kernel
noncomputable def g_M_othersPay_40 (x3 : Int32) (σ : am_St) : Option (Int32 × am_St) :=
  if σ.1 66 2 = 0 then none else
    some ((((σ.1 66 2) - 1) * (x3 / (σ.1 66 2)), σ))
noncomputable def f_M_othersPay_40 (x3 : Int32) (σ : am_St) : Option (Int32 × am_St) := am_lk (g_M_othersPay_40 x3 σ)
theorem eq_M_othersPay_40 (x3 : Int32) (σ : am_St) : f_M_othersPay_40 x3 σ = g_M_othersPay_40 x3 σ := am_lk_eq _
set_option maxRecDepth 100000 in
set_option maxHeartbeats 4000000 in
theorem s_M_othersPay_40 (G : am_G) (x3 : Int32) (σ : am_St) (r : Int32 × am_St) (Q : am_AQ) (e : f_M_othersPay_40 x3 σ = some r) (hr : am_Pi r Q) : am_AW G M_M_othersPay 40 [(3, .int x3), (0, .ref 66)] [] σ Q :=
  (show am_Snd G M_M_othersPay 40 am_Pi _ from (sn_aload_n (pc := 40) (i := 0) dX12_othersPay_40 rfl (sn_gI (pc := 41) (h := 66) (f := 2) dX12_othersPay_41 am_CL_11 sh_66 rfl (Nat.le_of_ble_eq_true rfl) tw_943 (sn_iconst (pc := 44) (v := 1) dX12_othersPay_44 rfl (sn_isub (pc := 45) dX12_othersPay_45 (sn_iload_n (pc := 46) (i := 3) dX12_othersPay_46 rfl (sn_aload_n (pc := 47) (i := 0) dX12_othersPay_47 rfl (sn_gI (pc := 48) (h := 66) (f := 2) dX12_othersPay_48 am_CL_11 sh_66 rfl (Nat.le_of_ble_eq_true rfl) tw_943 (sn_idiv (pc := 51) dX12_othersPay_51 (sn_imul (pc := 52) dX12_othersPay_52 (sn_goto (pc := 53) (tgt := 57) dX12_othersPay_53 rfl (sn_reti (pc := 57) (R := fun x τ => (some ((x, τ)))) dX12_othersPay_57 rfl (fun _ _ _ _ e h => by cases e; exact h))))))))))))) _ _ _ _ _ ((eq_M_othersPay_40 x3 σ).symm.trans e) hr
noncomputable def g_M_othersPay (x1 : Int32) (x2 : Int32) (x3 : Int32) (σ : am_St) : Option (Int32 × am_St) :=
  (f_M_ownsUp x1 x2 x3 σ).bind (fun p1 =>
    if p1.1 = 0 then
      if x2 = 2 then
        some ((((p1.2.1 66 2) - 1) * x3, p1.2))
      else
        if x2 = 0 then
          (f_M_isNamed x1 p1.2).bind (fun p2 =>
            if p2.1 = 0 then
              f_M_othersPay_40 x3 p2.2
            else
              some ((0, p2.2)))
        else
          some ((0, p1.2))
    else
      some ((0, p1.2)))
noncomputable def f_M_othersPay (x1 : Int32) (x2 : Int32) (x3 : Int32) (σ : am_St) : Option (Int32 × am_St) := am_lk (g_M_othersPay x1 x2 x3 σ)
theorem eq_M_othersPay (x1 : Int32) (x2 : Int32) (x3 : Int32) (σ : am_St) : f_M_othersPay x1 x2 x3 σ = g_M_othersPay x1 x2 x3 σ := am_lk_eq _
set_option maxRecDepth 100000 in
set_option maxHeartbeats 4000000 in
theorem s_M_othersPay (G : am_G) (x1 : Int32) (x2 : Int32) (x3 : Int32) (σ : am_St) (r : Int32 × am_St) (Q : am_AQ) (e : f_M_othersPay x1 x2 x3 σ = some r) (hr : am_Pi r Q) : am_AW G M_M_othersPay 0 [(0, .ref 66), (1, .int x1), (2, .int x2), (3, .int x3)] [] σ Q :=
  (show am_Snd G M_M_othersPay 0 am_Pi _ from (sn_aload_n (pc := 0) (i := 0) dX12_othersPay_0 rfl (sn_iload_n (pc := 1) (i := 1) dX12_othersPay_1 rfl (sn_iload_n (pc := 2) (i := 2) dX12_othersPay_2 rfl (sn_iload_n (pc := 3) (i := 3) dX12_othersPay_3 rfl (sn_callV (pc := 4) (N := M_M_ownsUp) dX12_othersPay_4 (cal_M_ownsUp G) sh_66 rfl tw_1400 tw_1402 tp_67 tw_12 tw_1403 dsc_X12_ownsUp rfl (sn_if_eq (pc := 7) (tgt := 12) dX12_othersPay_7 rfl (sn_iload_n (pc := 12) (i := 2) dX12_othersPay_12 rfl (sn_iconst (pc := 13) (v := 2) dX12_othersPay_13 rfl (sn_icmp_ne (pc := 14) (tgt := 28) dX12_othersPay_14 rfl (sn_iload_n (pc := 28) (i := 2) dX12_othersPay_28 rfl (sn_if_ne (pc := 29) (tgt := 56) dX12_othersPay_29 rfl (sn_iconst (pc := 56) (v := 0) dX12_othersPay_56 rfl (sn_reti (pc := 57) (R := fun x τ => (some ((x, τ)))) dX12_othersPay_57 rfl (fun _ _ _ _ e h => by cases e; exact h))) (sn_aload_n (pc := 32) (i := 0) dX12_othersPay_32 rfl (sn_iload_n (pc := 33) (i := 1) dX12_othersPay_33 rfl (sn_callV (pc := 34) (N := M_M_isNamed) dX12_othersPay_34 (cal_M_isNamed G) sh_66 rfl tw_1396 tw_1398 tp_66 tw_12 tw_1399 dsc_X12_isNamed rfl (sn_if_ne (pc := 37) (tgt := 56) dX12_othersPay_37 rfl (sn_iconst (pc := 56) (v := 0) dX12_othersPay_56 rfl (sn_reti (pc := 57) (R := fun x τ => (some ((x, τ)))) dX12_othersPay_57 rfl (fun _ _ _ _ e h => by cases e; exact h))) (sn_lf (pc := 40) (ln_a (i := 0) (q := 66) (ln_i (i := 3) (fun z0 => (ln_end (o := fun τ => f_M_othersPay_40 z0 τ) (fun _ _ _ e h => s_M_othersPay_40 G z0 _ _ _ e h)))))))))))) (sn_aload_n (pc := 17) (i := 0) dX12_othersPay_17 rfl (sn_gI (pc := 18) (h := 66) (f := 2) dX12_othersPay_18 am_CL_11 sh_66 rfl (Nat.le_of_ble_eq_true rfl) tw_943 (sn_iconst (pc := 21) (v := 1) dX12_othersPay_21 rfl (sn_isub (pc := 22) dX12_othersPay_22 (sn_iload_n (pc := 23) (i := 3) dX12_othersPay_23 rfl (sn_imul (pc := 24) dX12_othersPay_24 (sn_goto (pc := 25) (tgt := 57) dX12_othersPay_25 rfl (sn_reti (pc := 57) (R := fun x τ => (some ((x, τ)))) dX12_othersPay_57 rfl (fun _ _ _ _ e h => by cases e; exact h)))))))))))) (sn_iconst (pc := 10) (v := 0) dX12_othersPay_10 rfl (sn_reti (pc := 11) (R := fun x τ => (some ((x, τ)))) dX12_othersPay_11 rfl (fun _ _ _ _ e h => by cases e; exact h)))))))))) _ _ _ _ _ ((eq_M_othersPay x1 x2 x3 σ).symm.trans e) hr
noncomputable def cF_M_othersPay : am_Fn := fun _ args σ K => match args with
  | [.ref q0, .int z1, .int z2, .int z3] => match Nat.beq q0 66 with
    | true => (f_M_othersPay z1 z2 z3 σ).bind (fun p => K (some (.int p.1)) p.2)
    | _ => none
  | _ => none
theorem cal_M_othersPay (G : am_G) : am_Cal G M_M_othersPay cF_M_othersPay := by
  intro ρ args σ K r e
  unfold cF_M_othersPay at e
  split at e
  · split at e
    · rename_i hq0
      obtain ⟨p, h1, h2⟩ := am_bind_some e
      rw [Nat.eq_of_beq_eq_true hq0]
      exact ⟨some (.int p.1), p.2, am_Met.of rfl (Nat.le_of_ble_eq_true rfl) (s_M_othersPay G _ _ _ σ p _ h1 ⟨rfl, rfl⟩), h2⟩
    · cases e
  · cases e
abbrev M_M_law : am_MD := (yX12_law, cX12_law, 6, (some .int), 8, 184)
theorem dX12_law_0 : decode cX12_law 0 = .ok (.aload_n 0, 1) := by decide +kernel
theorem dX12_law_1 : decode cX12_law 1 = .ok (.iconst 0, 1) := by decide +kernel
theorem dX12_law_2 : decode cX12_law 2 = .ok (.putfield 102, 3) := by decide +kernel
theorem dX12_law_5 : decode cX12_law 5 = .ok (.aload_n 0, 1) := by decide +kernel
theorem dX12_law_6 : decode cX12_law 6 = .ok (.iload_n 1, 1) := by decide +kernel
theorem dX12_law_7 : decode cX12_law 7 = .ok (.invokevirtual 203, 3) := by decide +kernel
theorem dX12_law_10 : decode cX12_law 10 = .ok (.ifCond .ne 7, 3) := by decide +kernel
theorem dX12_law_13 : decode cX12_law 13 = .ok (.iconst (-1), 1) := by decide +kernel
theorem dX12_law_14 : decode cX12_law 14 = .ok (.goto 27, 3) := by decide +kernel
theorem dX12_law_17 : decode cX12_law 17 = .ok (.iload_n 2, 1) := by decide +kernel
theorem dX12_law_18 : decode cX12_law 18 = .ok (.i2l, 1) := by decide +kernel
theorem dX12_law_19 : decode cX12_law 19 = .ok (.lconst 0, 1) := by decide +kernel
theorem dX12_law_20 : decode cX12_law 20 = .ok (.ldc2_w 300, 3) := by decide +kernel
theorem dX12_law_23 : decode cX12_law 23 = .ok (.invokestatic 108, 3) := by decide +kernel
theorem dX12_law_26 : decode cX12_law 26 = .ok (.ifCond .ne 8, 3) := by decide +kernel
theorem dX12_law_29 : decode cX12_law 29 = .ok (.bipush (-2), 2) := by decide +kernel
theorem dX12_law_31 : decode cX12_law 31 = .ok (.goto 10, 3) := by decide +kernel
theorem dX12_law_34 : decode cX12_law 34 = .ok (.iload_n 3, 1) := by decide +kernel
theorem dX12_law_35 : decode cX12_law 35 = .ok (.iconst 0, 1) := by decide +kernel
theorem dX12_law_36 : decode cX12_law 36 = .ok (.bipush 99, 2) := by decide +kernel
theorem dX12_law_38 : decode cX12_law 38 = .ok (.invokestatic 268, 3) := by decide +kernel
theorem dX12_law_41 : decode cX12_law 41 = .ok (.istore 5, 2) := by decide +kernel
theorem dX12_law_43 : decode cX12_law 43 = .ok (.iload 5, 2) := by decide +kernel
theorem dX12_law_45 : decode cX12_law 45 = .ok (.ifCond .ne 21, 3) := by decide +kernel
theorem dX12_law_48 : decode cX12_law 48 = .ok (.iload 4, 2) := by decide +kernel
theorem dX12_law_50 : decode cX12_law 50 = .ok (.i2l, 1) := by decide +kernel
theorem dX12_law_51 : decode cX12_law 51 = .ok (.lconst 0, 1) := by decide +kernel
theorem dX12_law_52 : decode cX12_law 52 = .ok (.ldc2_w 300, 3) := by decide +kernel
theorem dX12_law_55 : decode cX12_law 55 = .ok (.invokestatic 108, 3) := by decide +kernel
theorem dX12_law_58 : decode cX12_law 58 = .ok (.ifCond .ne 8, 3) := by decide +kernel
theorem dX12_law_61 : decode cX12_law 61 = .ok (.bipush (-2), 2) := by decide +kernel
theorem dX12_law_63 : decode cX12_law 63 = .ok (.goto 5, 3) := by decide +kernel
theorem dX12_law_66 : decode cX12_law 66 = .ok (.iload 5, 2) := by decide +kernel
theorem dX12_law_68 : decode cX12_law 68 = .ok (.istore 5, 2) := by decide +kernel
theorem dX12_law_70 : decode cX12_law 70 = .ok (.iload 5, 2) := by decide +kernel
theorem dX12_law_72 : decode cX12_law 72 = .ok (.ifCond .ge 10, 3) := by decide +kernel
theorem dX12_law_75 : decode cX12_law 75 = .ok (.aload_n 0, 1) := by decide +kernel
theorem dX12_law_76 : decode cX12_law 76 = .ok (.iload 5, 2) := by decide +kernel
theorem dX12_law_78 : decode cX12_law 78 = .ok (.invokevirtual 154, 3) := by decide +kernel
theorem dX12_law_81 : decode cX12_law 81 = .ok (.ireturn, 1) := by decide +kernel
theorem dX12_law_82 : decode cX12_law 82 = .ok (.iload 4, 2) := by decide +kernel
theorem dX12_law_84 : decode cX12_law 84 = .ok (.tableswitch 58 0 2 #[28, 34, 42], 28) := by decide +kernel
theorem dX12_law_112 : decode cX12_law 112 = .ok (.iload_n 2, 1) := by decide +kernel
theorem dX12_law_113 : decode cX12_law 113 = .ok (.iload_n 3, 1) := by decide +kernel
theorem dX12_law_114 : decode cX12_law 114 = .ok (.invokestatic 331, 3) := by decide +kernel
theorem dX12_law_117 : decode cX12_law 117 = .ok (.ireturn, 1) := by decide +kernel
theorem dX12_law_118 : decode cX12_law 118 = .ok (.aload_n 0, 1) := by decide +kernel
theorem dX12_law_119 : decode cX12_law 119 = .ok (.iload_n 1, 1) := by decide +kernel
theorem dX12_law_120 : decode cX12_law 120 = .ok (.iload_n 2, 1) := by decide +kernel
theorem dX12_law_121 : decode cX12_law 121 = .ok (.iload_n 3, 1) := by decide +kernel
theorem dX12_law_122 : decode cX12_law 122 = .ok (.invokevirtual 334, 3) := by decide +kernel
theorem dX12_law_125 : decode cX12_law 125 = .ok (.ireturn, 1) := by decide +kernel
theorem dX12_law_126 : decode cX12_law 126 = .ok (.aload_n 0, 1) := by decide +kernel
theorem dX12_law_127 : decode cX12_law 127 = .ok (.iload_n 1, 1) := by decide +kernel
theorem dX12_law_128 : decode cX12_law 128 = .ok (.iload_n 2, 1) := by decide +kernel
theorem dX12_law_129 : decode cX12_law 129 = .ok (.iload_n 3, 1) := by decide +kernel
theorem dX12_law_130 : decode cX12_law 130 = .ok (.invokevirtual 337, 3) := by decide +kernel
theorem dX12_law_133 : decode cX12_law 133 = .ok (.ifCond .eq 7, 3) := by decide +kernel
theorem dX12_law_136 : decode cX12_law 136 = .ok (.iconst 1, 1) := by decide +kernel
theorem dX12_law_137 : decode cX12_law 137 = .ok (.goto 4, 3) := by decide +kernel
theorem dX12_law_140 : decode cX12_law 140 = .ok (.iconst 0, 1) := by decide +kernel
theorem dX12_law_141 : decode cX12_law 141 = .ok (.ireturn, 1) := by decide +kernel
theorem dX12_law_142 : decode cX12_law 142 = .ok (.aload_n 0, 1) := by decide +kernel
theorem dX12_law_143 : decode cX12_law 143 = .ok (.iload_n 1, 1) := by decide +kernel
theorem dX12_law_144 : decode cX12_law 144 = .ok (.iload_n 2, 1) := by decide +kernel
theorem dX12_law_145 : decode cX12_law 145 = .ok (.iload_n 3, 1) := by decide +kernel
theorem dX12_law_146 : decode cX12_law 146 = .ok (.invokevirtual 340, 3) := by decide +kernel
theorem dX12_law_149 : decode cX12_law 149 = .ok (.ireturn, 1) := by decide +kernel
noncomputable def g_M_law_68 (x1 : Int32) (x2 : Int32) (x3 : Int32) (x4 : Int32) (y0 : Int32) (σ : am_St) : Option (Int32 × am_St) :=
  if 0 ≤ y0 then
    if x4 = 0 then
      (f_M_owningCosts x2 x3 σ).bind (fun p1 =>
        some ((p1.1, p1.2)))
    else
    if x4 = 1 then
      (f_M_notCosts x1 x2 x3 σ).bind (fun p2 =>
        some ((p2.1, p2.2)))
    else
    if x4 = 2 then
      (f_M_ownsUp x1 x2 x3 σ).bind (fun p3 =>
        if p3.1 = 0 then
          some ((0, p3.2))
        else
          some ((1, p3.2)))
    else
    (f_M_othersPay x1 x2 x3 σ).bind (fun p4 =>
      some ((p4.1, p4.2)))
  else
    (f_M_refuse y0 σ).bind (fun p5 =>
      some ((p5.1, p5.2)))
noncomputable def f_M_law_68 (x1 : Int32) (x2 : Int32) (x3 : Int32) (x4 : Int32) (y0 : Int32) (σ : am_St) : Option (Int32 × am_St) := am_lk (g_M_law_68 x1 x2 x3 x4 y0 σ)
theorem eq_M_law_68 (x1 : Int32) (x2 : Int32) (x3 : Int32) (x4 : Int32) (y0 : Int32) (σ : am_St) : f_M_law_68 x1 x2 x3 x4 y0 σ = g_M_law_68 x1 x2 x3 x4 y0 σ := am_lk_eq _
set_option maxRecDepth 100000 in
set_option maxHeartbeats 4000000 in
theorem s_M_law_68 (G : am_G) (x1 : Int32) (x2 : Int32) (x3 : Int32) (x4 : Int32) (y0 : Int32) (σ : am_St) (r : Int32 × am_St) (Q : am_AQ) (e : f_M_law_68 x1 x2 x3 x4 y0 σ = some r) (hr : am_Pi r Q) : am_AW G M_M_law 68 [(4, .int x4), (3, .int x3), (2, .int x2), (1, .int x1), (0, .ref 66)] [.int y0] σ Q :=
  (show am_Snd G M_M_law 68 am_Pi _ from (sn_istore (pc := 68) dX12_law_68 (Nat.le_of_ble_eq_true rfl) (sn_iload (pc := 70) dX12_law_70 (sn_if_ge (pc := 72) (tgt := 82) dX12_law_72 rfl (sn_iload (pc := 82) dX12_law_82 (sn_tsw (pc := 84) (dt := 142) (vs := [0, 1, 2]) (ts := [112, 118, 126]) dX12_law_84 (by decide +kernel) (sn_aload_n (pc := 142) (i := 0) dX12_law_142 rfl (sn_iload_n (pc := 143) (i := 1) dX12_law_143 rfl (sn_iload_n (pc := 144) (i := 2) dX12_law_144 rfl (sn_iload_n (pc := 145) (i := 3) dX12_law_145 rfl (sn_callV (pc := 146) (N := M_M_othersPay) dX12_law_146 (cal_M_othersPay G) sh_66 rfl tw_1404 tw_1406 tp_68 tw_12 tw_1407 dsc_X12_othersPay rfl (sn_reti (pc := 149) (R := fun x τ => (some ((x, τ)))) dX12_law_149 rfl (fun _ _ _ _ e h => by cases e; exact h))))))) (am_all_cons (sn_iload_n (pc := 112) (i := 2) dX12_law_112 rfl (sn_iload_n (pc := 113) (i := 3) dX12_law_113 rfl (sn_callS (pc := 114) (N := M_M_owningCosts) dX12_law_114 (cal_M_owningCosts G) tw_1389 tw_1390 tw_12 tw_1391 dsc_X12_owningCosts rfl (sn_reti (pc := 117) (R := fun x τ => (some ((x, τ)))) dX12_law_117 rfl (fun _ _ _ _ e h => by cases e; exact h))))) (am_all_cons (sn_aload_n (pc := 118) (i := 0) dX12_law_118 rfl (sn_iload_n (pc := 119) (i := 1) dX12_law_119 rfl (sn_iload_n (pc := 120) (i := 2) dX12_law_120 rfl (sn_iload_n (pc := 121) (i := 3) dX12_law_121 rfl (sn_callV (pc := 122) (N := M_M_notCosts) dX12_law_122 (cal_M_notCosts G) sh_66 rfl tw_1392 tw_1394 tp_65 tw_12 tw_1395 dsc_X12_notCosts rfl (sn_reti (pc := 125) (R := fun x τ => (some ((x, τ)))) dX12_law_125 rfl (fun _ _ _ _ e h => by cases e; exact h))))))) (am_all_cons (sn_aload_n (pc := 126) (i := 0) dX12_law_126 rfl (sn_iload_n (pc := 127) (i := 1) dX12_law_127 rfl (sn_iload_n (pc := 128) (i := 2) dX12_law_128 rfl (sn_iload_n (pc := 129) (i := 3) dX12_law_129 rfl (sn_callV (pc := 130) (N := M_M_ownsUp) dX12_law_130 (cal_M_ownsUp G) sh_66 rfl tw_1400 tw_1402 tp_67 tw_12 tw_1403 dsc_X12_ownsUp rfl (sn_if_eq (pc := 133) (tgt := 140) dX12_law_133 rfl (sn_iconst (pc := 140) (v := 0) dX12_law_140 rfl (sn_reti (pc := 141) (R := fun x τ => (some ((x, τ)))) dX12_law_141 rfl (fun _ _ _ _ e h => by cases e; exact h))) (sn_iconst (pc := 136) (v := 1) dX12_law_136 rfl (sn_goto (pc := 137) (tgt := 141) dX12_law_137 rfl (sn_reti (pc := 141) (R := fun x τ => (some ((x, τ)))) dX12_law_141 rfl (fun _ _ _ _ e h => by cases e; exact h)))))))))) am_all_nil))))) (sn_aload_n (pc := 75) (i := 0) dX12_law_75 rfl (sn_iload (pc := 76) dX12_law_76 (sn_callV (pc := 78) (N := M_M_refuse) dX12_law_78 (cal_M_refuse G) sh_66 rfl tw_1090 tw_1092 tp_23 tw_12 tw_1093 dsc_X12_refuse rfl (sn_reti (pc := 81) (R := fun x τ => (some ((x, τ)))) dX12_law_81 rfl (fun _ _ _ _ e h => by cases e; exact h))))))))) _ _ _ _ _ ((eq_M_law_68 x1 x2 x3 x4 y0 σ).symm.trans e) hr
noncomputable def g_M_law_66 (x1 : Int32) (x2 : Int32) (x3 : Int32) (x4 : Int32) (x5 : Int32) (σ : am_St) : Option (Int32 × am_St) :=
  f_M_law_68 x1 x2 x3 x4 x5 σ
noncomputable def f_M_law_66 (x1 : Int32) (x2 : Int32) (x3 : Int32) (x4 : Int32) (x5 : Int32) (σ : am_St) : Option (Int32 × am_St) := am_lk (g_M_law_66 x1 x2 x3 x4 x5 σ)
theorem eq_M_law_66 (x1 : Int32) (x2 : Int32) (x3 : Int32) (x4 : Int32) (x5 : Int32) (σ : am_St) : f_M_law_66 x1 x2 x3 x4 x5 σ = g_M_law_66 x1 x2 x3 x4 x5 σ := am_lk_eq _
set_option maxRecDepth 100000 in
set_option maxHeartbeats 4000000 in
theorem s_M_law_66 (G : am_G) (x1 : Int32) (x2 : Int32) (x3 : Int32) (x4 : Int32) (x5 : Int32) (σ : am_St) (r : Int32 × am_St) (Q : am_AQ) (e : f_M_law_66 x1 x2 x3 x4 x5 σ = some r) (hr : am_Pi r Q) : am_AW G M_M_law 66 [(5, .int x5), (4, .int x4), (3, .int x3), (2, .int x2), (1, .int x1), (0, .ref 66)] [] σ Q :=
  (show am_Snd G M_M_law 66 am_Pi _ from (sn_iload (pc := 66) dX12_law_66 (sn_lf (pc := 68) (ln_a (i := 0) (q := 66) (ln_i (i := 1) (fun z0 => (ln_i (i := 2) (fun z1 => (ln_i (i := 3) (fun z2 => (ln_i (i := 4) (fun z3 => (ln_si (fun w0 => (ln_end (o := fun τ => f_M_law_68 z0 z1 z2 z3 w0 τ) (fun _ _ _ e h => s_M_law_68 G z0 z1 z2 z3 w0 _ _ _ e h)))))))))))))))) _ _ _ _ _ ((eq_M_law_66 x1 x2 x3 x4 x5 σ).symm.trans e) hr
noncomputable def g_M_law_41 (x1 : Int32) (x2 : Int32) (x3 : Int32) (x4 : Int32) (y0 : Int32) (σ : am_St) : Option (Int32 × am_St) :=
  if y0 = 0 then
    (f_M_in x4.toInt64 0 3 σ).bind (fun p1 =>
      if p1.1 = 0 then
        f_M_law_68 x1 x2 x3 x4 ((-2)) p1.2
      else
        f_M_law_66 x1 x2 x3 x4 y0 p1.2)
  else
    f_M_law_66 x1 x2 x3 x4 y0 σ
noncomputable def f_M_law_41 (x1 : Int32) (x2 : Int32) (x3 : Int32) (x4 : Int32) (y0 : Int32) (σ : am_St) : Option (Int32 × am_St) := am_lk (g_M_law_41 x1 x2 x3 x4 y0 σ)
theorem eq_M_law_41 (x1 : Int32) (x2 : Int32) (x3 : Int32) (x4 : Int32) (y0 : Int32) (σ : am_St) : f_M_law_41 x1 x2 x3 x4 y0 σ = g_M_law_41 x1 x2 x3 x4 y0 σ := am_lk_eq _
set_option maxRecDepth 100000 in
set_option maxHeartbeats 4000000 in
theorem s_M_law_41 (G : am_G) (x1 : Int32) (x2 : Int32) (x3 : Int32) (x4 : Int32) (y0 : Int32) (σ : am_St) (r : Int32 × am_St) (Q : am_AQ) (e : f_M_law_41 x1 x2 x3 x4 y0 σ = some r) (hr : am_Pi r Q) : am_AW G M_M_law 41 [(4, .int x4), (3, .int x3), (2, .int x2), (1, .int x1), (0, .ref 66)] [.int y0] σ Q :=
  (show am_Snd G M_M_law 41 am_Pi _ from (sn_istore (pc := 41) dX12_law_41 (Nat.le_of_ble_eq_true rfl) (sn_iload (pc := 43) dX12_law_43 (sn_if_ne (pc := 45) (tgt := 66) dX12_law_45 rfl (sn_lf (pc := 66) (ln_a (i := 0) (q := 66) (ln_i (i := 1) (fun z0 => (ln_i (i := 2) (fun z1 => (ln_i (i := 3) (fun z2 => (ln_i (i := 4) (fun z3 => (ln_i (i := 5) (fun z4 => (ln_end (o := fun τ => f_M_law_66 z0 z1 z2 z3 z4 τ) (fun _ _ _ e h => s_M_law_66 G z0 z1 z2 z3 z4 _ _ _ e h)))))))))))))) (sn_iload (pc := 48) dX12_law_48 (sn_i2l (pc := 50) dX12_law_50 (sn_lconst (pc := 51) (v := 0) dX12_law_51 rfl (sn_ldc2 (pc := 52) dX12_law_52 tw_1320 (sn_callS (pc := 55) (N := M_M_in) dX12_law_55 (cal_M_in G) tw_1116 tw_1117 tw_12 tw_1118 dsc_X12_in rfl (sn_if_ne (pc := 58) (tgt := 66) dX12_law_58 rfl (sn_lf (pc := 66) (ln_a (i := 0) (q := 66) (ln_i (i := 1) (fun z0 => (ln_i (i := 2) (fun z1 => (ln_i (i := 3) (fun z2 => (ln_i (i := 4) (fun z3 => (ln_i (i := 5) (fun z4 => (ln_end (o := fun τ => f_M_law_66 z0 z1 z2 z3 z4 τ) (fun _ _ _ e h => s_M_law_66 G z0 z1 z2 z3 z4 _ _ _ e h)))))))))))))) (sn_bipush (pc := 61) (v := (-2)) dX12_law_61 (show (Int8.ofInt (-2)).toInt32 = (-2) by decide) (sn_goto (pc := 63) (tgt := 68) dX12_law_63 rfl (sn_lf (pc := 68) (ln_a (i := 0) (q := 66) (ln_i (i := 1) (fun z0 => (ln_i (i := 2) (fun z1 => (ln_i (i := 3) (fun z2 => (ln_i (i := 4) (fun z3 => (ln_si (fun w0 => (ln_end (o := fun τ => f_M_law_68 z0 z1 z2 z3 w0 τ) (fun _ _ _ e h => s_M_law_68 G z0 z1 z2 z3 w0 _ _ _ e h)))))))))))))))))))))))))) _ _ _ _ _ ((eq_M_law_41 x1 x2 x3 x4 y0 σ).symm.trans e) hr
noncomputable def g_M_law_29 (x1 : Int32) (x2 : Int32) (x3 : Int32) (x4 : Int32) (σ : am_St) : Option (Int32 × am_St) :=
  f_M_law_41 x1 x2 x3 x4 ((-2)) σ
noncomputable def f_M_law_29 (x1 : Int32) (x2 : Int32) (x3 : Int32) (x4 : Int32) (σ : am_St) : Option (Int32 × am_St) := am_lk (g_M_law_29 x1 x2 x3 x4 σ)
theorem eq_M_law_29 (x1 : Int32) (x2 : Int32) (x3 : Int32) (x4 : Int32) (σ : am_St) : f_M_law_29 x1 x2 x3 x4 σ = g_M_law_29 x1 x2 x3 x4 σ := am_lk_eq _
set_option maxRecDepth 100000 in
set_option maxHeartbeats 4000000 in
theorem s_M_law_29 (G : am_G) (x1 : Int32) (x2 : Int32) (x3 : Int32) (x4 : Int32) (σ : am_St) (r : Int32 × am_St) (Q : am_AQ) (e : f_M_law_29 x1 x2 x3 x4 σ = some r) (hr : am_Pi r Q) : am_AW G M_M_law 29 [(4, .int x4), (3, .int x3), (2, .int x2), (1, .int x1), (0, .ref 66)] [] σ Q :=
  (show am_Snd G M_M_law 29 am_Pi _ from (sn_bipush (pc := 29) (v := (-2)) dX12_law_29 (show (Int8.ofInt (-2)).toInt32 = (-2) by decide) (sn_goto (pc := 31) (tgt := 41) dX12_law_31 rfl (sn_lf (pc := 41) (ln_a (i := 0) (q := 66) (ln_i (i := 1) (fun z0 => (ln_i (i := 2) (fun z1 => (ln_i (i := 3) (fun z2 => (ln_i (i := 4) (fun z3 => (ln_si (fun w0 => (ln_end (o := fun τ => f_M_law_41 z0 z1 z2 z3 w0 τ) (fun _ _ _ e h => s_M_law_41 G z0 z1 z2 z3 w0 _ _ _ e h))))))))))))))))) _ _ _ _ _ ((eq_M_law_29 x1 x2 x3 x4 σ).symm.trans e) hr
noncomputable def g_M_law_34 (x1 : Int32) (x2 : Int32) (x3 : Int32) (x4 : Int32) (σ : am_St) : Option (Int32 × am_St) :=
  (f_M_wrongNumber x3 0 99 σ).bind (fun p1 =>
    f_M_law_41 x1 x2 x3 x4 p1.1 p1.2)
noncomputable def f_M_law_34 (x1 : Int32) (x2 : Int32) (x3 : Int32) (x4 : Int32) (σ : am_St) : Option (Int32 × am_St) := am_lk (g_M_law_34 x1 x2 x3 x4 σ)
theorem eq_M_law_34 (x1 : Int32) (x2 : Int32) (x3 : Int32) (x4 : Int32) (σ : am_St) : f_M_law_34 x1 x2 x3 x4 σ = g_M_law_34 x1 x2 x3 x4 σ := am_lk_eq _
set_option maxRecDepth 100000 in
set_option maxHeartbeats 4000000 in
theorem s_M_law_34 (G : am_G) (x1 : Int32) (x2 : Int32) (x3 : Int32) (x4 : Int32) (σ : am_St) (r : Int32 × am_St) (Q : am_AQ) (e : f_M_law_34 x1 x2 x3 x4 σ = some r) (hr : am_Pi r Q) : am_AW G M_M_law 34 [(4, .int x4), (3, .int x3), (2, .int x2), (1, .int x1), (0, .ref 66)] [] σ Q :=
  (show am_Snd G M_M_law 34 am_Pi _ from (sn_iload_n (pc := 34) (i := 3) dX12_law_34 rfl (sn_iconst (pc := 35) (v := 0) dX12_law_35 rfl (sn_bipush (pc := 36) (v := 99) dX12_law_36 rfl (sn_callS (pc := 38) (N := M_M_wrongNumber) dX12_law_38 (cal_M_wrongNumber G) tw_1250 tw_1251 tw_12 tw_1252 dsc_X12_wrongNumber rfl (sn_lf (pc := 41) (ln_a (i := 0) (q := 66) (ln_i (i := 1) (fun z0 => (ln_i (i := 2) (fun z1 => (ln_i (i := 3) (fun z2 => (ln_i (i := 4) (fun z3 => (ln_si (fun w0 => (ln_end (o := fun τ => f_M_law_41 z0 z1 z2 z3 w0 τ) (fun _ _ _ e h => s_M_law_41 G z0 z1 z2 z3 w0 _ _ _ e h))))))))))))))))))) _ _ _ _ _ ((eq_M_law_34 x1 x2 x3 x4 σ).symm.trans e) hr
noncomputable def g_M_law (x1 : Int32) (x2 : Int32) (x3 : Int32) (x4 : Int32) (σ : am_St) : Option (Int32 × am_St) :=
  let s1 := am_sI σ 66 22 0
  (f_M_isChild x1 s1).bind (fun p2 =>
    if p2.1 = 0 then
      f_M_law_41 x1 x2 x3 x4 ((-1)) p2.2
    else
      (f_M_in x2.toInt64 0 3 p2.2).bind (fun p3 =>
        if p3.1 = 0 then
          f_M_law_29 x1 x2 x3 x4 p3.2
        else
          f_M_law_34 x1 x2 x3 x4 p3.2))
noncomputable def f_M_law (x1 : Int32) (x2 : Int32) (x3 : Int32) (x4 : Int32) (σ : am_St) : Option (Int32 × am_St) := am_lk (g_M_law x1 x2 x3 x4 σ)
theorem eq_M_law (x1 : Int32) (x2 : Int32) (x3 : Int32) (x4 : Int32) (σ : am_St) : f_M_law x1 x2 x3 x4 σ = g_M_law x1 x2 x3 x4 σ := am_lk_eq _
set_option maxRecDepth 100000 in
set_option maxHeartbeats 4000000 in
theorem s_M_law (G : am_G) (x1 : Int32) (x2 : Int32) (x3 : Int32) (x4 : Int32) (σ : am_St) (r : Int32 × am_St) (Q : am_AQ) (e : f_M_law x1 x2 x3 x4 σ = some r) (hr : am_Pi r Q) : am_AW G M_M_law 0 [(0, .ref 66), (1, .int x1), (2, .int x2), (3, .int x3), (4, .int x4)] [] σ Q :=
  (show am_Snd G M_M_law 0 am_Pi _ from (sn_aload_n (pc := 0) (i := 0) dX12_law_0 rfl (sn_iconst (pc := 1) (v := 0) dX12_law_1 rfl (sn_pI (pc := 2) (h := 66) (f := 22) dX12_law_2 am_CL_11 sh_66 rfl (Nat.le_of_ble_eq_true rfl) tw_963 rfl rfl (sn_aload_n (pc := 5) (i := 0) dX12_law_5 rfl (sn_iload_n (pc := 6) (i := 1) dX12_law_6 rfl (sn_callV (pc := 7) (N := M_M_isChild) dX12_law_7 (cal_M_isChild G) sh_66 rfl tw_1181 tw_1183 tp_42 tw_12 tw_1184 dsc_X12_isChild rfl (sn_if_ne (pc := 10) (tgt := 17) dX12_law_10 rfl (sn_iload_n (pc := 17) (i := 2) dX12_law_17 rfl (sn_i2l (pc := 18) dX12_law_18 (sn_lconst (pc := 19) (v := 0) dX12_law_19 rfl (sn_ldc2 (pc := 20) dX12_law_20 tw_1320 (sn_callS (pc := 23) (N := M_M_in) dX12_law_23 (cal_M_in G) tw_1116 tw_1117 tw_12 tw_1118 dsc_X12_in rfl (sn_if_ne (pc := 26) (tgt := 34) dX12_law_26 rfl (sn_lf (pc := 34) (ln_a (i := 0) (q := 66) (ln_i (i := 1) (fun z0 => (ln_i (i := 2) (fun z1 => (ln_i (i := 3) (fun z2 => (ln_i (i := 4) (fun z3 => (ln_end (o := fun τ => f_M_law_34 z0 z1 z2 z3 τ) (fun _ _ _ e h => s_M_law_34 G z0 z1 z2 z3 _ _ _ e h)))))))))))) (sn_lf (pc := 29) (ln_a (i := 0) (q := 66) (ln_i (i := 1) (fun z0 => (ln_i (i := 2) (fun z1 => (ln_i (i := 3) (fun z2 => (ln_i (i := 4) (fun z3 => (ln_end (o := fun τ => f_M_law_29 z0 z1 z2 z3 τ) (fun _ _ _ e h => s_M_law_29 G z0 z1 z2 z3 _ _ _ e h)))))))))))))))))) (sn_iconst (pc := 13) (v := (-1)) dX12_law_13 (show Int32.ofInt (-1) = (-1) by decide) (sn_goto (pc := 14) (tgt := 41) dX12_law_14 rfl (sn_lf (pc := 41) (ln_a (i := 0) (q := 66) (ln_i (i := 1) (fun z0 => (ln_i (i := 2) (fun z1 => (ln_i (i := 3) (fun z2 => (ln_i (i := 4) (fun z3 => (ln_si (fun w0 => (ln_end (o := fun τ => f_M_law_41 z0 z1 z2 z3 w0 τ) (fun _ _ _ e h => s_M_law_41 G z0 z1 z2 z3 w0 _ _ _ e h)))))))))))))))))))))))) _ _ _ _ _ ((eq_M_law x1 x2 x3 x4 σ).symm.trans e) hr
noncomputable def cF_M_law : am_Fn := fun _ args σ K => match args with
  | [.ref q0, .int z1, .int z2, .int z3, .int z4] => match Nat.beq q0 66 with
    | true => (f_M_law z1 z2 z3 z4 σ).bind (fun p => K (some (.int p.1)) p.2)
    | _ => none
  | _ => none
theorem cal_M_law (G : am_G) : am_Cal G M_M_law cF_M_law := by
  intro ρ args σ K r e
  unfold cF_M_law at e
  split at e
  · split at e
    · rename_i hq0
      obtain ⟨p, h1, h2⟩ := am_bind_some e
      rw [Nat.eq_of_beq_eq_true hq0]
      exact ⟨some (.int p.1), p.2, am_Met.of rfl (Nat.le_of_ble_eq_true rfl) (s_M_law G _ _ _ _ σ p _ h1 ⟨rfl, rfl⟩), h2⟩
    · cases e
  · cases e
abbrev M_M_byLaws : am_MD := (yX12_byLaws, cX12_byLaws, 6, (some .int), 7, 161)
theorem dX12_byLaws_0 : decode cX12_byLaws 0 = .ok (.aload_n 0, 1) := by decide +kernel
theorem dX12_byLaws_1 : decode cX12_byLaws 1 = .ok (.iconst 0, 1) := by decide +kernel
theorem dX12_byLaws_2 : decode cX12_byLaws 2 = .ok (.putfield 102, 3) := by decide +kernel
theorem dX12_byLaws_5 : decode cX12_byLaws 5 = .ok (.aload_n 0, 1) := by decide +kernel
theorem dX12_byLaws_6 : decode cX12_byLaws 6 = .ok (.iload_n 1, 1) := by decide +kernel
theorem dX12_byLaws_7 : decode cX12_byLaws 7 = .ok (.invokevirtual 203, 3) := by decide +kernel
theorem dX12_byLaws_10 : decode cX12_byLaws 10 = .ok (.ifCond .eq 13, 3) := by decide +kernel
theorem dX12_byLaws_13 : decode cX12_byLaws 13 = .ok (.iload_n 2, 1) := by decide +kernel
theorem dX12_byLaws_14 : decode cX12_byLaws 14 = .ok (.iconst 0, 1) := by decide +kernel
theorem dX12_byLaws_15 : decode cX12_byLaws 15 = .ok (.bipush 99, 2) := by decide +kernel
theorem dX12_byLaws_17 : decode cX12_byLaws 17 = .ok (.invokestatic 268, 3) := by decide +kernel
theorem dX12_byLaws_20 : decode cX12_byLaws 20 = .ok (.goto 4, 3) := by decide +kernel
theorem dX12_byLaws_23 : decode cX12_byLaws 23 = .ok (.iconst (-1), 1) := by decide +kernel
theorem dX12_byLaws_24 : decode cX12_byLaws 24 = .ok (.istore_n 3, 1) := by decide +kernel
theorem dX12_byLaws_25 : decode cX12_byLaws 25 = .ok (.iload_n 3, 1) := by decide +kernel
theorem dX12_byLaws_26 : decode cX12_byLaws 26 = .ok (.ifCond .ge 9, 3) := by decide +kernel
theorem dX12_byLaws_29 : decode cX12_byLaws 29 = .ok (.aload_n 0, 1) := by decide +kernel
theorem dX12_byLaws_30 : decode cX12_byLaws 30 = .ok (.iload_n 3, 1) := by decide +kernel
theorem dX12_byLaws_31 : decode cX12_byLaws 31 = .ok (.invokevirtual 154, 3) := by decide +kernel
theorem dX12_byLaws_34 : decode cX12_byLaws 34 = .ok (.ireturn, 1) := by decide +kernel
theorem dX12_byLaws_35 : decode cX12_byLaws 35 = .ok (.iconst 0, 1) := by decide +kernel
theorem dX12_byLaws_36 : decode cX12_byLaws 36 = .ok (.istore 4, 2) := by decide +kernel
theorem dX12_byLaws_38 : decode cX12_byLaws 38 = .ok (.iconst 0, 1) := by decide +kernel
theorem dX12_byLaws_39 : decode cX12_byLaws 39 = .ok (.istore 5, 2) := by decide +kernel
theorem dX12_byLaws_41 : decode cX12_byLaws 41 = .ok (.iload 5, 2) := by decide +kernel
theorem dX12_byLaws_43 : decode cX12_byLaws 43 = .ok (.iconst 4, 1) := by decide +kernel
theorem dX12_byLaws_44 : decode cX12_byLaws 44 = .ok (.if_icmp .ge 33, 3) := by decide +kernel
theorem dX12_byLaws_47 : decode cX12_byLaws 47 = .ok (.iload 4, 2) := by decide +kernel
theorem dX12_byLaws_49 : decode cX12_byLaws 49 = .ok (.aload_n 0, 1) := by decide +kernel
theorem dX12_byLaws_50 : decode cX12_byLaws 50 = .ok (.iload_n 1, 1) := by decide +kernel
theorem dX12_byLaws_51 : decode cX12_byLaws 51 = .ok (.iload 5, 2) := by decide +kernel
theorem dX12_byLaws_53 : decode cX12_byLaws 53 = .ok (.iload_n 2, 1) := by decide +kernel
theorem dX12_byLaws_54 : decode cX12_byLaws 54 = .ok (.invokevirtual 337, 3) := by decide +kernel
theorem dX12_byLaws_57 : decode cX12_byLaws 57 = .ok (.ifCond .eq 10, 3) := by decide +kernel
theorem dX12_byLaws_60 : decode cX12_byLaws 60 = .ok (.iconst 1, 1) := by decide +kernel
theorem dX12_byLaws_61 : decode cX12_byLaws 61 = .ok (.iload 5, 2) := by decide +kernel
theorem dX12_byLaws_63 : decode cX12_byLaws 63 = .ok (.ishl, 1) := by decide +kernel
theorem dX12_byLaws_64 : decode cX12_byLaws 64 = .ok (.goto 4, 3) := by decide +kernel
theorem dX12_byLaws_67 : decode cX12_byLaws 67 = .ok (.iconst 0, 1) := by decide +kernel
theorem dX12_byLaws_68 : decode cX12_byLaws 68 = .ok (.ior, 1) := by decide +kernel
theorem dX12_byLaws_69 : decode cX12_byLaws 69 = .ok (.istore 4, 2) := by decide +kernel
theorem dX12_byLaws_71 : decode cX12_byLaws 71 = .ok (.iinc 5 1, 3) := by decide +kernel
theorem dX12_byLaws_74 : decode cX12_byLaws 74 = .ok (.goto (-33), 3) := by decide +kernel
theorem dX12_byLaws_77 : decode cX12_byLaws 77 = .ok (.iload 4, 2) := by decide +kernel
theorem dX12_byLaws_79 : decode cX12_byLaws 79 = .ok (.ireturn, 1) := by decide +kernel
abbrev Pl_M_byLaws_41 (G : am_G) : ((Int32 × Int32 × Int32 × Int32 × am_St) ⊕ (Int32 × am_St)) → am_AQ → Prop := am_PL G M_M_byLaws 41 (fun s : Int32 × Int32 × Int32 × Int32 × am_St => [(5, .int s.2.2.2.1), (4, .int s.2.2.1), (2, .int s.2.1), (1, .int s.1), (0, .ref 66)]) (fun s => s.2.2.2.2) am_Pi
noncomputable def g_M_byLaws_68 (x1 : Int32) (x2 : Int32) (x5 : Int32) (y0 : Int32) (y1 : Int32) (σ : am_St) : Option ((Int32 × Int32 × Int32 × Int32 × am_St) ⊕ (Int32 × am_St)) :=
  let v1 := y0 ||| y1
  let v2 := x5 + 1
  some (.inl (x1, x2, v1, v2, σ))
noncomputable def f_M_byLaws_68 (x1 : Int32) (x2 : Int32) (x5 : Int32) (y0 : Int32) (y1 : Int32) (σ : am_St) : Option ((Int32 × Int32 × Int32 × Int32 × am_St) ⊕ (Int32 × am_St)) := am_lk (g_M_byLaws_68 x1 x2 x5 y0 y1 σ)
theorem eq_M_byLaws_68 (x1 : Int32) (x2 : Int32) (x5 : Int32) (y0 : Int32) (y1 : Int32) (σ : am_St) : f_M_byLaws_68 x1 x2 x5 y0 y1 σ = g_M_byLaws_68 x1 x2 x5 y0 y1 σ := am_lk_eq _
set_option maxRecDepth 100000 in
set_option maxHeartbeats 4000000 in
theorem s_M_byLaws_68 (G : am_G) (x1 : Int32) (x2 : Int32) (x5 : Int32) (y0 : Int32) (y1 : Int32) (σ : am_St) (r : (Int32 × Int32 × Int32 × Int32 × am_St) ⊕ (Int32 × am_St)) (Q : am_AQ) (e : f_M_byLaws_68 x1 x2 x5 y0 y1 σ = some r) (hr : (Pl_M_byLaws_41 G) r Q) : am_AW G M_M_byLaws 68 [(5, .int x5), (2, .int x2), (1, .int x1), (0, .ref 66)] [.int y1, .int y0] σ Q :=
  (show am_Snd G M_M_byLaws 68 (Pl_M_byLaws_41 G) _ from (sn_ior (pc := 68) dX12_byLaws_68 (sn_istore (pc := 69) dX12_byLaws_69 (Nat.le_of_ble_eq_true rfl) (sn_iinc (pc := 71) (v := 1) dX12_byLaws_71 rfl (Nat.le_of_ble_eq_true rfl) (sn_goto (pc := 74) (tgt := 41) dX12_byLaws_74 rfl (sn_lf (pc := 41) (ln_a (i := 0) (q := 66) (ln_i (i := 1) (fun z0 => (ln_i (i := 2) (fun z1 => (ln_i (i := 4) (fun z2 => (ln_i (i := 5) (fun z3 => (ln_end (o := fun τ => (some (.inl (z0, z1, z2, z3, τ)) : Option ((Int32 × Int32 × Int32 × Int32 × am_St) ⊕ (Int32 × am_St)))) (fun _ _ _ e h => by cases e; exact h))))))))))))))))) _ _ _ _ _ ((eq_M_byLaws_68 x1 x2 x5 y0 y1 σ).symm.trans e) hr
noncomputable def b_M_byLaws_41 (x1 : Int32) (x2 : Int32) (x4 : Int32) (x5 : Int32) (σ : am_St) : Option ((Int32 × Int32 × Int32 × Int32 × am_St) ⊕ (Int32 × am_St)) :=
  if 4 ≤ x5 then
    some (.inr ((x4, σ)))
  else
    (f_M_ownsUp x1 x5 x2 σ).bind (fun p1 =>
      if p1.1 = 0 then
        f_M_byLaws_68 x1 x2 x5 x4 0 p1.2
      else
        f_M_byLaws_68 x1 x2 x5 x4 (1 <<< (x5 &&& 31)) p1.2)
noncomputable def f_M_byLaws_41 (x1 : Int32) (x2 : Int32) (x4 : Int32) (x5 : Int32) (σ : am_St) : Option (Int32 × am_St) := am_lp (fun s : Int32 × Int32 × Int32 × Int32 × am_St => b_M_byLaws_41 s.1 s.2.1 s.2.2.1 s.2.2.2.1 s.2.2.2.2) (x1, x2, x4, x5, σ)
set_option maxRecDepth 100000 in
set_option maxHeartbeats 4000000 in
theorem sb_M_byLaws_41 (G : am_G) (x1 : Int32) (x2 : Int32) (x4 : Int32) (x5 : Int32) (σ : am_St) (r : (Int32 × Int32 × Int32 × Int32 × am_St) ⊕ (Int32 × am_St)) (Q : am_AQ) (e : b_M_byLaws_41 x1 x2 x4 x5 σ = some r) (hr : Pl_M_byLaws_41 G r Q) : am_AW G M_M_byLaws 41 [(5, .int x5), (4, .int x4), (2, .int x2), (1, .int x1), (0, .ref 66)] [] σ Q :=
  (show am_Snd G M_M_byLaws 41 (Pl_M_byLaws_41 G) _ from (sn_iload (pc := 41) dX12_byLaws_41 (sn_iconst (pc := 43) (v := 4) dX12_byLaws_43 rfl (sn_icmp_ge (pc := 44) (tgt := 77) dX12_byLaws_44 rfl (sn_iload (pc := 77) dX12_byLaws_77 (sn_reti (pc := 79) (R := fun x τ => (some (.inr ((x, τ))) : Option ((Int32 × Int32 × Int32 × Int32 × am_St) ⊕ (Int32 × am_St)))) dX12_byLaws_79 rfl (fun _ _ _ _ e h => by cases e; exact h))) (sn_iload (pc := 47) dX12_byLaws_47 (sn_aload_n (pc := 49) (i := 0) dX12_byLaws_49 rfl (sn_iload_n (pc := 50) (i := 1) dX12_byLaws_50 rfl (sn_iload (pc := 51) dX12_byLaws_51 (sn_iload_n (pc := 53) (i := 2) dX12_byLaws_53 rfl (sn_callV (pc := 54) (N := M_M_ownsUp) dX12_byLaws_54 (cal_M_ownsUp G) sh_66 rfl tw_1400 tw_1402 tp_67 tw_12 tw_1403 dsc_X12_ownsUp rfl (sn_if_eq (pc := 57) (tgt := 67) dX12_byLaws_57 rfl (sn_iconst (pc := 67) (v := 0) dX12_byLaws_67 rfl (sn_lf (pc := 68) (ln_a (i := 0) (q := 66) (ln_i (i := 1) (fun z0 => (ln_i (i := 2) (fun z1 => (ln_i (i := 5) (fun z2 => (ln_si (fun w1 => (ln_si (fun w0 => (ln_end (o := fun τ => f_M_byLaws_68 z0 z1 z2 w0 w1 τ) (fun _ _ _ e h => s_M_byLaws_68 G z0 z1 z2 w0 w1 _ _ _ e h))))))))))))))) (sn_iconst (pc := 60) (v := 1) dX12_byLaws_60 rfl (sn_iload (pc := 61) dX12_byLaws_61 (sn_ishl (pc := 63) dX12_byLaws_63 (sn_goto (pc := 64) (tgt := 68) dX12_byLaws_64 rfl (sn_lf (pc := 68) (ln_a (i := 0) (q := 66) (ln_i (i := 1) (fun z0 => (ln_i (i := 2) (fun z1 => (ln_i (i := 5) (fun z2 => (ln_si (fun w1 => (ln_si (fun w0 => (ln_end (o := fun τ => f_M_byLaws_68 z0 z1 z2 w0 w1 τ) (fun _ _ _ e h => s_M_byLaws_68 G z0 z1 z2 w0 w1 _ _ _ e h))))))))))))))))))))))))))))) _ _ _ _ _ e hr
theorem s_M_byLaws_41 (G : am_G) (x1 : Int32) (x2 : Int32) (x4 : Int32) (x5 : Int32) (σ : am_St) (r : Int32 × am_St) (Q : am_AQ) (e : f_M_byLaws_41 x1 x2 x4 x5 σ = some r) (hr : am_Pi r Q) : am_AW G M_M_byLaws 41 [(5, .int x5), (4, .int x4), (2, .int x2), (1, .int x1), (0, .ref 66)] [] σ Q :=
  am_loop (P := am_Pi) (L := fun s : Int32 × Int32 × Int32 × Int32 × am_St => [(5, .int s.2.2.2.1), (4, .int s.2.2.1), (2, .int s.2.1), (1, .int s.1), (0, .ref 66)]) (g := fun s => s.2.2.2.2) (fun s o Q e hr => sb_M_byLaws_41 G s.1 s.2.1 s.2.2.1 s.2.2.2.1 s.2.2.2.2 o Q e hr) (x1, x2, x4, x5, σ) r Q e hr
noncomputable def g_M_byLaws_24 (x1 : Int32) (x2 : Int32) (y0 : Int32) (σ : am_St) : Option (Int32 × am_St) :=
  if 0 ≤ y0 then
    f_M_byLaws_41 x1 x2 0 0 σ
  else
    (f_M_refuse y0 σ).bind (fun p1 =>
      some ((p1.1, p1.2)))
noncomputable def f_M_byLaws_24 (x1 : Int32) (x2 : Int32) (y0 : Int32) (σ : am_St) : Option (Int32 × am_St) := am_lk (g_M_byLaws_24 x1 x2 y0 σ)
theorem eq_M_byLaws_24 (x1 : Int32) (x2 : Int32) (y0 : Int32) (σ : am_St) : f_M_byLaws_24 x1 x2 y0 σ = g_M_byLaws_24 x1 x2 y0 σ := am_lk_eq _
set_option maxRecDepth 100000 in
set_option maxHeartbeats 4000000 in
theorem s_M_byLaws_24 (G : am_G) (x1 : Int32) (x2 : Int32) (y0 : Int32) (σ : am_St) (r : Int32 × am_St) (Q : am_AQ) (e : f_M_byLaws_24 x1 x2 y0 σ = some r) (hr : am_Pi r Q) : am_AW G M_M_byLaws 24 [(2, .int x2), (1, .int x1), (0, .ref 66)] [.int y0] σ Q :=
  (show am_Snd G M_M_byLaws 24 am_Pi _ from (sn_istore_n (pc := 24) (i := 3) dX12_byLaws_24 rfl (Nat.le_of_ble_eq_true rfl) (sn_iload_n (pc := 25) (i := 3) dX12_byLaws_25 rfl (sn_if_ge (pc := 26) (tgt := 35) dX12_byLaws_26 rfl (sn_iconst (pc := 35) (v := 0) dX12_byLaws_35 rfl (sn_istore (pc := 36) dX12_byLaws_36 (Nat.le_of_ble_eq_true rfl) (sn_iconst (pc := 38) (v := 0) dX12_byLaws_38 rfl (sn_istore (pc := 39) dX12_byLaws_39 (Nat.le_of_ble_eq_true rfl) (sn_lf (pc := 41) (ln_a (i := 0) (q := 66) (ln_i (i := 1) (fun z0 => (ln_i (i := 2) (fun z1 => (ln_i (i := 4) (fun z2 => (ln_i (i := 5) (fun z3 => (ln_end (o := fun τ => f_M_byLaws_41 z0 z1 z2 z3 τ) (fun _ _ _ e h => s_M_byLaws_41 G z0 z1 z2 z3 _ _ _ e h)))))))))))))))) (sn_aload_n (pc := 29) (i := 0) dX12_byLaws_29 rfl (sn_iload_n (pc := 30) (i := 3) dX12_byLaws_30 rfl (sn_callV (pc := 31) (N := M_M_refuse) dX12_byLaws_31 (cal_M_refuse G) sh_66 rfl tw_1090 tw_1092 tp_23 tw_12 tw_1093 dsc_X12_refuse rfl (sn_reti (pc := 34) (R := fun x τ => (some ((x, τ)))) dX12_byLaws_34 rfl (fun _ _ _ _ e h => by cases e; exact h))))))))) _ _ _ _ _ ((eq_M_byLaws_24 x1 x2 y0 σ).symm.trans e) hr
noncomputable def g_M_byLaws (x1 : Int32) (x2 : Int32) (σ : am_St) : Option (Int32 × am_St) :=
  let s1 := am_sI σ 66 22 0
  (f_M_isChild x1 s1).bind (fun p2 =>
    if p2.1 = 0 then
      f_M_byLaws_24 x1 x2 ((-1)) p2.2
    else
      (f_M_wrongNumber x2 0 99 p2.2).bind (fun p3 =>
        f_M_byLaws_24 x1 x2 p3.1 p3.2))
noncomputable def f_M_byLaws (x1 : Int32) (x2 : Int32) (σ : am_St) : Option (Int32 × am_St) := am_lk (g_M_byLaws x1 x2 σ)
theorem eq_M_byLaws (x1 : Int32) (x2 : Int32) (σ : am_St) : f_M_byLaws x1 x2 σ = g_M_byLaws x1 x2 σ := am_lk_eq _
set_option maxRecDepth 100000 in
set_option maxHeartbeats 4000000 in
theorem s_M_byLaws (G : am_G) (x1 : Int32) (x2 : Int32) (σ : am_St) (r : Int32 × am_St) (Q : am_AQ) (e : f_M_byLaws x1 x2 σ = some r) (hr : am_Pi r Q) : am_AW G M_M_byLaws 0 [(0, .ref 66), (1, .int x1), (2, .int x2)] [] σ Q :=
  (show am_Snd G M_M_byLaws 0 am_Pi _ from (sn_aload_n (pc := 0) (i := 0) dX12_byLaws_0 rfl (sn_iconst (pc := 1) (v := 0) dX12_byLaws_1 rfl (sn_pI (pc := 2) (h := 66) (f := 22) dX12_byLaws_2 am_CL_11 sh_66 rfl (Nat.le_of_ble_eq_true rfl) tw_963 rfl rfl (sn_aload_n (pc := 5) (i := 0) dX12_byLaws_5 rfl (sn_iload_n (pc := 6) (i := 1) dX12_byLaws_6 rfl (sn_callV (pc := 7) (N := M_M_isChild) dX12_byLaws_7 (cal_M_isChild G) sh_66 rfl tw_1181 tw_1183 tp_42 tw_12 tw_1184 dsc_X12_isChild rfl (sn_if_eq (pc := 10) (tgt := 23) dX12_byLaws_10 rfl (sn_iconst (pc := 23) (v := (-1)) dX12_byLaws_23 (show Int32.ofInt (-1) = (-1) by decide) (sn_lf (pc := 24) (ln_a (i := 0) (q := 66) (ln_i (i := 1) (fun z0 => (ln_i (i := 2) (fun z1 => (ln_si (fun w0 => (ln_end (o := fun τ => f_M_byLaws_24 z0 z1 w0 τ) (fun _ _ _ e h => s_M_byLaws_24 G z0 z1 w0 _ _ _ e h))))))))))) (sn_iload_n (pc := 13) (i := 2) dX12_byLaws_13 rfl (sn_iconst (pc := 14) (v := 0) dX12_byLaws_14 rfl (sn_bipush (pc := 15) (v := 99) dX12_byLaws_15 rfl (sn_callS (pc := 17) (N := M_M_wrongNumber) dX12_byLaws_17 (cal_M_wrongNumber G) tw_1250 tw_1251 tw_12 tw_1252 dsc_X12_wrongNumber rfl (sn_goto (pc := 20) (tgt := 24) dX12_byLaws_20 rfl (sn_lf (pc := 24) (ln_a (i := 0) (q := 66) (ln_i (i := 1) (fun z0 => (ln_i (i := 2) (fun z1 => (ln_si (fun w0 => (ln_end (o := fun τ => f_M_byLaws_24 z0 z1 w0 τ) (fun _ _ _ e h => s_M_byLaws_24 G z0 z1 w0 _ _ _ e h))))))))))))))))))))))) _ _ _ _ _ ((eq_M_byLaws x1 x2 σ).symm.trans e) hr
noncomputable def cF_M_byLaws : am_Fn := fun _ args σ K => match args with
  | [.ref q0, .int z1, .int z2] => match Nat.beq q0 66 with
    | true => (f_M_byLaws z1 z2 σ).bind (fun p => K (some (.int p.1)) p.2)
    | _ => none
  | _ => none
theorem cal_M_byLaws (G : am_G) : am_Cal G M_M_byLaws cF_M_byLaws := by
  intro ρ args σ K r e
  unfold cF_M_byLaws at e
  split at e
  · split at e
    · rename_i hq0
      obtain ⟨p, h1, h2⟩ := am_bind_some e
      rw [Nat.eq_of_beq_eq_true hq0]
      exact ⟨some (.int p.1), p.2, am_Met.of rfl (Nat.le_of_ble_eq_true rfl) (s_M_byLaws G _ _ σ p _ h1 ⟨rfl, rfl⟩), h2⟩
    · cases e
  · cases e
abbrev M_M_old : am_MD := (yX12_old, cX12_old, 6, (some .int), 1, 25)
theorem dX12_old_0 : decode cX12_old 0 = .ok (.aload_n 0, 1) := by decide +kernel
theorem dX12_old_1 : decode cX12_old 1 = .ok (.iconst 0, 1) := by decide +kernel
theorem dX12_old_2 : decode cX12_old 2 = .ok (.putfield 102, 3) := by decide +kernel
theorem dX12_old_5 : decode cX12_old 5 = .ok (.iload_n 1, 1) := by decide +kernel
theorem dX12_old_6 : decode cX12_old 6 = .ok (.ifCond .lt 12, 3) := by decide +kernel
theorem dX12_old_9 : decode cX12_old 9 = .ok (.iload_n 2, 1) := by decide +kernel
theorem dX12_old_10 : decode cX12_old 10 = .ok (.iconst 1, 1) := by decide +kernel
theorem dX12_old_11 : decode cX12_old 11 = .ok (.if_icmp .lt 7, 3) := by decide +kernel
theorem dX12_old_14 : decode cX12_old 14 = .ok (.iload_n 3, 1) := by decide +kernel
theorem dX12_old_15 : decode cX12_old 15 = .ok (.ifCond .ge 10, 3) := by decide +kernel
theorem dX12_old_18 : decode cX12_old 18 = .ok (.aload_n 0, 1) := by decide +kernel
theorem dX12_old_19 : decode cX12_old 19 = .ok (.bipush (-4), 2) := by decide +kernel
theorem dX12_old_21 : decode cX12_old 21 = .ok (.invokevirtual 154, 3) := by decide +kernel
theorem dX12_old_24 : decode cX12_old 24 = .ok (.ireturn, 1) := by decide +kernel
theorem dX12_old_25 : decode cX12_old 25 = .ok (.iload_n 1, 1) := by decide +kernel
theorem dX12_old_26 : decode cX12_old 26 = .ok (.sipush 999, 3) := by decide +kernel
theorem dX12_old_29 : decode cX12_old 29 = .ok (.if_icmp .gt 15, 3) := by decide +kernel
theorem dX12_old_32 : decode cX12_old 32 = .ok (.iload_n 2, 1) := by decide +kernel
theorem dX12_old_33 : decode cX12_old 33 = .ok (.bipush 99, 2) := by decide +kernel
theorem dX12_old_35 : decode cX12_old 35 = .ok (.if_icmp .gt 9, 3) := by decide +kernel
theorem dX12_old_38 : decode cX12_old 38 = .ok (.iload_n 3, 1) := by decide +kernel
theorem dX12_old_39 : decode cX12_old 39 = .ok (.bipush 9, 2) := by decide +kernel
theorem dX12_old_41 : decode cX12_old 41 = .ok (.if_icmp .le 10, 3) := by decide +kernel
theorem dX12_old_44 : decode cX12_old 44 = .ok (.aload_n 0, 1) := by decide +kernel
theorem dX12_old_45 : decode cX12_old 45 = .ok (.bipush (-6), 2) := by decide +kernel
theorem dX12_old_47 : decode cX12_old 47 = .ok (.invokevirtual 154, 3) := by decide +kernel
theorem dX12_old_50 : decode cX12_old 50 = .ok (.ireturn, 1) := by decide +kernel
theorem dX12_old_51 : decode cX12_old 51 = .ok (.iload 4, 2) := by decide +kernel
theorem dX12_old_53 : decode cX12_old 53 = .ok (.i2l, 1) := by decide +kernel
theorem dX12_old_54 : decode cX12_old 54 = .ok (.lconst 0, 1) := by decide +kernel
theorem dX12_old_55 : decode cX12_old 55 = .ok (.lconst 1, 1) := by decide +kernel
theorem dX12_old_56 : decode cX12_old 56 = .ok (.invokestatic 108, 3) := by decide +kernel
theorem dX12_old_59 : decode cX12_old 59 = .ok (.ifCond .ne 10, 3) := by decide +kernel
theorem dX12_old_62 : decode cX12_old 62 = .ok (.aload_n 0, 1) := by decide +kernel
theorem dX12_old_63 : decode cX12_old 63 = .ok (.bipush (-2), 2) := by decide +kernel
theorem dX12_old_65 : decode cX12_old 65 = .ok (.invokevirtual 154, 3) := by decide +kernel
theorem dX12_old_68 : decode cX12_old 68 = .ok (.ireturn, 1) := by decide +kernel
theorem dX12_old_69 : decode cX12_old 69 = .ok (.iload_n 1, 1) := by decide +kernel
theorem dX12_old_70 : decode cX12_old 70 = .ok (.iload_n 3, 1) := by decide +kernel
theorem dX12_old_71 : decode cX12_old 71 = .ok (.if_icmp .ge 7, 3) := by decide +kernel
theorem dX12_old_74 : decode cX12_old 74 = .ok (.iconst 0, 1) := by decide +kernel
theorem dX12_old_75 : decode cX12_old 75 = .ok (.goto 6, 3) := by decide +kernel
theorem dX12_old_78 : decode cX12_old 78 = .ok (.iload_n 1, 1) := by decide +kernel
theorem dX12_old_79 : decode cX12_old 79 = .ok (.iload_n 3, 1) := by decide +kernel
theorem dX12_old_80 : decode cX12_old 80 = .ok (.isub, 1) := by decide +kernel
theorem dX12_old_81 : decode cX12_old 81 = .ok (.istore 5, 2) := by decide +kernel
theorem dX12_old_83 : decode cX12_old 83 = .ok (.iload 4, 2) := by decide +kernel
theorem dX12_old_85 : decode cX12_old 85 = .ok (.ifCond .ne 10, 3) := by decide +kernel
theorem dX12_old_88 : decode cX12_old 88 = .ok (.iload 5, 2) := by decide +kernel
theorem dX12_old_90 : decode cX12_old 90 = .ok (.iload_n 2, 1) := by decide +kernel
theorem dX12_old_91 : decode cX12_old 91 = .ok (.idiv, 1) := by decide +kernel
theorem dX12_old_92 : decode cX12_old 92 = .ok (.goto 8, 3) := by decide +kernel
theorem dX12_old_95 : decode cX12_old 95 = .ok (.iload_n 1, 1) := by decide +kernel
theorem dX12_old_96 : decode cX12_old 96 = .ok (.iload_n 3, 1) := by decide +kernel
theorem dX12_old_97 : decode cX12_old 97 = .ok (.iadd, 1) := by decide +kernel
theorem dX12_old_98 : decode cX12_old 98 = .ok (.iload_n 2, 1) := by decide +kernel
theorem dX12_old_99 : decode cX12_old 99 = .ok (.idiv, 1) := by decide +kernel
theorem dX12_old_100 : decode cX12_old 100 = .ok (.ireturn, 1) := by decide +kernel
noncomputable def g_M_old_18 (σ : am_St) : Option (Int32 × am_St) :=
  (f_M_refuse (-4) σ).bind (fun p1 =>
    some ((p1.1, p1.2)))
noncomputable def f_M_old_18 (σ : am_St) : Option (Int32 × am_St) := am_lk (g_M_old_18  σ)
theorem eq_M_old_18 (σ : am_St) : f_M_old_18  σ = g_M_old_18  σ := am_lk_eq _
set_option maxRecDepth 100000 in
set_option maxHeartbeats 4000000 in
theorem s_M_old_18 (G : am_G) (σ : am_St) (r : Int32 × am_St) (Q : am_AQ) (e : f_M_old_18  σ = some r) (hr : am_Pi r Q) : am_AW G M_M_old 18 [(0, .ref 66)] [] σ Q :=
  (show am_Snd G M_M_old 18 am_Pi _ from (sn_aload_n (pc := 18) (i := 0) dX12_old_18 rfl (sn_bipush (pc := 19) (v := (-4)) dX12_old_19 (show (Int8.ofInt (-4)).toInt32 = (-4) by decide) (sn_callV (pc := 21) (N := M_M_refuse) dX12_old_21 (cal_M_refuse G) sh_66 rfl tw_1090 tw_1092 tp_23 tw_12 tw_1093 dsc_X12_refuse rfl (sn_reti (pc := 24) (R := fun x τ => (some ((x, τ)))) dX12_old_24 rfl (fun _ _ _ _ e h => by cases e; exact h)))))) _ _ _ _ _ ((eq_M_old_18  σ).symm.trans e) hr
noncomputable def g_M_old_44 (σ : am_St) : Option (Int32 × am_St) :=
  (f_M_refuse (-6) σ).bind (fun p1 =>
    some ((p1.1, p1.2)))
noncomputable def f_M_old_44 (σ : am_St) : Option (Int32 × am_St) := am_lk (g_M_old_44  σ)
theorem eq_M_old_44 (σ : am_St) : f_M_old_44  σ = g_M_old_44  σ := am_lk_eq _
set_option maxRecDepth 100000 in
set_option maxHeartbeats 4000000 in
theorem s_M_old_44 (G : am_G) (σ : am_St) (r : Int32 × am_St) (Q : am_AQ) (e : f_M_old_44  σ = some r) (hr : am_Pi r Q) : am_AW G M_M_old 44 [(0, .ref 66)] [] σ Q :=
  (show am_Snd G M_M_old 44 am_Pi _ from (sn_aload_n (pc := 44) (i := 0) dX12_old_44 rfl (sn_bipush (pc := 45) (v := (-6)) dX12_old_45 (show (Int8.ofInt (-6)).toInt32 = (-6) by decide) (sn_callV (pc := 47) (N := M_M_refuse) dX12_old_47 (cal_M_refuse G) sh_66 rfl tw_1090 tw_1092 tp_23 tw_12 tw_1093 dsc_X12_refuse rfl (sn_reti (pc := 50) (R := fun x τ => (some ((x, τ)))) dX12_old_50 rfl (fun _ _ _ _ e h => by cases e; exact h)))))) _ _ _ _ _ ((eq_M_old_44  σ).symm.trans e) hr
noncomputable def g_M_old_62 (σ : am_St) : Option (Int32 × am_St) :=
  (f_M_refuse (-2) σ).bind (fun p1 =>
    some ((p1.1, p1.2)))
noncomputable def f_M_old_62 (σ : am_St) : Option (Int32 × am_St) := am_lk (g_M_old_62  σ)
theorem eq_M_old_62 (σ : am_St) : f_M_old_62  σ = g_M_old_62  σ := am_lk_eq _
set_option maxRecDepth 100000 in
set_option maxHeartbeats 4000000 in
theorem s_M_old_62 (G : am_G) (σ : am_St) (r : Int32 × am_St) (Q : am_AQ) (e : f_M_old_62  σ = some r) (hr : am_Pi r Q) : am_AW G M_M_old 62 [(0, .ref 66)] [] σ Q :=
  (show am_Snd G M_M_old 62 am_Pi _ from (sn_aload_n (pc := 62) (i := 0) dX12_old_62 rfl (sn_bipush (pc := 63) (v := (-2)) dX12_old_63 (show (Int8.ofInt (-2)).toInt32 = (-2) by decide) (sn_callV (pc := 65) (N := M_M_refuse) dX12_old_65 (cal_M_refuse G) sh_66 rfl tw_1090 tw_1092 tp_23 tw_12 tw_1093 dsc_X12_refuse rfl (sn_reti (pc := 68) (R := fun x τ => (some ((x, τ)))) dX12_old_68 rfl (fun _ _ _ _ e h => by cases e; exact h)))))) _ _ _ _ _ ((eq_M_old_62  σ).symm.trans e) hr
noncomputable def g_M_old_81 (x1 : Int32) (x2 : Int32) (x3 : Int32) (x4 : Int32) (y0 : Int32) (σ : am_St) : Option (Int32 × am_St) :=
  if x4 = 0 then
    if x2 = 0 then none else
      some ((y0 / x2, σ))
  else
    if x2 = 0 then none else
      some (((x1 + x3) / x2, σ))
noncomputable def f_M_old_81 (x1 : Int32) (x2 : Int32) (x3 : Int32) (x4 : Int32) (y0 : Int32) (σ : am_St) : Option (Int32 × am_St) := am_lk (g_M_old_81 x1 x2 x3 x4 y0 σ)
theorem eq_M_old_81 (x1 : Int32) (x2 : Int32) (x3 : Int32) (x4 : Int32) (y0 : Int32) (σ : am_St) : f_M_old_81 x1 x2 x3 x4 y0 σ = g_M_old_81 x1 x2 x3 x4 y0 σ := am_lk_eq _
set_option maxRecDepth 100000 in
set_option maxHeartbeats 4000000 in
theorem s_M_old_81 (G : am_G) (x1 : Int32) (x2 : Int32) (x3 : Int32) (x4 : Int32) (y0 : Int32) (σ : am_St) (r : Int32 × am_St) (Q : am_AQ) (e : f_M_old_81 x1 x2 x3 x4 y0 σ = some r) (hr : am_Pi r Q) : am_AW G M_M_old 81 [(4, .int x4), (3, .int x3), (2, .int x2), (1, .int x1)] [.int y0] σ Q :=
  (show am_Snd G M_M_old 81 am_Pi _ from (sn_istore (pc := 81) dX12_old_81 (Nat.le_of_ble_eq_true rfl) (sn_iload (pc := 83) dX12_old_83 (sn_if_ne (pc := 85) (tgt := 95) dX12_old_85 rfl (sn_iload_n (pc := 95) (i := 1) dX12_old_95 rfl (sn_iload_n (pc := 96) (i := 3) dX12_old_96 rfl (sn_iadd (pc := 97) dX12_old_97 (sn_iload_n (pc := 98) (i := 2) dX12_old_98 rfl (sn_idiv (pc := 99) dX12_old_99 (sn_reti (pc := 100) (R := fun x τ => (some ((x, τ)))) dX12_old_100 rfl (fun _ _ _ _ e h => by cases e; exact h))))))) (sn_iload (pc := 88) dX12_old_88 (sn_iload_n (pc := 90) (i := 2) dX12_old_90 rfl (sn_idiv (pc := 91) dX12_old_91 (sn_goto (pc := 92) (tgt := 100) dX12_old_92 rfl (sn_reti (pc := 100) (R := fun x τ => (some ((x, τ)))) dX12_old_100 rfl (fun _ _ _ _ e h => by cases e; exact h)))))))))) _ _ _ _ _ ((eq_M_old_81 x1 x2 x3 x4 y0 σ).symm.trans e) hr
noncomputable def g_M_old_69 (x1 : Int32) (x2 : Int32) (x3 : Int32) (x4 : Int32) (σ : am_St) : Option (Int32 × am_St) :=
  if x3 ≤ x1 then
    f_M_old_81 x1 x2 x3 x4 (x1 - x3) σ
  else
    f_M_old_81 x1 x2 x3 x4 0 σ
noncomputable def f_M_old_69 (x1 : Int32) (x2 : Int32) (x3 : Int32) (x4 : Int32) (σ : am_St) : Option (Int32 × am_St) := am_lk (g_M_old_69 x1 x2 x3 x4 σ)
theorem eq_M_old_69 (x1 : Int32) (x2 : Int32) (x3 : Int32) (x4 : Int32) (σ : am_St) : f_M_old_69 x1 x2 x3 x4 σ = g_M_old_69 x1 x2 x3 x4 σ := am_lk_eq _
set_option maxRecDepth 100000 in
set_option maxHeartbeats 4000000 in
theorem s_M_old_69 (G : am_G) (x1 : Int32) (x2 : Int32) (x3 : Int32) (x4 : Int32) (σ : am_St) (r : Int32 × am_St) (Q : am_AQ) (e : f_M_old_69 x1 x2 x3 x4 σ = some r) (hr : am_Pi r Q) : am_AW G M_M_old 69 [(4, .int x4), (3, .int x3), (2, .int x2), (1, .int x1)] [] σ Q :=
  (show am_Snd G M_M_old 69 am_Pi _ from (sn_iload_n (pc := 69) (i := 1) dX12_old_69 rfl (sn_iload_n (pc := 70) (i := 3) dX12_old_70 rfl (sn_icmp_ge (pc := 71) (tgt := 78) dX12_old_71 rfl (sn_iload_n (pc := 78) (i := 1) dX12_old_78 rfl (sn_iload_n (pc := 79) (i := 3) dX12_old_79 rfl (sn_isub (pc := 80) dX12_old_80 (sn_lf (pc := 81) (ln_i (i := 1) (fun z0 => (ln_i (i := 2) (fun z1 => (ln_i (i := 3) (fun z2 => (ln_i (i := 4) (fun z3 => (ln_si (fun w0 => (ln_end (o := fun τ => f_M_old_81 z0 z1 z2 z3 w0 τ) (fun _ _ _ e h => s_M_old_81 G z0 z1 z2 z3 w0 _ _ _ e h)))))))))))))))) (sn_iconst (pc := 74) (v := 0) dX12_old_74 rfl (sn_goto (pc := 75) (tgt := 81) dX12_old_75 rfl (sn_lf (pc := 81) (ln_i (i := 1) (fun z0 => (ln_i (i := 2) (fun z1 => (ln_i (i := 3) (fun z2 => (ln_i (i := 4) (fun z3 => (ln_si (fun w0 => (ln_end (o := fun τ => f_M_old_81 z0 z1 z2 z3 w0 τ) (fun _ _ _ e h => s_M_old_81 G z0 z1 z2 z3 w0 _ _ _ e h))))))))))))))))))) _ _ _ _ _ ((eq_M_old_69 x1 x2 x3 x4 σ).symm.trans e) hr
noncomputable def g_M_old (x1 : Int32) (x2 : Int32) (x3 : Int32) (x4 : Int32) (σ : am_St) : Option (Int32 × am_St) :=
  let s1 := am_sI σ 66 22 0
  if x1 < 0 then
    f_M_old_18 s1
  else
    if x2 < 1 then
      f_M_old_18 s1
    else
      if 0 ≤ x3 then
        if 999 < x1 then
          f_M_old_44 s1
        else
          if 99 < x2 then
            f_M_old_44 s1
          else
            if x3 ≤ 9 then
              (f_M_in x4.toInt64 0 1 s1).bind (fun p2 =>
                if p2.1 = 0 then
                  f_M_old_62 p2.2
                else
                  f_M_old_69 x1 x2 x3 x4 p2.2)
            else
              f_M_old_44 s1
      else
        f_M_old_18 s1
noncomputable def f_M_old (x1 : Int32) (x2 : Int32) (x3 : Int32) (x4 : Int32) (σ : am_St) : Option (Int32 × am_St) := am_lk (g_M_old x1 x2 x3 x4 σ)
theorem eq_M_old (x1 : Int32) (x2 : Int32) (x3 : Int32) (x4 : Int32) (σ : am_St) : f_M_old x1 x2 x3 x4 σ = g_M_old x1 x2 x3 x4 σ := am_lk_eq _
set_option maxRecDepth 100000 in
set_option maxHeartbeats 4000000 in
theorem s_M_old (G : am_G) (x1 : Int32) (x2 : Int32) (x3 : Int32) (x4 : Int32) (σ : am_St) (r : Int32 × am_St) (Q : am_AQ) (e : f_M_old x1 x2 x3 x4 σ = some r) (hr : am_Pi r Q) : am_AW G M_M_old 0 [(0, .ref 66), (1, .int x1), (2, .int x2), (3, .int x3), (4, .int x4)] [] σ Q :=
  (show am_Snd G M_M_old 0 am_Pi _ from (sn_aload_n (pc := 0) (i := 0) dX12_old_0 rfl (sn_iconst (pc := 1) (v := 0) dX12_old_1 rfl (sn_pI (pc := 2) (h := 66) (f := 22) dX12_old_2 am_CL_11 sh_66 rfl (Nat.le_of_ble_eq_true rfl) tw_963 rfl rfl (sn_iload_n (pc := 5) (i := 1) dX12_old_5 rfl (sn_if_lt (pc := 6) (tgt := 18) dX12_old_6 rfl (sn_lf (pc := 18) (ln_a (i := 0) (q := 66) (ln_end (o := fun τ => f_M_old_18 τ) (fun _ _ _ e h => s_M_old_18 G  _ _ _ e h)))) (sn_iload_n (pc := 9) (i := 2) dX12_old_9 rfl (sn_iconst (pc := 10) (v := 1) dX12_old_10 rfl (sn_icmp_lt (pc := 11) (tgt := 18) dX12_old_11 rfl (sn_lf (pc := 18) (ln_a (i := 0) (q := 66) (ln_end (o := fun τ => f_M_old_18 τ) (fun _ _ _ e h => s_M_old_18 G  _ _ _ e h)))) (sn_iload_n (pc := 14) (i := 3) dX12_old_14 rfl (sn_if_ge (pc := 15) (tgt := 25) dX12_old_15 rfl (sn_iload_n (pc := 25) (i := 1) dX12_old_25 rfl (sn_sipush (pc := 26) (v := 999) dX12_old_26 rfl (sn_icmp_gt (pc := 29) (tgt := 44) dX12_old_29 rfl (sn_lf (pc := 44) (ln_a (i := 0) (q := 66) (ln_end (o := fun τ => f_M_old_44 τ) (fun _ _ _ e h => s_M_old_44 G  _ _ _ e h)))) (sn_iload_n (pc := 32) (i := 2) dX12_old_32 rfl (sn_bipush (pc := 33) (v := 99) dX12_old_33 rfl (sn_icmp_gt (pc := 35) (tgt := 44) dX12_old_35 rfl (sn_lf (pc := 44) (ln_a (i := 0) (q := 66) (ln_end (o := fun τ => f_M_old_44 τ) (fun _ _ _ e h => s_M_old_44 G  _ _ _ e h)))) (sn_iload_n (pc := 38) (i := 3) dX12_old_38 rfl (sn_bipush (pc := 39) (v := 9) dX12_old_39 rfl (sn_icmp_le (pc := 41) (tgt := 51) dX12_old_41 rfl (sn_iload (pc := 51) dX12_old_51 (sn_i2l (pc := 53) dX12_old_53 (sn_lconst (pc := 54) (v := 0) dX12_old_54 rfl (sn_lconst (pc := 55) (v := 1) dX12_old_55 rfl (sn_callS (pc := 56) (N := M_M_in) dX12_old_56 (cal_M_in G) tw_1116 tw_1117 tw_12 tw_1118 dsc_X12_in rfl (sn_if_ne (pc := 59) (tgt := 69) dX12_old_59 rfl (sn_lf (pc := 69) (ln_i (i := 1) (fun z0 => (ln_i (i := 2) (fun z1 => (ln_i (i := 3) (fun z2 => (ln_i (i := 4) (fun z3 => (ln_end (o := fun τ => f_M_old_69 z0 z1 z2 z3 τ) (fun _ _ _ e h => s_M_old_69 G z0 z1 z2 z3 _ _ _ e h))))))))))) (sn_lf (pc := 62) (ln_a (i := 0) (q := 66) (ln_end (o := fun τ => f_M_old_62 τ) (fun _ _ _ e h => s_M_old_62 G  _ _ _ e h)))))))))) (sn_lf (pc := 44) (ln_a (i := 0) (q := 66) (ln_end (o := fun τ => f_M_old_44 τ) (fun _ _ _ e h => s_M_old_44 G  _ _ _ e h))))))))))))) (sn_lf (pc := 18) (ln_a (i := 0) (q := 66) (ln_end (o := fun τ => f_M_old_18 τ) (fun _ _ _ e h => s_M_old_18 G  _ _ _ e h))))))))))))))) _ _ _ _ _ ((eq_M_old x1 x2 x3 x4 σ).symm.trans e) hr
noncomputable def cF_M_old : am_Fn := fun _ args σ K => match args with
  | [.ref q0, .int z1, .int z2, .int z3, .int z4] => match Nat.beq q0 66 with
    | true => (f_M_old z1 z2 z3 z4 σ).bind (fun p => K (some (.int p.1)) p.2)
    | _ => none
  | _ => none
theorem cal_M_old (G : am_G) : am_Cal G M_M_old cF_M_old := by
  intro ρ args σ K r e
  unfold cF_M_old at e
  split at e
  · split at e
    · rename_i hq0
      obtain ⟨p, h1, h2⟩ := am_bind_some e
      rw [Nat.eq_of_beq_eq_true hq0]
      exact ⟨some (.int p.1), p.2, am_Met.of rfl (Nat.le_of_ble_eq_true rfl) (s_M_old G _ _ _ _ σ p _ h1 ⟨rfl, rfl⟩), h2⟩
    · cases e
  · cases e
