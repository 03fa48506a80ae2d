abbrev M_M_layWeights : am_MD := (yX12_layWeights, cX12_layWeights, 4, none, 4, 89)
theorem dX12_layWeights_0 : decode cX12_layWeights 0 = .ok (.lconst 1, 1) := by decide +kernel
theorem dX12_layWeights_1 : decode cX12_layWeights 1 = .ok (.lstore_n 1, 1) := by decide +kernel
theorem dX12_layWeights_2 : decode cX12_layWeights 2 = .ok (.iconst 0, 1) := by decide +kernel
theorem dX12_layWeights_3 : decode cX12_layWeights 3 = .ok (.istore_n 3, 1) := by decide +kernel
theorem dX12_layWeights_4 : decode cX12_layWeights 4 = .ok (.iload_n 3, 1) := by decide +kernel
theorem dX12_layWeights_5 : decode cX12_layWeights 5 = .ok (.aload_n 0, 1) := by decide +kernel
theorem dX12_layWeights_6 : decode cX12_layWeights 6 = .ok (.getfield 105, 3) := by decide +kernel
theorem dX12_layWeights_9 : decode cX12_layWeights 9 = .ok (.if_icmp .ge 18, 3) := by decide +kernel
theorem dX12_layWeights_12 : decode cX12_layWeights 12 = .ok (.lload_n 1, 1) := by decide +kernel
theorem dX12_layWeights_13 : decode cX12_layWeights 13 = .ok (.aload_n 0, 1) := by decide +kernel
theorem dX12_layWeights_14 : decode cX12_layWeights 14 = .ok (.iload_n 3, 1) := by decide +kernel
theorem dX12_layWeights_15 : decode cX12_layWeights 15 = .ok (.invokevirtual 137, 3) := by decide +kernel
theorem dX12_layWeights_18 : decode cX12_layWeights 18 = .ok (.i2l, 1) := by decide +kernel
theorem dX12_layWeights_19 : decode cX12_layWeights 19 = .ok (.lmul, 1) := by decide +kernel
theorem dX12_layWeights_20 : decode cX12_layWeights 20 = .ok (.lstore_n 1, 1) := by decide +kernel
theorem dX12_layWeights_21 : decode cX12_layWeights 21 = .ok (.iinc 3 1, 3) := by decide +kernel
theorem dX12_layWeights_24 : decode cX12_layWeights 24 = .ok (.goto (-20), 3) := by decide +kernel
theorem dX12_layWeights_27 : decode cX12_layWeights 27 = .ok (.aload_n 0, 1) := by decide +kernel
theorem dX12_layWeights_28 : decode cX12_layWeights 28 = .ok (.lconst 0, 1) := by decide +kernel
theorem dX12_layWeights_29 : decode cX12_layWeights 29 = .ok (.putfield 274, 3) := by decide +kernel
theorem dX12_layWeights_32 : decode cX12_layWeights 32 = .ok (.iconst 0, 1) := by decide +kernel
theorem dX12_layWeights_33 : decode cX12_layWeights 33 = .ok (.istore_n 3, 1) := by decide +kernel
theorem dX12_layWeights_34 : decode cX12_layWeights 34 = .ok (.iload_n 3, 1) := by decide +kernel
theorem dX12_layWeights_35 : decode cX12_layWeights 35 = .ok (.bipush 7, 2) := by decide +kernel
theorem dX12_layWeights_37 : decode cX12_layWeights 37 = .ok (.if_icmp .ge 83, 3) := by decide +kernel
theorem dX12_layWeights_40 : decode cX12_layWeights 40 = .ok (.aload_n 0, 1) := by decide +kernel
theorem dX12_layWeights_41 : decode cX12_layWeights 41 = .ok (.getfield 92, 3) := by decide +kernel
theorem dX12_layWeights_44 : decode cX12_layWeights 44 = .ok (.iload_n 3, 1) := by decide +kernel
theorem dX12_layWeights_45 : decode cX12_layWeights 45 = .ok (.iload_n 3, 1) := by decide +kernel
theorem dX12_layWeights_46 : decode cX12_layWeights 46 = .ok (.iconst 3, 1) := by decide +kernel
theorem dX12_layWeights_47 : decode cX12_layWeights 47 = .ok (.if_icmp .le 17, 3) := by decide +kernel
theorem dX12_layWeights_50 : decode cX12_layWeights 50 = .ok (.lload_n 1, 1) := by decide +kernel
theorem dX12_layWeights_51 : decode cX12_layWeights 51 = .ok (.aload_n 0, 1) := by decide +kernel
theorem dX12_layWeights_52 : decode cX12_layWeights 52 = .ok (.getfield 47, 3) := by decide +kernel
theorem dX12_layWeights_55 : decode cX12_layWeights 55 = .ok (.iload_n 3, 1) := by decide +kernel
theorem dX12_layWeights_56 : decode cX12_layWeights 56 = .ok (.iconst 4, 1) := by decide +kernel
theorem dX12_layWeights_57 : decode cX12_layWeights 57 = .ok (.isub, 1) := by decide +kernel
theorem dX12_layWeights_58 : decode cX12_layWeights 58 = .ok (.iaload, 1) := by decide +kernel
theorem dX12_layWeights_59 : decode cX12_layWeights 59 = .ok (.i2l, 1) := by decide +kernel
theorem dX12_layWeights_60 : decode cX12_layWeights 60 = .ok (.lmul, 1) := by decide +kernel
theorem dX12_layWeights_61 : decode cX12_layWeights 61 = .ok (.goto 37, 3) := by decide +kernel
theorem dX12_layWeights_64 : decode cX12_layWeights 64 = .ok (.iload_n 3, 1) := by decide +kernel
theorem dX12_layWeights_65 : decode cX12_layWeights 65 = .ok (.aload_n 0, 1) := by decide +kernel
theorem dX12_layWeights_66 : decode cX12_layWeights 66 = .ok (.getfield 105, 3) := by decide +kernel
theorem dX12_layWeights_69 : decode cX12_layWeights 69 = .ok (.if_icmp .ge 28, 3) := by decide +kernel
theorem dX12_layWeights_72 : decode cX12_layWeights 72 = .ok (.lload_n 1, 1) := by decide +kernel
theorem dX12_layWeights_73 : decode cX12_layWeights 73 = .ok (.aload_n 0, 1) := by decide +kernel
theorem dX12_layWeights_74 : decode cX12_layWeights 74 = .ok (.iload_n 3, 1) := by decide +kernel
theorem dX12_layWeights_75 : decode cX12_layWeights 75 = .ok (.invokevirtual 137, 3) := by decide +kernel
theorem dX12_layWeights_78 : decode cX12_layWeights 78 = .ok (.i2l, 1) := by decide +kernel
theorem dX12_layWeights_79 : decode cX12_layWeights 79 = .ok (.ldiv, 1) := by decide +kernel
theorem dX12_layWeights_80 : decode cX12_layWeights 80 = .ok (.aload_n 0, 1) := by decide +kernel
theorem dX12_layWeights_81 : decode cX12_layWeights 81 = .ok (.iload_n 3, 1) := by decide +kernel
theorem dX12_layWeights_82 : decode cX12_layWeights 82 = .ok (.invokevirtual 271, 3) := by decide +kernel
theorem dX12_layWeights_85 : decode cX12_layWeights 85 = .ok (.i2l, 1) := by decide +kernel
theorem dX12_layWeights_86 : decode cX12_layWeights 86 = .ok (.lmul, 1) := by decide +kernel
theorem dX12_layWeights_87 : decode cX12_layWeights 87 = .ok (.aload_n 0, 1) := by decide +kernel
theorem dX12_layWeights_88 : decode cX12_layWeights 88 = .ok (.iload_n 3, 1) := by decide +kernel
theorem dX12_layWeights_89 : decode cX12_layWeights 89 = .ok (.invokevirtual 262, 3) := by decide +kernel
theorem dX12_layWeights_92 : decode cX12_layWeights 92 = .ok (.i2l, 1) := by decide +kernel
theorem dX12_layWeights_93 : decode cX12_layWeights 93 = .ok (.lmul, 1) := by decide +kernel
theorem dX12_layWeights_94 : decode cX12_layWeights 94 = .ok (.goto 4, 3) := by decide +kernel
theorem dX12_layWeights_97 : decode cX12_layWeights 97 = .ok (.lconst 0, 1) := by decide +kernel
theorem dX12_layWeights_98 : decode cX12_layWeights 98 = .ok (.lastore, 1) := by decide +kernel
theorem dX12_layWeights_99 : decode cX12_layWeights 99 = .ok (.aload_n 0, 1) := by decide +kernel
theorem dX12_layWeights_100 : decode cX12_layWeights 100 = .ok (.dup, 1) := by decide +kernel
theorem dX12_layWeights_101 : decode cX12_layWeights 101 = .ok (.getfield 274, 3) := by decide +kernel
theorem dX12_layWeights_104 : decode cX12_layWeights 104 = .ok (.aload_n 0, 1) := by decide +kernel
theorem dX12_layWeights_105 : decode cX12_layWeights 105 = .ok (.getfield 92, 3) := by decide +kernel
theorem dX12_layWeights_108 : decode cX12_layWeights 108 = .ok (.iload_n 3, 1) := by decide +kernel
theorem dX12_layWeights_109 : decode cX12_layWeights 109 = .ok (.laload, 1) := by decide +kernel
theorem dX12_layWeights_110 : decode cX12_layWeights 110 = .ok (.ladd, 1) := by decide +kernel
theorem dX12_layWeights_111 : decode cX12_layWeights 111 = .ok (.putfield 274, 3) := by decide +kernel
theorem dX12_layWeights_114 : decode cX12_layWeights 114 = .ok (.iinc 3 1, 3) := by decide +kernel
theorem dX12_layWeights_117 : decode cX12_layWeights 117 = .ok (.goto (-83), 3) := by decide +kernel
theorem dX12_layWeights_120 : decode cX12_layWeights 120 = .ok (.return_, 1) := by decide +kernel
abbrev Pl_M_layWeights_34 (G : am_G) : ((Int64 × Int32 × am_St) ⊕ (am_St)) → am_AQ → Prop := am_PL G M_M_layWeights 34 (fun s : Int64 × Int32 × am_St => [(3, .int s.2.1), (1, .long s.1), (0, .ref 66)]) (fun s => s.2.2) am_Pv
abbrev Pl_M_layWeights_4 (G : am_G) : ((Int64 × Int32 × am_St) ⊕ (am_St)) → am_AQ → Prop := am_PL G M_M_layWeights 4 (fun s : Int64 × Int32 × am_St => [(3, .int s.2.1), (1, .long s.1), (0, .ref 66)]) (fun s => s.2.2) am_Pv
noncomputable def g_M_layWeights_98 (x1 : Int64) (x3 : Int32) (y1 : Int32) (y2 : Int64) (σ : am_St) : Option ((Int64 × Int32 × am_St) ⊕ (am_St)) :=
  if am_ix y1 7 = true then
    let s1 := am_sL σ 92 y1.toNatClampNeg y2
    if am_ix x3 7 = true then
      let s2 := am_sL s1 66 43 ((s1.2.1 66 43) + (s1.2.1 92 x3.toNatClampNeg))
      let v3 := x3 + 1
      some (.inl (x1, v3, s2))
    else none
  else none
noncomputable def f_M_layWeights_98 (x1 : Int64) (x3 : Int32) (y1 : Int32) (y2 : Int64) (σ : am_St) : Option ((Int64 × Int32 × am_St) ⊕ (am_St)) := am_lk (g_M_layWeights_98 x1 x3 y1 y2 σ)
theorem eq_M_layWeights_98 (x1 : Int64) (x3 : Int32) (y1 : Int32) (y2 : Int64) (σ : am_St) : f_M_layWeights_98 x1 x3 y1 y2 σ = g_M_layWeights_98 x1 x3 y1 y2 σ := am_lk_eq _
set_option maxRecDepth 100000 in
set_option maxHeartbeats 4000000 in
theorem s_M_layWeights_98 (G : am_G) (x1 : Int64) (x3 : Int32) (y1 : Int32) (y2 : Int64) (σ : am_St) (r : (Int64 × Int32 × am_St) ⊕ (am_St)) (Q : am_AQ) (e : f_M_layWeights_98 x1 x3 y1 y2 σ = some r) (hr : (Pl_M_layWeights_34 G) r Q) : am_AW G M_M_layWeights 98 [(3, .int x3), (1, .long x1), (0, .ref 66)] [.long y2, .int y1, .ref 92] σ Q :=
  (show am_Snd G M_M_layWeights 98 (Pl_M_layWeights_34 G) _ from (sn_sL (pc := 98) (h := 92) dX12_layWeights_98 sh_92 (sn_aload_n (pc := 99) (i := 0) dX12_layWeights_99 rfl (sn_dup (pc := 100) dX12_layWeights_100 (sn_gL (pc := 101) (h := 66) (f := 43) dX12_layWeights_101 am_CL_11 sh_66 rfl (Nat.le_of_ble_eq_true rfl) tw_984 (sn_aload_n (pc := 104) (i := 0) dX12_layWeights_104 rfl (sn_gR (r0 := 92) (pc := 105) (h := 66) (f := 42) dX12_layWeights_105 am_CL_11 sh_66 rfl (Nat.le_of_ble_eq_true rfl) tw_983 (sn_iload_n (pc := 108) (i := 3) dX12_layWeights_108 rfl (sn_aL (pc := 109) (h := 92) dX12_layWeights_109 sh_92 (sn_ladd (pc := 110) dX12_layWeights_110 (sn_pL (pc := 111) (h := 66) (f := 43) dX12_layWeights_111 am_CL_11 sh_66 rfl (Nat.le_of_ble_eq_true rfl) tw_984 rfl rfl (sn_iinc (pc := 114) (v := 1) dX12_layWeights_114 rfl (Nat.le_of_ble_eq_true rfl) (sn_goto (pc := 117) (tgt := 34) dX12_layWeights_117 rfl (sn_lf (pc := 34) (ln_a (i := 0) (q := 66) (ln_l (i := 1) (fun z0 => (ln_i (i := 3) (fun z1 => (ln_end (o := fun τ => (some (.inl (z0, z1, τ)) : Option ((Int64 × Int32 × am_St) ⊕ (am_St)))) (fun _ _ _ e h => by cases e; exact h))))))))))))))))))))) _ _ _ _ _ ((eq_M_layWeights_98 x1 x3 y1 y2 σ).symm.trans e) hr
noncomputable def g_M_layWeights_92 (x1 : Int64) (x3 : Int32) (y1 : Int32) (y2 : Int64) (y3 : Int32) (σ : am_St) : Option ((Int64 × Int32 × am_St) ⊕ (am_St)) :=
  f_M_layWeights_98 x1 x3 y1 (y2 * y3.toInt64) σ
noncomputable def f_M_layWeights_92 (x1 : Int64) (x3 : Int32) (y1 : Int32) (y2 : Int64) (y3 : Int32) (σ : am_St) : Option ((Int64 × Int32 × am_St) ⊕ (am_St)) := am_lk (g_M_layWeights_92 x1 x3 y1 y2 y3 σ)
theorem eq_M_layWeights_92 (x1 : Int64) (x3 : Int32) (y1 : Int32) (y2 : Int64) (y3 : Int32) (σ : am_St) : f_M_layWeights_92 x1 x3 y1 y2 y3 σ = g_M_layWeights_92 x1 x3 y1 y2 y3 σ := am_lk_eq _
set_option maxRecDepth 100000 in
set_option maxHeartbeats 4000000 in
theorem s_M_layWeights_92 (G : am_G) (x1 : Int64) (x3 : Int32) (y1 : Int32) (y2 : Int64) (y3 : Int32) (σ : am_St) (r : (Int64 × Int32 × am_St) ⊕ (am_St)) (Q : am_AQ) (e : f_M_layWeights_92 x1 x3 y1 y2 y3 σ = some r) (hr : (Pl_M_layWeights_34 G) r Q) : am_AW G M_M_layWeights 92 [(3, .int x3), (1, .long x1), (0, .ref 66)] [.int y3, .long y2, .int y1, .ref 92] σ Q :=
  (show am_Snd G M_M_layWeights 92 (Pl_M_layWeights_34 G) _ from (sn_i2l (pc := 92) dX12_layWeights_92 (sn_lmul (pc := 93) dX12_layWeights_93 (sn_goto (pc := 94) (tgt := 98) dX12_layWeights_94 rfl (sn_lf (pc := 98) (ln_a (i := 0) (q := 66) (ln_l (i := 1) (fun z0 => (ln_i (i := 3) (fun z1 => (ln_sl (fun w2 => (ln_si (fun w1 => (ln_sa (q := 92) (ln_end (o := fun τ => f_M_layWeights_98 z0 z1 w1 w2 τ) (fun _ _ _ e h => s_M_layWeights_98 G z0 z1 w1 w2 _ _ _ e h))))))))))))))))) _ _ _ _ _ ((eq_M_layWeights_92 x1 x3 y1 y2 y3 σ).symm.trans e) hr
noncomputable def b_M_layWeights_34 (x1 : Int64) (x3 : Int32) (σ : am_St) : Option ((Int64 × Int32 × am_St) ⊕ (am_St)) :=
  if 7 ≤ x3 then
    some (.inr (σ))
  else
    if x3 ≤ 3 then
      if (σ.1 66 2) ≤ x3 then
        f_M_layWeights_98 x1 x3 x3 0 σ
      else
        (f_M_waysOf x3 σ).bind (fun p1 =>
          if p1.1.toInt64 = 0 then none else
            (f_M_thereOf x3 p1.2).bind (fun p2 =>
              (f_M_guiltOf x3 p2.2).bind (fun p3 =>
                f_M_layWeights_92 x1 x3 x3 ((x1 / p1.1.toInt64) * p2.1.toInt64) p3.1 p3.2)))
    else
      if am_ix (x3 - 4) 3 = true then
        f_M_layWeights_98 x1 x3 x3 (x1 * ((σ.1 77 (x3 - 4).toNatClampNeg).toInt64)) σ
      else none
noncomputable def f_M_layWeights_34 (x1 : Int64) (x3 : Int32) (σ : am_St) : Option (am_St) := am_lp (fun s : Int64 × Int32 × am_St => b_M_layWeights_34 s.1 s.2.1 s.2.2) (x1, x3, σ)
set_option maxRecDepth 100000 in
set_option maxHeartbeats 4000000 in
theorem sb_M_layWeights_34 (G : am_G) (x1 : Int64) (x3 : Int32) (σ : am_St) (r : (Int64 × Int32 × am_St) ⊕ (am_St)) (Q : am_AQ) (e : b_M_layWeights_34 x1 x3 σ = some r) (hr : Pl_M_layWeights_34 G r Q) : am_AW G M_M_layWeights 34 [(3, .int x3), (1, .long x1), (0, .ref 66)] [] σ Q :=
  (show am_Snd G M_M_layWeights 34 (Pl_M_layWeights_34 G) _ from (sn_iload_n (pc := 34) (i := 3) dX12_layWeights_34 rfl (sn_bipush (pc := 35) (v := 7) dX12_layWeights_35 rfl (sn_icmp_ge (pc := 37) (tgt := 120) dX12_layWeights_37 rfl (sn_retv (pc := 120) (R := fun τ => (some (.inr (τ)) : Option ((Int64 × Int32 × am_St) ⊕ (am_St)))) dX12_layWeights_120 rfl (fun _ _ _ e h => by cases e; exact h)) (sn_aload_n (pc := 40) (i := 0) dX12_layWeights_40 rfl (sn_gR (r0 := 92) (pc := 41) (h := 66) (f := 42) dX12_layWeights_41 am_CL_11 sh_66 rfl (Nat.le_of_ble_eq_true rfl) tw_983 (sn_iload_n (pc := 44) (i := 3) dX12_layWeights_44 rfl (sn_iload_n (pc := 45) (i := 3) dX12_layWeights_45 rfl (sn_iconst (pc := 46) (v := 3) dX12_layWeights_46 rfl (sn_icmp_le (pc := 47) (tgt := 64) dX12_layWeights_47 rfl (sn_iload_n (pc := 64) (i := 3) dX12_layWeights_64 rfl (sn_aload_n (pc := 65) (i := 0) dX12_layWeights_65 rfl (sn_gI (pc := 66) (h := 66) (f := 2) dX12_layWeights_66 am_CL_11 sh_66 rfl (Nat.le_of_ble_eq_true rfl) tw_943 (sn_icmp_ge (pc := 69) (tgt := 97) dX12_layWeights_69 rfl (sn_lconst (pc := 97) (v := 0) dX12_layWeights_97 rfl (sn_lf (pc := 98) (ln_a (i := 0) (q := 66) (ln_l (i := 1) (fun z0 => (ln_i (i := 3) (fun z1 => (ln_sl (fun w2 => (ln_si (fun w1 => (ln_sa (q := 92) (ln_end (o := fun τ => f_M_layWeights_98 z0 z1 w1 w2 τ) (fun _ _ _ e h => s_M_layWeights_98 G z0 z1 w1 w2 _ _ _ e h)))))))))))))) (sn_lload_n (pc := 72) (i := 1) dX12_layWeights_72 rfl (sn_aload_n (pc := 73) (i := 0) dX12_layWeights_73 rfl (sn_iload_n (pc := 74) (i := 3) dX12_layWeights_74 rfl (sn_callV (pc := 75) (N := M_M_waysOf) dX12_layWeights_75 (cal_M_waysOf G) sh_66 rfl tw_1158 tw_1160 tp_37 tw_12 tw_1161 dsc_X12_waysOf rfl (sn_i2l (pc := 78) dX12_layWeights_78 (sn_ldiv (pc := 79) dX12_layWeights_79 (sn_aload_n (pc := 80) (i := 0) dX12_layWeights_80 rfl (sn_iload_n (pc := 81) (i := 3) dX12_layWeights_81 rfl (sn_callV (pc := 82) (N := M_M_thereOf) dX12_layWeights_82 (cal_M_thereOf G) sh_66 rfl tw_1257 tw_1259 tp_50 tw_12 tw_1260 dsc_X12_thereOf rfl (sn_i2l (pc := 85) dX12_layWeights_85 (sn_lmul (pc := 86) dX12_layWeights_86 (sn_aload_n (pc := 87) (i := 0) dX12_layWeights_87 rfl (sn_iload_n (pc := 88) (i := 3) dX12_layWeights_88 rfl (sn_callV (pc := 89) (N := M_M_guiltOf) dX12_layWeights_89 (cal_M_guiltOf G) sh_66 rfl tw_1210 tw_1212 tp_46 tw_12 tw_1213 dsc_X12_guiltOf rfl (sn_lf (pc := 92) (ln_a (i := 0) (q := 66) (ln_l (i := 1) (fun z0 => (ln_i (i := 3) (fun z1 => (ln_si (fun w3 => (ln_sl (fun w2 => (ln_si (fun w1 => (ln_sa (q := 92) (ln_end (o := fun τ => f_M_layWeights_92 z0 z1 w1 w2 w3 τ) (fun _ _ _ e h => s_M_layWeights_92 G z0 z1 w1 w2 w3 _ _ _ e h))))))))))))))))))))))))))))))))) (sn_lload_n (pc := 50) (i := 1) dX12_layWeights_50 rfl (sn_aload_n (pc := 51) (i := 0) dX12_layWeights_51 rfl (sn_gR (r0 := 77) (pc := 52) (h := 66) (f := 17) dX12_layWeights_52 am_CL_11 sh_66 rfl (Nat.le_of_ble_eq_true rfl) tw_958 (sn_iload_n (pc := 55) (i := 3) dX12_layWeights_55 rfl (sn_iconst (pc := 56) (v := 4) dX12_layWeights_56 rfl (sn_isub (pc := 57) dX12_layWeights_57 (sn_aI (pc := 58) (h := 77) dX12_layWeights_58 sh_77 (sn_i2l (pc := 59) dX12_layWeights_59 (sn_lmul (pc := 60) dX12_layWeights_60 (sn_goto (pc := 61) (tgt := 98) dX12_layWeights_61 rfl (sn_lf (pc := 98) (ln_a (i := 0) (q := 66) (ln_l (i := 1) (fun z0 => (ln_i (i := 3) (fun z1 => (ln_sl (fun w2 => (ln_si (fun w1 => (ln_sa (q := 92) (ln_end (o := fun τ => f_M_layWeights_98 z0 z1 w1 w2 τ) (fun _ _ _ e h => s_M_layWeights_98 G z0 z1 w1 w2 _ _ _ e h))))))))))))))))))))))))))))))))) _ _ _ _ _ e hr
theorem s_M_layWeights_34 (G : am_G) (x1 : Int64) (x3 : Int32) (σ : am_St) (r : am_St) (Q : am_AQ) (e : f_M_layWeights_34 x1 x3 σ = some r) (hr : am_Pv r Q) : am_AW G M_M_layWeights 34 [(3, .int x3), (1, .long x1), (0, .ref 66)] [] σ Q :=
  am_loop (P := am_Pv) (L := fun s : Int64 × Int32 × am_St => [(3, .int s.2.1), (1, .long s.1), (0, .ref 66)]) (g := fun s => s.2.2) (fun s o Q e hr => sb_M_layWeights_34 G s.1 s.2.1 s.2.2 o Q e hr) (x1, x3, σ) r Q e hr
noncomputable def b_M_layWeights_4 (x1 : Int64) (x3 : Int32) (σ : am_St) : Option ((Int64 × Int32 × am_St) ⊕ (am_St)) :=
  if (σ.1 66 2) ≤ x3 then
    let s1 := am_sL σ 66 43 0
    (f_M_layWeights_34 x1 0 s1).map (fun r => .inr r)
  else
    (f_M_waysOf x3 σ).bind (fun p2 =>
      let v3 := x1 * p2.1.toInt64
      let v4 := x3 + 1
      some (.inl (v3, v4, p2.2)))
noncomputable def f_M_layWeights_4 (x1 : Int64) (x3 : Int32) (σ : am_St) : Option (am_St) := am_lp (fun s : Int64 × Int32 × am_St => b_M_layWeights_4 s.1 s.2.1 s.2.2) (x1, x3, σ)
set_option maxRecDepth 100000 in
set_option maxHeartbeats 4000000 in
theorem sb_M_layWeights_4 (G : am_G) (x1 : Int64) (x3 : Int32) (σ : am_St) (r : (Int64 × Int32 × am_St) ⊕ (am_St)) (Q : am_AQ) (e : b_M_layWeights_4 x1 x3 σ = some r) (hr : Pl_M_layWeights_4 G r Q) : am_AW G M_M_layWeights 4 [(3, .int x3), (1, .long x1), (0, .ref 66)] [] σ Q :=
  (show am_Snd G M_M_layWeights 4 (Pl_M_layWeights_4 G) _ from (sn_iload_n (pc := 4) (i := 3) dX12_layWeights_4 rfl (sn_aload_n (pc := 5) (i := 0) dX12_layWeights_5 rfl (sn_gI (pc := 6) (h := 66) (f := 2) dX12_layWeights_6 am_CL_11 sh_66 rfl (Nat.le_of_ble_eq_true rfl) tw_943 (sn_icmp_ge (pc := 9) (tgt := 27) dX12_layWeights_9 rfl (sn_aload_n (pc := 27) (i := 0) dX12_layWeights_27 rfl (sn_lconst (pc := 28) (v := 0) dX12_layWeights_28 rfl (sn_pL (pc := 29) (h := 66) (f := 43) dX12_layWeights_29 am_CL_11 sh_66 rfl (Nat.le_of_ble_eq_true rfl) tw_984 rfl rfl (sn_iconst (pc := 32) (v := 0) dX12_layWeights_32 rfl (sn_istore_n (pc := 33) (i := 3) dX12_layWeights_33 rfl (Nat.le_of_ble_eq_true rfl) (sn_lf (pc := 34) (ln_a (i := 0) (q := 66) (ln_l (i := 1) (fun z0 => (ln_i (i := 3) (fun z1 => (ln_end (o := fun τ => ((f_M_layWeights_34 z0 z1 τ).map (fun r => .inr r) : Option ((Int64 × Int32 × am_St) ⊕ (am_St)))) (fun _ _ _ e h => by obtain ⟨r9, e9, rfl⟩ := am_map_some e; exact s_M_layWeights_34 G z0 z1 _ _ _ e9 h))))))))))))) (sn_lload_n (pc := 12) (i := 1) dX12_layWeights_12 rfl (sn_aload_n (pc := 13) (i := 0) dX12_layWeights_13 rfl (sn_iload_n (pc := 14) (i := 3) dX12_layWeights_14 rfl (sn_callV (pc := 15) (N := M_M_waysOf) dX12_layWeights_15 (cal_M_waysOf G) sh_66 rfl tw_1158 tw_1160 tp_37 tw_12 tw_1161 dsc_X12_waysOf rfl (sn_i2l (pc := 18) dX12_layWeights_18 (sn_lmul (pc := 19) dX12_layWeights_19 (sn_lstore_n (pc := 20) (i := 1) dX12_layWeights_20 rfl (Nat.le_of_ble_eq_true rfl) (sn_iinc (pc := 21) (v := 1) dX12_layWeights_21 rfl (Nat.le_of_ble_eq_true rfl) (sn_goto (pc := 24) (tgt := 4) dX12_layWeights_24 rfl (sn_lf (pc := 4) (ln_a (i := 0) (q := 66) (ln_l (i := 1) (fun z0 => (ln_i (i := 3) (fun z1 => (ln_end (o := fun τ => (some (.inl (z0, z1, τ)) : Option ((Int64 × Int32 × am_St) ⊕ (am_St)))) (fun _ _ _ e h => by cases e; exact h)))))))))))))))))))))) _ _ _ _ _ e hr
theorem s_M_layWeights_4 (G : am_G) (x1 : Int64) (x3 : Int32) (σ : am_St) (r : am_St) (Q : am_AQ) (e : f_M_layWeights_4 x1 x3 σ = some r) (hr : am_Pv r Q) : am_AW G M_M_layWeights 4 [(3, .int x3), (1, .long x1), (0, .ref 66)] [] σ Q :=
  am_loop (P := am_Pv) (L := fun s : Int64 × Int32 × am_St => [(3, .int s.2.1), (1, .long s.1), (0, .ref 66)]) (g := fun s => s.2.2) (fun s o Q e hr => sb_M_layWeights_4 G s.1 s.2.1 s.2.2 o Q e hr) (x1, x3, σ) r Q e hr
noncomputable def g_M_layWeights (σ : am_St) : Option (am_St) :=
  f_M_layWeights_4 1 0 σ
noncomputable def f_M_layWeights (σ : am_St) : Option (am_St) := am_lk (g_M_layWeights  σ)
theorem eq_M_layWeights (σ : am_St) : f_M_layWeights  σ = g_M_layWeights  σ := am_lk_eq _
set_option maxRecDepth 100000 in
set_option maxHeartbeats 4000000 in
theorem s_M_layWeights (G : am_G) (σ : am_St) (r : am_St) (Q : am_AQ) (e : f_M_layWeights  σ = some r) (hr : am_Pv r Q) : am_AW G M_M_layWeights 0 [(0, .ref 66)] [] σ Q :=
  (show am_Snd G M_M_layWeights 0 am_Pv _ from (sn_lconst (pc := 0) (v := 1) dX12_layWeights_0 rfl (sn_lstore_n (pc := 1) (i := 1) dX12_layWeights_1 rfl (Nat.le_of_ble_eq_true rfl) (sn_iconst (pc := 2) (v := 0) dX12_layWeights_2 rfl (sn_istore_n (pc := 3) (i := 3) dX12_layWeights_3 rfl (Nat.le_of_ble_eq_true rfl) (sn_lf (pc := 4) (ln_a (i := 0) (q := 66) (ln_l (i := 1) (fun z0 => (ln_i (i := 3) (fun z1 => (ln_end (o := fun τ => f_M_layWeights_4 z0 z1 τ) (fun _ _ _ e h => s_M_layWeights_4 G z0 z1 _ _ _ e h))))))))))))) _ _ _ _ _ ((eq_M_layWeights  σ).symm.trans e) hr
noncomputable def cF_M_layWeights : am_Fn := fun _ args σ K => match args with
  | [.ref q0] => match Nat.beq q0 66 with
    | true => (f_M_layWeights σ).bind (fun p => K none p)
    | _ => none
  | _ => none
theorem cal_M_layWeights (G : am_G) : am_Cal G M_M_layWeights cF_M_layWeights := by
  intro ρ args σ K r e
  unfold cF_M_layWeights at e
  split at e
  · split at e
    · rename_i hq0
      obtain ⟨p, h1, h2⟩ := am_bind_some e
      rw [Nat.eq_of_beq_eq_true hq0]
      exact ⟨none, p, am_Met.of rfl (Nat.le_of_ble_eq_true rfl) (s_M_layWeights G  σ p _ h1 ⟨rfl, rfl⟩), h2⟩
    · cases e
  · cases e
abbrev M_M_divisor : am_MD := (yX12_divisor, cX12_divisor, 10, (some .long), 0, 0)
theorem dX12_divisor_0 : decode cX12_divisor 0 = .ok (.lload_n 0, 1) := by decide +kernel
theorem dX12_divisor_1 : decode cX12_divisor 1 = .ok (.lstore 4, 2) := by decide +kernel
theorem dX12_divisor_3 : decode cX12_divisor 3 = .ok (.lload_n 2, 1) := by decide +kernel
theorem dX12_divisor_4 : decode cX12_divisor 4 = .ok (.lstore 6, 2) := by decide +kernel
theorem dX12_divisor_6 : decode cX12_divisor 6 = .ok (.lload 6, 2) := by decide +kernel
theorem dX12_divisor_8 : decode cX12_divisor 8 = .ok (.lconst 0, 1) := by decide +kernel
theorem dX12_divisor_9 : decode cX12_divisor 9 = .ok (.lcmp, 1) := by decide +kernel
theorem dX12_divisor_10 : decode cX12_divisor 10 = .ok (.ifCond .eq 21, 3) := by decide +kernel
theorem dX12_divisor_13 : decode cX12_divisor 13 = .ok (.lload 4, 2) := by decide +kernel
theorem dX12_divisor_15 : decode cX12_divisor 15 = .ok (.lload 6, 2) := by decide +kernel
theorem dX12_divisor_17 : decode cX12_divisor 17 = .ok (.lrem, 1) := by decide +kernel
theorem dX12_divisor_18 : decode cX12_divisor 18 = .ok (.lstore 8, 2) := by decide +kernel
theorem dX12_divisor_20 : decode cX12_divisor 20 = .ok (.lload 6, 2) := by decide +kernel
theorem dX12_divisor_22 : decode cX12_divisor 22 = .ok (.lstore 4, 2) := by decide +kernel
theorem dX12_divisor_24 : decode cX12_divisor 24 = .ok (.lload 8, 2) := by decide +kernel
theorem dX12_divisor_26 : decode cX12_divisor 26 = .ok (.lstore 6, 2) := by decide +kernel
theorem dX12_divisor_28 : decode cX12_divisor 28 = .ok (.goto (-22), 3) := by decide +kernel
theorem dX12_divisor_31 : decode cX12_divisor 31 = .ok (.lload 4, 2) := by decide +kernel
theorem dX12_divisor_33 : decode cX12_divisor 33 = .ok (.lreturn, 1) := by decide +kernel
abbrev Pl_M_divisor_6 (G : am_G) : ((Int64 × Int64 × am_St) ⊕ (Int64 × am_St)) → am_AQ → Prop := am_PL G M_M_divisor 6 (fun s : Int64 × Int64 × am_St => [(6, .long s.2.1), (4, .long s.1)]) (fun s => s.2.2) am_Pl
noncomputable def b_M_divisor_6 (x4 : Int64) (x6 : Int64) (σ : am_St) : Option ((Int64 × Int64 × am_St) ⊕ (Int64 × am_St)) :=
  if (lg_cmp x6 0) = 0 then
    some (.inr ((x4, σ)))
  else
    if x6 = 0 then none else
      let v1 := am_lrem x4 x6
      some (.inl (x6, v1, σ))
noncomputable def f_M_divisor_6 (x4 : Int64) (x6 : Int64) (σ : am_St) : Option (Int64 × am_St) := am_lp (fun s : Int64 × Int64 × am_St => b_M_divisor_6 s.1 s.2.1 s.2.2) (x4, x6, σ)
set_option maxRecDepth 100000 in
set_option maxHeartbeats 4000000 in
theorem sb_M_divisor_6 (G : am_G) (x4 : Int64) (x6 : Int64) (σ : am_St) (r : (Int64 × Int64 × am_St) ⊕ (Int64 × am_St)) (Q : am_AQ) (e : b_M_divisor_6 x4 x6 σ = some r) (hr : Pl_M_divisor_6 G r Q) : am_AW G M_M_divisor 6 [(6, .long x6), (4, .long x4)] [] σ Q :=
  (show am_Snd G M_M_divisor 6 (Pl_M_divisor_6 G) _ from (sn_lload (pc := 6) dX12_divisor_6 (sn_lconst (pc := 8) (v := 0) dX12_divisor_8 rfl (sn_lcmp (pc := 9) dX12_divisor_9 (sn_if_eq (pc := 10) (tgt := 31) dX12_divisor_10 rfl (sn_lload (pc := 31) dX12_divisor_31 (sn_retl (pc := 33) (R := fun x τ => (some (.inr ((x, τ))) : Option ((Int64 × Int64 × am_St) ⊕ (Int64 × am_St)))) dX12_divisor_33 rfl (fun _ _ _ _ e h => by cases e; exact h))) (sn_lload (pc := 13) dX12_divisor_13 (sn_lload (pc := 15) dX12_divisor_15 (sn_lrem (pc := 17) dX12_divisor_17 (sn_lstore (pc := 18) dX12_divisor_18 (Nat.le_of_ble_eq_true rfl) (sn_lload (pc := 20) dX12_divisor_20 (sn_lstore (pc := 22) dX12_divisor_22 (Nat.le_of_ble_eq_true rfl) (sn_lload (pc := 24) dX12_divisor_24 (sn_lstore (pc := 26) dX12_divisor_26 (Nat.le_of_ble_eq_true rfl) (sn_goto (pc := 28) (tgt := 6) dX12_divisor_28 rfl (sn_lf (pc := 6) (ln_l (i := 4) (fun z0 => (ln_l (i := 6) (fun z1 => (ln_end (o := fun τ => (some (.inl (z0, z1, τ)) : Option ((Int64 × Int64 × am_St) ⊕ (Int64 × am_St)))) (fun _ _ _ e h => by cases e; exact h))))))))))))))))))))) _ _ _ _ _ e hr
theorem s_M_divisor_6 (G : am_G) (x4 : Int64) (x6 : Int64) (σ : am_St) (r : Int64 × am_St) (Q : am_AQ) (e : f_M_divisor_6 x4 x6 σ = some r) (hr : am_Pl r Q) : am_AW G M_M_divisor 6 [(6, .long x6), (4, .long x4)] [] σ Q :=
  am_loop (P := am_Pl) (L := fun s : Int64 × Int64 × am_St => [(6, .long s.2.1), (4, .long s.1)]) (g := fun s => s.2.2) (fun s o Q e hr => sb_M_divisor_6 G s.1 s.2.1 s.2.2 o Q e hr) (x4, x6, σ) r Q e hr
noncomputable def g_M_divisor (x0 : Int64) (x2 : Int64) (σ : am_St) : Option (Int64 × am_St) :=
  f_M_divisor_6 x0 x2 σ
noncomputable def f_M_divisor (x0 : Int64) (x2 : Int64) (σ : am_St) : Option (Int64 × am_St) := am_lk (g_M_divisor x0 x2 σ)
theorem eq_M_divisor (x0 : Int64) (x2 : Int64) (σ : am_St) : f_M_divisor x0 x2 σ = g_M_divisor x0 x2 σ := am_lk_eq _
set_option maxRecDepth 100000 in
set_option maxHeartbeats 4000000 in
theorem s_M_divisor (G : am_G) (x0 : Int64) (x2 : Int64) (σ : am_St) (r : Int64 × am_St) (Q : am_AQ) (e : f_M_divisor x0 x2 σ = some r) (hr : am_Pl r Q) : am_AW G M_M_divisor 0 [(0, .long x0), (2, .long x2)] [] σ Q :=
  (show am_Snd G M_M_divisor 0 am_Pl _ from (sn_lload_n (pc := 0) (i := 0) dX12_divisor_0 rfl (sn_lstore (pc := 1) dX12_divisor_1 (Nat.le_of_ble_eq_true rfl) (sn_lload_n (pc := 3) (i := 2) dX12_divisor_3 rfl (sn_lstore (pc := 4) dX12_divisor_4 (Nat.le_of_ble_eq_true rfl) (sn_lf (pc := 6) (ln_l (i := 4) (fun z0 => (ln_l (i := 6) (fun z1 => (ln_end (o := fun τ => f_M_divisor_6 z0 z1 τ) (fun _ _ _ e h => s_M_divisor_6 G z0 z1 _ _ _ e h)))))))))))) _ _ _ _ _ ((eq_M_divisor x0 x2 σ).symm.trans e) hr
noncomputable def cF_M_divisor : am_Fn := fun _ args σ K => match args with
  | [.long z0, .long z1] => (f_M_divisor z0 z1 σ).bind (fun p => K (some (.long p.1)) p.2)
  | _ => none
theorem cal_M_divisor (G : am_G) : am_Cal G M_M_divisor cF_M_divisor := by
  intro ρ args σ K r e
  unfold cF_M_divisor at e
  split at e
  · obtain ⟨p, h1, h2⟩ := am_bind_some e
    exact ⟨some (.long p.1), p.2, am_Met.of rfl (Nat.le_of_ble_eq_true rfl) (s_M_divisor G _ _ σ p _ h1 ⟨rfl, rfl⟩), h2⟩
  · cases e
abbrev M_M_partOf : am_MD := (yX12_partOf, cX12_partOf, 7, (some .long), 1, 29)
theorem dX12_partOf_0 : decode cX12_partOf 0 = .ok (.lload_n 0, 1) := by decide +kernel
theorem dX12_partOf_1 : decode cX12_partOf 1 = .ok (.lconst 0, 1) := by decide +kernel
theorem dX12_partOf_2 : decode cX12_partOf 2 = .ok (.lcmp, 1) := by decide +kernel
theorem dX12_partOf_3 : decode cX12_partOf 3 = .ok (.ifCond .ne 7, 3) := by decide +kernel
theorem dX12_partOf_6 : decode cX12_partOf 6 = .ok (.iload 4, 2) := by decide +kernel
theorem dX12_partOf_8 : decode cX12_partOf 8 = .ok (.i2l, 1) := by decide +kernel
theorem dX12_partOf_9 : decode cX12_partOf 9 = .ok (.lreturn, 1) := by decide +kernel
theorem dX12_partOf_10 : decode cX12_partOf 10 = .ok (.lload_n 0, 1) := by decide +kernel
theorem dX12_partOf_11 : decode cX12_partOf 11 = .ok (.lload_n 2, 1) := by decide +kernel
theorem dX12_partOf_12 : decode cX12_partOf 12 = .ok (.invokestatic 278, 3) := by decide +kernel
theorem dX12_partOf_15 : decode cX12_partOf 15 = .ok (.lstore 5, 2) := by decide +kernel
theorem dX12_partOf_17 : decode cX12_partOf 17 = .ok (.iload 4, 2) := by decide +kernel
theorem dX12_partOf_19 : decode cX12_partOf 19 = .ok (.ifCond .ne 10, 3) := by decide +kernel
theorem dX12_partOf_22 : decode cX12_partOf 22 = .ok (.lload_n 0, 1) := by decide +kernel
theorem dX12_partOf_23 : decode cX12_partOf 23 = .ok (.lload 5, 2) := by decide +kernel
theorem dX12_partOf_25 : decode cX12_partOf 25 = .ok (.ldiv, 1) := by decide +kernel
theorem dX12_partOf_26 : decode cX12_partOf 26 = .ok (.goto 7, 3) := by decide +kernel
theorem dX12_partOf_29 : decode cX12_partOf 29 = .ok (.lload_n 2, 1) := by decide +kernel
theorem dX12_partOf_30 : decode cX12_partOf 30 = .ok (.lload 5, 2) := by decide +kernel
theorem dX12_partOf_32 : decode cX12_partOf 32 = .ok (.ldiv, 1) := by decide +kernel
theorem dX12_partOf_33 : decode cX12_partOf 33 = .ok (.lreturn, 1) := by decide +kernel
noncomputable def g_M_partOf (x0 : Int64) (x2 : Int64) (x4 : Int32) (σ : am_St) : Option (Int64 × am_St) :=
  if (lg_cmp x0 0) = 0 then
    some ((x4.toInt64, σ))
  else
    (f_M_divisor x0 x2 σ).bind (fun p1 =>
      if x4 = 0 then
        if p1.1 = 0 then none else
          some ((x0 / p1.1, p1.2))
      else
        if p1.1 = 0 then none else
          some ((x2 / p1.1, p1.2)))
noncomputable def f_M_partOf (x0 : Int64) (x2 : Int64) (x4 : Int32) (σ : am_St) : Option (Int64 × am_St) := am_lk (g_M_partOf x0 x2 x4 σ)
theorem eq_M_partOf (x0 : Int64) (x2 : Int64) (x4 : Int32) (σ : am_St) : f_M_partOf x0 x2 x4 σ = g_M_partOf x0 x2 x4 σ := am_lk_eq _
set_option maxRecDepth 100000 in
set_option maxHeartbeats 4000000 in
theorem s_M_partOf (G : am_G) (x0 : Int64) (x2 : Int64) (x4 : Int32) (σ : am_St) (r : Int64 × am_St) (Q : am_AQ) (e : f_M_partOf x0 x2 x4 σ = some r) (hr : am_Pl r Q) : am_AW G M_M_partOf 0 [(0, .long x0), (2, .long x2), (4, .int x4)] [] σ Q :=
  (show am_Snd G M_M_partOf 0 am_Pl _ from (sn_lload_n (pc := 0) (i := 0) dX12_partOf_0 rfl (sn_lconst (pc := 1) (v := 0) dX12_partOf_1 rfl (sn_lcmp (pc := 2) dX12_partOf_2 (sn_if_ne (pc := 3) (tgt := 10) dX12_partOf_3 rfl (sn_lload_n (pc := 10) (i := 0) dX12_partOf_10 rfl (sn_lload_n (pc := 11) (i := 2) dX12_partOf_11 rfl (sn_callS (pc := 12) (N := M_M_divisor) dX12_partOf_12 (cal_M_divisor G) tw_1285 tw_1286 tw_12 tw_1287 dsc_X12_divisor rfl (sn_lstore (pc := 15) dX12_partOf_15 (Nat.le_of_ble_eq_true rfl) (sn_iload (pc := 17) dX12_partOf_17 (sn_if_ne (pc := 19) (tgt := 29) dX12_partOf_19 rfl (sn_lload_n (pc := 29) (i := 2) dX12_partOf_29 rfl (sn_lload (pc := 30) dX12_partOf_30 (sn_ldiv (pc := 32) dX12_partOf_32 (sn_retl (pc := 33) (R := fun x τ => (some ((x, τ)))) dX12_partOf_33 rfl (fun _ _ _ _ e h => by cases e; exact h))))) (sn_lload_n (pc := 22) (i := 0) dX12_partOf_22 rfl (sn_lload (pc := 23) dX12_partOf_23 (sn_ldiv (pc := 25) dX12_partOf_25 (sn_goto (pc := 26) (tgt := 33) dX12_partOf_26 rfl (sn_retl (pc := 33) (R := fun x τ => (some ((x, τ)))) dX12_partOf_33 rfl (fun _ _ _ _ e h => by cases e; exact h)))))))))))) (sn_iload (pc := 6) dX12_partOf_6 (sn_i2l (pc := 8) dX12_partOf_8 (sn_retl (pc := 9) (R := fun x τ => (some ((x, τ)))) dX12_partOf_9 rfl (fun _ _ _ _ e h => by cases e; exact h))))))))) _ _ _ _ _ ((eq_M_partOf x0 x2 x4 σ).symm.trans e) hr
noncomputable def cF_M_partOf : am_Fn := fun _ args σ K => match args with
  | [.long z0, .long z1, .int z2] => (f_M_partOf z0 z1 z2 σ).bind (fun p => K (some (.long p.1)) p.2)
  | _ => none
theorem cal_M_partOf (G : am_G) : am_Cal G M_M_partOf cF_M_partOf := by
  intro ρ args σ K r e
  unfold cF_M_partOf at e
  split at e
  · obtain ⟨p, h1, h2⟩ := am_bind_some e
    exact ⟨some (.long p.1), p.2, am_Met.of rfl (Nat.le_of_ble_eq_true rfl) (s_M_partOf G _ _ _ σ p _ h1 ⟨rfl, rfl⟩), h2⟩
  · cases e
abbrev M_M_who : am_MD := (yX12_who, cX12_who, 3, (some .long), 5, 112)
theorem dX12_who_0 : decode cX12_who 0 = .ok (.aload_n 0, 1) := by decide +kernel
theorem dX12_who_1 : decode cX12_who 1 = .ok (.iconst 0, 1) := by decide +kernel
theorem dX12_who_2 : decode cX12_who 2 = .ok (.putfield 102, 3) := by decide +kernel
theorem dX12_who_5 : decode cX12_who 5 = .ok (.aload_n 0, 1) := by decide +kernel
theorem dX12_who_6 : decode cX12_who 6 = .ok (.iload_n 1, 1) := by decide +kernel
theorem dX12_who_7 : decode cX12_who 7 = .ok (.invokevirtual 203, 3) := by decide +kernel
theorem dX12_who_10 : decode cX12_who 10 = .ok (.ifCond .ne 28, 3) := by decide +kernel
theorem dX12_who_13 : decode cX12_who 13 = .ok (.iload_n 1, 1) := by decide +kernel
theorem dX12_who_14 : decode cX12_who 14 = .ok (.i2l, 1) := by decide +kernel
theorem dX12_who_15 : decode cX12_who 15 = .ok (.ldc2_w 191, 3) := by decide +kernel
theorem dX12_who_18 : decode cX12_who 18 = .ok (.ldc2_w 193, 3) := by decide +kernel
theorem dX12_who_21 : decode cX12_who 21 = .ok (.invokestatic 108, 3) := by decide +kernel
theorem dX12_who_24 : decode cX12_who 24 = .ok (.ifCond .ne 14, 3) := by decide +kernel
theorem dX12_who_27 : decode cX12_who 27 = .ok (.ldc2_w 282, 3) := by decide +kernel
theorem dX12_who_30 : decode cX12_who 30 = .ok (.aload_n 0, 1) := by decide +kernel
theorem dX12_who_31 : decode cX12_who 31 = .ok (.iconst (-1), 1) := by decide +kernel
theorem dX12_who_32 : decode cX12_who 32 = .ok (.invokevirtual 154, 3) := by decide +kernel
theorem dX12_who_35 : decode cX12_who 35 = .ok (.i2l, 1) := by decide +kernel
theorem dX12_who_36 : decode cX12_who 36 = .ok (.lsub, 1) := by decide +kernel
theorem dX12_who_37 : decode cX12_who 37 = .ok (.lreturn, 1) := by decide +kernel
theorem dX12_who_38 : decode cX12_who 38 = .ok (.iload_n 2, 1) := by decide +kernel
theorem dX12_who_39 : decode cX12_who 39 = .ok (.i2l, 1) := by decide +kernel
theorem dX12_who_40 : decode cX12_who 40 = .ok (.lconst 0, 1) := by decide +kernel
theorem dX12_who_41 : decode cX12_who 41 = .ok (.lconst 1, 1) := by decide +kernel
theorem dX12_who_42 : decode cX12_who 42 = .ok (.invokestatic 108, 3) := by decide +kernel
theorem dX12_who_45 : decode cX12_who 45 = .ok (.ifCond .ne 15, 3) := by decide +kernel
theorem dX12_who_48 : decode cX12_who 48 = .ok (.ldc2_w 282, 3) := by decide +kernel
theorem dX12_who_51 : decode cX12_who 51 = .ok (.aload_n 0, 1) := by decide +kernel
theorem dX12_who_52 : decode cX12_who 52 = .ok (.bipush (-2), 2) := by decide +kernel
theorem dX12_who_54 : decode cX12_who 54 = .ok (.invokevirtual 154, 3) := by decide +kernel
theorem dX12_who_57 : decode cX12_who 57 = .ok (.i2l, 1) := by decide +kernel
theorem dX12_who_58 : decode cX12_who 58 = .ok (.lsub, 1) := by decide +kernel
theorem dX12_who_59 : decode cX12_who 59 = .ok (.lreturn, 1) := by decide +kernel
theorem dX12_who_60 : decode cX12_who 60 = .ok (.aload_n 0, 1) := by decide +kernel
theorem dX12_who_61 : decode cX12_who 61 = .ok (.invokevirtual 284, 3) := by decide +kernel
theorem dX12_who_64 : decode cX12_who 64 = .ok (.aload_n 0, 1) := by decide +kernel
theorem dX12_who_65 : decode cX12_who 65 = .ok (.getfield 92, 3) := by decide +kernel
theorem dX12_who_68 : decode cX12_who 68 = .ok (.iload_n 1, 1) := by decide +kernel
theorem dX12_who_69 : decode cX12_who 69 = .ok (.laload, 1) := by decide +kernel
theorem dX12_who_70 : decode cX12_who 70 = .ok (.aload_n 0, 1) := by decide +kernel
theorem dX12_who_71 : decode cX12_who 71 = .ok (.getfield 274, 3) := by decide +kernel
theorem dX12_who_74 : decode cX12_who 74 = .ok (.iload_n 2, 1) := by decide +kernel
theorem dX12_who_75 : decode cX12_who 75 = .ok (.invokestatic 287, 3) := by decide +kernel
theorem dX12_who_78 : decode cX12_who 78 = .ok (.lreturn, 1) := by decide +kernel
noncomputable def g_M_who_27 (σ : am_St) : Option (Int64 × am_St) :=
  (f_M_refuse (-1) σ).bind (fun p1 =>
    some ((4000000000000000000 - p1.1.toInt64, p1.2)))
noncomputable def f_M_who_27 (σ : am_St) : Option (Int64 × am_St) := am_lk (g_M_who_27  σ)
theorem eq_M_who_27 (σ : am_St) : f_M_who_27  σ = g_M_who_27  σ := am_lk_eq _
set_option maxRecDepth 100000 in
set_option maxHeartbeats 4000000 in
theorem s_M_who_27 (G : am_G) (σ : am_St) (r : Int64 × am_St) (Q : am_AQ) (e : f_M_who_27  σ = some r) (hr : am_Pl r Q) : am_AW G M_M_who 27 [(0, .ref 66)] [] σ Q :=
  (show am_Snd G M_M_who 27 am_Pl _ from (sn_ldc2 (pc := 27) dX12_who_27 tw_1277 (sn_aload_n (pc := 30) (i := 0) dX12_who_30 rfl (sn_iconst (pc := 31) (v := (-1)) dX12_who_31 (show Int32.ofInt (-1) = (-1) by decide) (sn_callV (pc := 32) (N := M_M_refuse) dX12_who_32 (cal_M_refuse G) sh_66 rfl tw_1090 tw_1092 tp_23 tw_12 tw_1093 dsc_X12_refuse rfl (sn_i2l (pc := 35) dX12_who_35 (sn_lsub (pc := 36) dX12_who_36 (sn_retl (pc := 37) (R := fun x τ => (some ((x, τ)))) dX12_who_37 rfl (fun _ _ _ _ e h => by cases e; exact h))))))))) _ _ _ _ _ ((eq_M_who_27  σ).symm.trans e) hr
noncomputable def g_M_who_38 (x1 : Int32) (x2 : Int32) (σ : am_St) : Option (Int64 × am_St) :=
  (f_M_in x2.toInt64 0 1 σ).bind (fun p1 =>
    if p1.1 = 0 then
      (f_M_refuse (-2) p1.2).bind (fun p4 =>
        some ((4000000000000000000 - p4.1.toInt64, p4.2)))
    else
      (f_M_layWeights p1.2).bind (fun p2 =>
        if am_ix x1 7 = true then
          (f_M_partOf (p2.2.1 92 x1.toNatClampNeg) (p2.2.1 66 43) x2 p2).bind (fun p3 =>
            some ((p3.1, p3.2)))
        else none))
noncomputable def f_M_who_38 (x1 : Int32) (x2 : Int32) (σ : am_St) : Option (Int64 × am_St) := am_lk (g_M_who_38 x1 x2 σ)
theorem eq_M_who_38 (x1 : Int32) (x2 : Int32) (σ : am_St) : f_M_who_38 x1 x2 σ = g_M_who_38 x1 x2 σ := am_lk_eq _
set_option maxRecDepth 100000 in
set_option maxHeartbeats 4000000 in
theorem s_M_who_38 (G : am_G) (x1 : Int32) (x2 : Int32) (σ : am_St) (r : Int64 × am_St) (Q : am_AQ) (e : f_M_who_38 x1 x2 σ = some r) (hr : am_Pl r Q) : am_AW G M_M_who 38 [(2, .int x2), (1, .int x1), (0, .ref 66)] [] σ Q :=
  (show am_Snd G M_M_who 38 am_Pl _ from (sn_iload_n (pc := 38) (i := 2) dX12_who_38 rfl (sn_i2l (pc := 39) dX12_who_39 (sn_lconst (pc := 40) (v := 0) dX12_who_40 rfl (sn_lconst (pc := 41) (v := 1) dX12_who_41 rfl (sn_callS (pc := 42) (N := M_M_in) dX12_who_42 (cal_M_in G) tw_1116 tw_1117 tw_12 tw_1118 dsc_X12_in rfl (sn_if_ne (pc := 45) (tgt := 60) dX12_who_45 rfl (sn_aload_n (pc := 60) (i := 0) dX12_who_60 rfl (sn_callV (pc := 61) (N := M_M_layWeights) dX12_who_61 (cal_M_layWeights G) sh_66 rfl tw_1278 tw_1280 tp_52 tw_12 tw_1281 dsc_X12_layWeights rfl (sn_aload_n (pc := 64) (i := 0) dX12_who_64 rfl (sn_gR (r0 := 92) (pc := 65) (h := 66) (f := 42) dX12_who_65 am_CL_11 sh_66 rfl (Nat.le_of_ble_eq_true rfl) tw_983 (sn_iload_n (pc := 68) (i := 1) dX12_who_68 rfl (sn_aL (pc := 69) (h := 92) dX12_who_69 sh_92 (sn_aload_n (pc := 70) (i := 0) dX12_who_70 rfl (sn_gL (pc := 71) (h := 66) (f := 43) dX12_who_71 am_CL_11 sh_66 rfl (Nat.le_of_ble_eq_true rfl) tw_984 (sn_iload_n (pc := 74) (i := 2) dX12_who_74 rfl (sn_callS (pc := 75) (N := M_M_partOf) dX12_who_75 (cal_M_partOf G) tw_1282 tw_1283 tw_12 tw_1284 dsc_X12_partOf rfl (sn_retl (pc := 78) (R := fun x τ => (some ((x, τ)))) dX12_who_78 rfl (fun _ _ _ _ e h => by cases e; exact h)))))))))))) (sn_ldc2 (pc := 48) dX12_who_48 tw_1277 (sn_aload_n (pc := 51) (i := 0) dX12_who_51 rfl (sn_bipush (pc := 52) (v := (-2)) dX12_who_52 (show (Int8.ofInt (-2)).toInt32 = (-2) by decide) (sn_callV (pc := 54) (N := M_M_refuse) dX12_who_54 (cal_M_refuse G) sh_66 rfl tw_1090 tw_1092 tp_23 tw_12 tw_1093 dsc_X12_refuse rfl (sn_i2l (pc := 57) dX12_who_57 (sn_lsub (pc := 58) dX12_who_58 (sn_retl (pc := 59) (R := fun x τ => (some ((x, τ)))) dX12_who_59 rfl (fun _ _ _ _ e h => by cases e; exact h))))))))))))))) _ _ _ _ _ ((eq_M_who_38 x1 x2 σ).symm.trans e) hr
noncomputable def g_M_who (x1 : Int32) (x2 : Int32) (σ : am_St) : Option (Int64 × am_St) :=
  let s1 := am_sI σ 66 22 0
  (f_M_isChild x1 s1).bind (fun p2 =>
    if p2.1 = 0 then
      (f_M_in x1.toInt64 4 6 p2.2).bind (fun p3 =>
        if p3.1 = 0 then
          f_M_who_27 p3.2
        else
          f_M_who_38 x1 x2 p3.2)
    else
      f_M_who_38 x1 x2 p2.2)
noncomputable def f_M_who (x1 : Int32) (x2 : Int32) (σ : am_St) : Option (Int64 × am_St) := am_lk (g_M_who x1 x2 σ)
theorem eq_M_who (x1 : Int32) (x2 : Int32) (σ : am_St) : f_M_who x1 x2 σ = g_M_who x1 x2 σ := am_lk_eq _
set_option maxRecDepth 100000 in
set_option maxHeartbeats 4000000 in
theorem s_M_who (G : am_G) (x1 : Int32) (x2 : Int32) (σ : am_St) (r : Int64 × am_St) (Q : am_AQ) (e : f_M_who x1 x2 σ = some r) (hr : am_Pl r Q) : am_AW G M_M_who 0 [(0, .ref 66), (1, .int x1), (2, .int x2)] [] σ Q :=
  (show am_Snd G M_M_who 0 am_Pl _ from (sn_aload_n (pc := 0) (i := 0) dX12_who_0 rfl (sn_iconst (pc := 1) (v := 0) dX12_who_1 rfl (sn_pI (pc := 2) (h := 66) (f := 22) dX12_who_2 am_CL_11 sh_66 rfl (Nat.le_of_ble_eq_true rfl) tw_963 rfl rfl (sn_aload_n (pc := 5) (i := 0) dX12_who_5 rfl (sn_iload_n (pc := 6) (i := 1) dX12_who_6 rfl (sn_callV (pc := 7) (N := M_M_isChild) dX12_who_7 (cal_M_isChild G) sh_66 rfl tw_1181 tw_1183 tp_42 tw_12 tw_1184 dsc_X12_isChild rfl (sn_if_ne (pc := 10) (tgt := 38) dX12_who_10 rfl (sn_lf (pc := 38) (ln_a (i := 0) (q := 66) (ln_i (i := 1) (fun z0 => (ln_i (i := 2) (fun z1 => (ln_end (o := fun τ => f_M_who_38 z0 z1 τ) (fun _ _ _ e h => s_M_who_38 G z0 z1 _ _ _ e h)))))))) (sn_iload_n (pc := 13) (i := 1) dX12_who_13 rfl (sn_i2l (pc := 14) dX12_who_14 (sn_ldc2 (pc := 15) dX12_who_15 tw_1124 (sn_ldc2 (pc := 18) dX12_who_18 tw_1125 (sn_callS (pc := 21) (N := M_M_in) dX12_who_21 (cal_M_in G) tw_1116 tw_1117 tw_12 tw_1118 dsc_X12_in rfl (sn_if_ne (pc := 24) (tgt := 38) dX12_who_24 rfl (sn_lf (pc := 38) (ln_a (i := 0) (q := 66) (ln_i (i := 1) (fun z0 => (ln_i (i := 2) (fun z1 => (ln_end (o := fun τ => f_M_who_38 z0 z1 τ) (fun _ _ _ e h => s_M_who_38 G z0 z1 _ _ _ e h)))))))) (sn_lf (pc := 27) (ln_a (i := 0) (q := 66) (ln_end (o := fun τ => f_M_who_27 τ) (fun _ _ _ e h => s_M_who_27 G  _ _ _ e h)))))))))))))))))) _ _ _ _ _ ((eq_M_who x1 x2 σ).symm.trans e) hr
noncomputable def cF_M_who : am_Fn := fun _ args σ K => match args with
  | [.ref q0, .int z1, .int z2] => match Nat.beq q0 66 with
    | true => (f_M_who z1 z2 σ).bind (fun p => K (some (.long p.1)) p.2)
    | _ => none
  | _ => none
theorem cal_M_who (G : am_G) : am_Cal G M_M_who cF_M_who := by
  intro ρ args σ K r e
  unfold cF_M_who at e
  split at e
  · split at e
    · rename_i hq0
      obtain ⟨p, h1, h2⟩ := am_bind_some e
      rw [Nat.eq_of_beq_eq_true hq0]
      exact ⟨some (.long p.1), p.2, am_Met.of rfl (Nat.le_of_ble_eq_true rfl) (s_M_who G _ _ σ p _ h1 ⟨rfl, rfl⟩), h2⟩
    · cases e
  · cases e
abbrev M_M_likeliest : am_MD := (yX12_likeliest, cX12_likeliest, 3, (some .int), 5, 112)
theorem dX12_likeliest_0 : decode cX12_likeliest 0 = .ok (.aload_n 0, 1) := by decide +kernel
theorem dX12_likeliest_1 : decode cX12_likeliest 1 = .ok (.iconst 0, 1) := by decide +kernel
theorem dX12_likeliest_2 : decode cX12_likeliest 2 = .ok (.putfield 102, 3) := by decide +kernel
theorem dX12_likeliest_5 : decode cX12_likeliest 5 = .ok (.aload_n 0, 1) := by decide +kernel
theorem dX12_likeliest_6 : decode cX12_likeliest 6 = .ok (.invokevirtual 284, 3) := by decide +kernel
theorem dX12_likeliest_9 : decode cX12_likeliest 9 = .ok (.bipush (-9), 2) := by decide +kernel
theorem dX12_likeliest_11 : decode cX12_likeliest 11 = .ok (.istore_n 1, 1) := by decide +kernel
theorem dX12_likeliest_12 : decode cX12_likeliest 12 = .ok (.iconst 0, 1) := by decide +kernel
theorem dX12_likeliest_13 : decode cX12_likeliest 13 = .ok (.istore_n 2, 1) := by decide +kernel
theorem dX12_likeliest_14 : decode cX12_likeliest 14 = .ok (.iload_n 2, 1) := by decide +kernel
theorem dX12_likeliest_15 : decode cX12_likeliest 15 = .ok (.bipush 7, 2) := by decide +kernel
theorem dX12_likeliest_17 : decode cX12_likeliest 17 = .ok (.if_icmp .ge 46, 3) := by decide +kernel
theorem dX12_likeliest_20 : decode cX12_likeliest 20 = .ok (.aload_n 0, 1) := by decide +kernel
theorem dX12_likeliest_21 : decode cX12_likeliest 21 = .ok (.getfield 92, 3) := by decide +kernel
theorem dX12_likeliest_24 : decode cX12_likeliest 24 = .ok (.iload_n 2, 1) := by decide +kernel
theorem dX12_likeliest_25 : decode cX12_likeliest 25 = .ok (.laload, 1) := by decide +kernel
theorem dX12_likeliest_26 : decode cX12_likeliest 26 = .ok (.lconst 0, 1) := by decide +kernel
theorem dX12_likeliest_27 : decode cX12_likeliest 27 = .ok (.lcmp, 1) := by decide +kernel
theorem dX12_likeliest_28 : decode cX12_likeliest 28 = .ok (.ifCond .le 27, 3) := by decide +kernel
theorem dX12_likeliest_31 : decode cX12_likeliest 31 = .ok (.iload_n 1, 1) := by decide +kernel
theorem dX12_likeliest_32 : decode cX12_likeliest 32 = .ok (.ifCond .lt 19, 3) := by decide +kernel
theorem dX12_likeliest_35 : decode cX12_likeliest 35 = .ok (.aload_n 0, 1) := by decide +kernel
theorem dX12_likeliest_36 : decode cX12_likeliest 36 = .ok (.getfield 92, 3) := by decide +kernel
theorem dX12_likeliest_39 : decode cX12_likeliest 39 = .ok (.iload_n 2, 1) := by decide +kernel
theorem dX12_likeliest_40 : decode cX12_likeliest 40 = .ok (.laload, 1) := by decide +kernel
theorem dX12_likeliest_41 : decode cX12_likeliest 41 = .ok (.aload_n 0, 1) := by decide +kernel
theorem dX12_likeliest_42 : decode cX12_likeliest 42 = .ok (.getfield 92, 3) := by decide +kernel
theorem dX12_likeliest_45 : decode cX12_likeliest 45 = .ok (.iload_n 1, 1) := by decide +kernel
theorem dX12_likeliest_46 : decode cX12_likeliest 46 = .ok (.laload, 1) := by decide +kernel
theorem dX12_likeliest_47 : decode cX12_likeliest 47 = .ok (.lcmp, 1) := by decide +kernel
theorem dX12_likeliest_48 : decode cX12_likeliest 48 = .ok (.ifCond .le 7, 3) := by decide +kernel
theorem dX12_likeliest_51 : decode cX12_likeliest 51 = .ok (.iload_n 2, 1) := by decide +kernel
theorem dX12_likeliest_52 : decode cX12_likeliest 52 = .ok (.goto 4, 3) := by decide +kernel
theorem dX12_likeliest_55 : decode cX12_likeliest 55 = .ok (.iload_n 1, 1) := by decide +kernel
theorem dX12_likeliest_56 : decode cX12_likeliest 56 = .ok (.istore_n 1, 1) := by decide +kernel
theorem dX12_likeliest_57 : decode cX12_likeliest 57 = .ok (.iinc 2 1, 3) := by decide +kernel
theorem dX12_likeliest_60 : decode cX12_likeliest 60 = .ok (.goto (-46), 3) := by decide +kernel
theorem dX12_likeliest_63 : decode cX12_likeliest 63 = .ok (.iload_n 1, 1) := by decide +kernel
theorem dX12_likeliest_64 : decode cX12_likeliest 64 = .ok (.ireturn, 1) := by decide +kernel
abbrev Pl_M_likeliest_14 (G : am_G) : ((Int32 × Int32 × am_St) ⊕ (Int32 × am_St)) → am_AQ → Prop := am_PL G M_M_likeliest 14 (fun s : Int32 × Int32 × am_St => [(2, .int s.2.1), (1, .int s.1), (0, .ref 66)]) (fun s => s.2.2) am_Pi
noncomputable def g_M_likeliest_56 (x2 : Int32) (y0 : Int32) (σ : am_St) : Option ((Int32 × Int32 × am_St) ⊕ (Int32 × am_St)) :=
  let v1 := x2 + 1
  some (.inl (y0, v1, σ))
noncomputable def f_M_likeliest_56 (x2 : Int32) (y0 : Int32) (σ : am_St) : Option ((Int32 × Int32 × am_St) ⊕ (Int32 × am_St)) := am_lk (g_M_likeliest_56 x2 y0 σ)
theorem eq_M_likeliest_56 (x2 : Int32) (y0 : Int32) (σ : am_St) : f_M_likeliest_56 x2 y0 σ = g_M_likeliest_56 x2 y0 σ := am_lk_eq _
set_option maxRecDepth 100000 in
set_option maxHeartbeats 4000000 in
theorem s_M_likeliest_56 (G : am_G) (x2 : Int32) (y0 : Int32) (σ : am_St) (r : (Int32 × Int32 × am_St) ⊕ (Int32 × am_St)) (Q : am_AQ) (e : f_M_likeliest_56 x2 y0 σ = some r) (hr : (Pl_M_likeliest_14 G) r Q) : am_AW G M_M_likeliest 56 [(2, .int x2), (0, .ref 66)] [.int y0] σ Q :=
  (show am_Snd G M_M_likeliest 56 (Pl_M_likeliest_14 G) _ from (sn_istore_n (pc := 56) (i := 1) dX12_likeliest_56 rfl (Nat.le_of_ble_eq_true rfl) (sn_iinc (pc := 57) (v := 1) dX12_likeliest_57 rfl (Nat.le_of_ble_eq_true rfl) (sn_goto (pc := 60) (tgt := 14) dX12_likeliest_60 rfl (sn_lf (pc := 14) (ln_a (i := 0) (q := 66) (ln_i (i := 1) (fun z0 => (ln_i (i := 2) (fun z1 => (ln_end (o := fun τ => (some (.inl (z0, z1, τ)) : Option ((Int32 × Int32 × am_St) ⊕ (Int32 × am_St)))) (fun _ _ _ e h => by cases e; exact h)))))))))))) _ _ _ _ _ ((eq_M_likeliest_56 x2 y0 σ).symm.trans e) hr
noncomputable def g_M_likeliest_51 (x2 : Int32) (σ : am_St) : Option ((Int32 × Int32 × am_St) ⊕ (Int32 × am_St)) :=
  f_M_likeliest_56 x2 x2 σ
noncomputable def f_M_likeliest_51 (x2 : Int32) (σ : am_St) : Option ((Int32 × Int32 × am_St) ⊕ (Int32 × am_St)) := am_lk (g_M_likeliest_51 x2 σ)
theorem eq_M_likeliest_51 (x2 : Int32) (σ : am_St) : f_M_likeliest_51 x2 σ = g_M_likeliest_51 x2 σ := am_lk_eq _
set_option maxRecDepth 100000 in
set_option maxHeartbeats 4000000 in
theorem s_M_likeliest_51 (G : am_G) (x2 : Int32) (σ : am_St) (r : (Int32 × Int32 × am_St) ⊕ (Int32 × am_St)) (Q : am_AQ) (e : f_M_likeliest_51 x2 σ = some r) (hr : (Pl_M_likeliest_14 G) r Q) : am_AW G M_M_likeliest 51 [(2, .int x2), (0, .ref 66)] [] σ Q :=
  (show am_Snd G M_M_likeliest 51 (Pl_M_likeliest_14 G) _ from (sn_iload_n (pc := 51) (i := 2) dX12_likeliest_51 rfl (sn_goto (pc := 52) (tgt := 56) dX12_likeliest_52 rfl (sn_lf (pc := 56) (ln_a (i := 0) (q := 66) (ln_i (i := 2) (fun z0 => (ln_si (fun w0 => (ln_end (o := fun τ => f_M_likeliest_56 z0 w0 τ) (fun _ _ _ e h => s_M_likeliest_56 G z0 w0 _ _ _ e h))))))))))) _ _ _ _ _ ((eq_M_likeliest_51 x2 σ).symm.trans e) hr
noncomputable def g_M_likeliest_55 (x1 : Int32) (x2 : Int32) (σ : am_St) : Option ((Int32 × Int32 × am_St) ⊕ (Int32 × am_St)) :=
  f_M_likeliest_56 x2 x1 σ
noncomputable def f_M_likeliest_55 (x1 : Int32) (x2 : Int32) (σ : am_St) : Option ((Int32 × Int32 × am_St) ⊕ (Int32 × am_St)) := am_lk (g_M_likeliest_55 x1 x2 σ)
theorem eq_M_likeliest_55 (x1 : Int32) (x2 : Int32) (σ : am_St) : f_M_likeliest_55 x1 x2 σ = g_M_likeliest_55 x1 x2 σ := am_lk_eq _
set_option maxRecDepth 100000 in
set_option maxHeartbeats 4000000 in
theorem s_M_likeliest_55 (G : am_G) (x1 : Int32) (x2 : Int32) (σ : am_St) (r : (Int32 × Int32 × am_St) ⊕ (Int32 × am_St)) (Q : am_AQ) (e : f_M_likeliest_55 x1 x2 σ = some r) (hr : (Pl_M_likeliest_14 G) r Q) : am_AW G M_M_likeliest 55 [(2, .int x2), (1, .int x1), (0, .ref 66)] [] σ Q :=
  (show am_Snd G M_M_likeliest 55 (Pl_M_likeliest_14 G) _ from (sn_iload_n (pc := 55) (i := 1) dX12_likeliest_55 rfl (sn_lf (pc := 56) (ln_a (i := 0) (q := 66) (ln_i (i := 2) (fun z0 => (ln_si (fun w0 => (ln_end (o := fun τ => f_M_likeliest_56 z0 w0 τ) (fun _ _ _ e h => s_M_likeliest_56 G z0 w0 _ _ _ e h)))))))))) _ _ _ _ _ ((eq_M_likeliest_55 x1 x2 σ).symm.trans e) hr
noncomputable def b_M_likeliest_14 (x1 : Int32) (x2 : Int32) (σ : am_St) : Option ((Int32 × Int32 × am_St) ⊕ (Int32 × am_St)) :=
  if 7 ≤ x2 then
    some (.inr ((x1, σ)))
  else
    if am_ix x2 7 = true then
      if (lg_cmp (σ.2.1 92 x2.toNatClampNeg) 0) ≤ 0 then
        f_M_likeliest_55 x1 x2 σ
      else
        if x1 < 0 then
          f_M_likeliest_51 x2 σ
        else
          if am_ix x2 7 = true then
            if am_ix x1 7 = true then
              if (lg_cmp (σ.2.1 92 x2.toNatClampNeg) (σ.2.1 92 x1.toNatClampNeg)) ≤ 0 then
                f_M_likeliest_55 x1 x2 σ
              else
                f_M_likeliest_51 x2 σ
            else none
          else none
    else none
noncomputable def f_M_likeliest_14 (x1 : Int32) (x2 : Int32) (σ : am_St) : Option (Int32 × am_St) := am_lp (fun s : Int32 × Int32 × am_St => b_M_likeliest_14 s.1 s.2.1 s.2.2) (x1, x2, σ)
set_option maxRecDepth 100000 in
set_option maxHeartbeats 4000000 in
theorem sb_M_likeliest_14 (G : am_G) (x1 : Int32) (x2 : Int32) (σ : am_St) (r : (Int32 × Int32 × am_St) ⊕ (Int32 × am_St)) (Q : am_AQ) (e : b_M_likeliest_14 x1 x2 σ = some r) (hr : Pl_M_likeliest_14 G r Q) : am_AW G M_M_likeliest 14 [(2, .int x2), (1, .int x1), (0, .ref 66)] [] σ Q :=
  (show am_Snd G M_M_likeliest 14 (Pl_M_likeliest_14 G) _ from (sn_iload_n (pc := 14) (i := 2) dX12_likeliest_14 rfl (sn_bipush (pc := 15) (v := 7) dX12_likeliest_15 rfl (sn_icmp_ge (pc := 17) (tgt := 63) dX12_likeliest_17 rfl (sn_iload_n (pc := 63) (i := 1) dX12_likeliest_63 rfl (sn_reti (pc := 64) (R := fun x τ => (some (.inr ((x, τ))) : Option ((Int32 × Int32 × am_St) ⊕ (Int32 × am_St)))) dX12_likeliest_64 rfl (fun _ _ _ _ e h => by cases e; exact h))) (sn_aload_n (pc := 20) (i := 0) dX12_likeliest_20 rfl (sn_gR (r0 := 92) (pc := 21) (h := 66) (f := 42) dX12_likeliest_21 am_CL_11 sh_66 rfl (Nat.le_of_ble_eq_true rfl) tw_983 (sn_iload_n (pc := 24) (i := 2) dX12_likeliest_24 rfl (sn_aL (pc := 25) (h := 92) dX12_likeliest_25 sh_92 (sn_lconst (pc := 26) (v := 0) dX12_likeliest_26 rfl (sn_lcmp (pc := 27) dX12_likeliest_27 (sn_if_le (pc := 28) (tgt := 55) dX12_likeliest_28 rfl (sn_lf (pc := 55) (ln_a (i := 0) (q := 66) (ln_i (i := 1) (fun z0 => (ln_i (i := 2) (fun z1 => (ln_end (o := fun τ => f_M_likeliest_55 z0 z1 τ) (fun _ _ _ e h => s_M_likeliest_55 G z0 z1 _ _ _ e h)))))))) (sn_iload_n (pc := 31) (i := 1) dX12_likeliest_31 rfl (sn_if_lt (pc := 32) (tgt := 51) dX12_likeliest_32 rfl (sn_lf (pc := 51) (ln_a (i := 0) (q := 66) (ln_i (i := 2) (fun z0 => (ln_end (o := fun τ => f_M_likeliest_51 z0 τ) (fun _ _ _ e h => s_M_likeliest_51 G z0 _ _ _ e h)))))) (sn_aload_n (pc := 35) (i := 0) dX12_likeliest_35 rfl (sn_gR (r0 := 92) (pc := 36) (h := 66) (f := 42) dX12_likeliest_36 am_CL_11 sh_66 rfl (Nat.le_of_ble_eq_true rfl) tw_983 (sn_iload_n (pc := 39) (i := 2) dX12_likeliest_39 rfl (sn_aL (pc := 40) (h := 92) dX12_likeliest_40 sh_92 (sn_aload_n (pc := 41) (i := 0) dX12_likeliest_41 rfl (sn_gR (r0 := 92) (pc := 42) (h := 66) (f := 42) dX12_likeliest_42 am_CL_11 sh_66 rfl (Nat.le_of_ble_eq_true rfl) tw_983 (sn_iload_n (pc := 45) (i := 1) dX12_likeliest_45 rfl (sn_aL (pc := 46) (h := 92) dX12_likeliest_46 sh_92 (sn_lcmp (pc := 47) dX12_likeliest_47 (sn_if_le (pc := 48) (tgt := 55) dX12_likeliest_48 rfl (sn_lf (pc := 55) (ln_a (i := 0) (q := 66) (ln_i (i := 1) (fun z0 => (ln_i (i := 2) (fun z1 => (ln_end (o := fun τ => f_M_likeliest_55 z0 z1 τ) (fun _ _ _ e h => s_M_likeliest_55 G z0 z1 _ _ _ e h)))))))) (sn_lf (pc := 51) (ln_a (i := 0) (q := 66) (ln_i (i := 2) (fun z0 => (ln_end (o := fun τ => f_M_likeliest_51 z0 τ) (fun _ _ _ e h => s_M_likeliest_51 G z0 _ _ _ e h))))))))))))))))))))))))))))) _ _ _ _ _ e hr
theorem s_M_likeliest_14 (G : am_G) (x1 : Int32) (x2 : Int32) (σ : am_St) (r : Int32 × am_St) (Q : am_AQ) (e : f_M_likeliest_14 x1 x2 σ = some r) (hr : am_Pi r Q) : am_AW G M_M_likeliest 14 [(2, .int x2), (1, .int x1), (0, .ref 66)] [] σ Q :=
  am_loop (P := am_Pi) (L := fun s : Int32 × Int32 × am_St => [(2, .int s.2.1), (1, .int s.1), (0, .ref 66)]) (g := fun s => s.2.2) (fun s o Q e hr => sb_M_likeliest_14 G s.1 s.2.1 s.2.2 o Q e hr) (x1, x2, σ) r Q e hr
noncomputable def g_M_likeliest (σ : am_St) : Option (Int32 × am_St) :=
  let s1 := am_sI σ 66 22 0
  (f_M_layWeights s1).bind (fun p2 =>
    f_M_likeliest_14 ((-9)) 0 p2)
noncomputable def f_M_likeliest (σ : am_St) : Option (Int32 × am_St) := am_lk (g_M_likeliest  σ)
theorem eq_M_likeliest (σ : am_St) : f_M_likeliest  σ = g_M_likeliest  σ := am_lk_eq _
set_option maxRecDepth 100000 in
set_option maxHeartbeats 4000000 in
theorem s_M_likeliest (G : am_G) (σ : am_St) (r : Int32 × am_St) (Q : am_AQ) (e : f_M_likeliest  σ = some r) (hr : am_Pi r Q) : am_AW G M_M_likeliest 0 [(0, .ref 66)] [] σ Q :=
  (show am_Snd G M_M_likeliest 0 am_Pi _ from (sn_aload_n (pc := 0) (i := 0) dX12_likeliest_0 rfl (sn_iconst (pc := 1) (v := 0) dX12_likeliest_1 rfl (sn_pI (pc := 2) (h := 66) (f := 22) dX12_likeliest_2 am_CL_11 sh_66 rfl (Nat.le_of_ble_eq_true rfl) tw_963 rfl rfl (sn_aload_n (pc := 5) (i := 0) dX12_likeliest_5 rfl (sn_callV (pc := 6) (N := M_M_layWeights) dX12_likeliest_6 (cal_M_layWeights G) sh_66 rfl tw_1278 tw_1280 tp_52 tw_12 tw_1281 dsc_X12_layWeights rfl (sn_bipush (pc := 9) (v := (-9)) dX12_likeliest_9 (show (Int8.ofInt (-9)).toInt32 = (-9) by decide) (sn_istore_n (pc := 11) (i := 1) dX12_likeliest_11 rfl (Nat.le_of_ble_eq_true rfl) (sn_iconst (pc := 12) (v := 0) dX12_likeliest_12 rfl (sn_istore_n (pc := 13) (i := 2) dX12_likeliest_13 rfl (Nat.le_of_ble_eq_true rfl) (sn_lf (pc := 14) (ln_a (i := 0) (q := 66) (ln_i (i := 1) (fun z0 => (ln_i (i := 2) (fun z1 => (ln_end (o := fun τ => f_M_likeliest_14 z0 z1 τ) (fun _ _ _ e h => s_M_likeliest_14 G z0 z1 _ _ _ e h)))))))))))))))))) _ _ _ _ _ ((eq_M_likeliest  σ).symm.trans e) hr
noncomputable def cF_M_likeliest : am_Fn := fun _ args σ K => match args with
  | [.ref q0] => match Nat.beq q0 66 with
    | true => (f_M_likeliest σ).bind (fun p => K (some (.int p.1)) p.2)
    | _ => none
  | _ => none
theorem cal_M_likeliest (G : am_G) : am_Cal G M_M_likeliest cF_M_likeliest := by
  intro ρ args σ K r e
  unfold cF_M_likeliest at e
  split at e
  · split at e
    · rename_i hq0
      obtain ⟨p, h1, h2⟩ := am_bind_some e
      rw [Nat.eq_of_beq_eq_true hq0]
      exact ⟨some (.int p.1), p.2, am_Met.of rfl (Nat.le_of_ble_eq_true rfl) (s_M_likeliest G  σ p _ h1 ⟨rfl, rfl⟩), h2⟩
    · cases e
  · cases e
abbrev M_M_says : am_MD := (yX12_says, cX12_says, 5, (some .int), 2, 46)
theorem dX12_says_0 : decode cX12_says 0 = .ok (.aload_n 0, 1) := by decide +kernel
theorem dX12_says_1 : decode cX12_says 1 = .ok (.iconst 0, 1) := by decide +kernel
theorem dX12_says_2 : decode cX12_says 2 = .ok (.putfield 102, 3) := by decide +kernel
theorem dX12_says_5 : decode cX12_says 5 = .ok (.aload_n 0, 1) := by decide +kernel
theorem dX12_says_6 : decode cX12_says 6 = .ok (.iload_n 1, 1) := by decide +kernel
theorem dX12_says_7 : decode cX12_says 7 = .ok (.invokevirtual 203, 3) := by decide +kernel
theorem dX12_says_10 : decode cX12_says 10 = .ok (.ifCond .eq 28, 3) := by decide +kernel
theorem dX12_says_13 : decode cX12_says 13 = .ok (.aload_n 0, 1) := by decide +kernel
theorem dX12_says_14 : decode cX12_says 14 = .ok (.iload_n 2, 1) := by decide +kernel
theorem dX12_says_15 : decode cX12_says 15 = .ok (.invokevirtual 203, 3) := by decide +kernel
theorem dX12_says_18 : decode cX12_says 18 = .ok (.ifCond .eq 20, 3) := by decide +kernel
theorem dX12_says_21 : decode cX12_says 21 = .ok (.aload_n 0, 1) := by decide +kernel
theorem dX12_says_22 : decode cX12_says 22 = .ok (.iload_n 3, 1) := by decide +kernel
theorem dX12_says_23 : decode cX12_says 23 = .ok (.invokevirtual 206, 3) := by decide +kernel
theorem dX12_says_26 : decode cX12_says 26 = .ok (.ifCond .eq 12, 3) := by decide +kernel
theorem dX12_says_29 : decode cX12_says 29 = .ok (.aload_n 0, 1) := by decide +kernel
theorem dX12_says_30 : decode cX12_says 30 = .ok (.iload 4, 2) := by decide +kernel
theorem dX12_says_32 : decode cX12_says 32 = .ok (.invokevirtual 195, 3) := by decide +kernel
theorem dX12_says_35 : decode cX12_says 35 = .ok (.ifCond .ne 9, 3) := by decide +kernel
theorem dX12_says_38 : decode cX12_says 38 = .ok (.aload_n 0, 1) := by decide +kernel
theorem dX12_says_39 : decode cX12_says 39 = .ok (.iconst (-1), 1) := by decide +kernel
theorem dX12_says_40 : decode cX12_says 40 = .ok (.invokevirtual 154, 3) := by decide +kernel
theorem dX12_says_43 : decode cX12_says 43 = .ok (.ireturn, 1) := by decide +kernel
theorem dX12_says_44 : decode cX12_says 44 = .ok (.aload_n 0, 1) := by decide +kernel
theorem dX12_says_45 : decode cX12_says 45 = .ok (.getfield 239, 3) := by decide +kernel
theorem dX12_says_48 : decode cX12_says 48 = .ok (.bipush 8, 2) := by decide +kernel
theorem dX12_says_50 : decode cX12_says 50 = .ok (.if_icmp .ne 10, 3) := by decide +kernel
theorem dX12_says_53 : decode cX12_says 53 = .ok (.aload_n 0, 1) := by decide +kernel
theorem dX12_says_54 : decode cX12_says 54 = .ok (.bipush (-6), 2) := by decide +kernel
theorem dX12_says_56 : decode cX12_says 56 = .ok (.invokevirtual 154, 3) := by decide +kernel
theorem dX12_says_59 : decode cX12_says 59 = .ok (.ireturn, 1) := by decide +kernel
theorem dX12_says_60 : decode cX12_says 60 = .ok (.aload_n 0, 1) := by decide +kernel
theorem dX12_says_61 : decode cX12_says 61 = .ok (.getfield 50, 3) := by decide +kernel
theorem dX12_says_64 : decode cX12_says 64 = .ok (.aload_n 0, 1) := by decide +kernel
theorem dX12_says_65 : decode cX12_says 65 = .ok (.getfield 239, 3) := by decide +kernel
theorem dX12_says_68 : decode cX12_says 68 = .ok (.iload_n 1, 1) := by decide +kernel
theorem dX12_says_69 : decode cX12_says 69 = .ok (.iastore, 1) := by decide +kernel
theorem dX12_says_70 : decode cX12_says 70 = .ok (.aload_n 0, 1) := by decide +kernel
theorem dX12_says_71 : decode cX12_says 71 = .ok (.getfield 53, 3) := by decide +kernel
theorem dX12_says_74 : decode cX12_says 74 = .ok (.aload_n 0, 1) := by decide +kernel
theorem dX12_says_75 : decode cX12_says 75 = .ok (.getfield 239, 3) := by decide +kernel
theorem dX12_says_78 : decode cX12_says 78 = .ok (.iload_n 2, 1) := by decide +kernel
theorem dX12_says_79 : decode cX12_says 79 = .ok (.iastore, 1) := by decide +kernel
theorem dX12_says_80 : decode cX12_says 80 = .ok (.aload_n 0, 1) := by decide +kernel
theorem dX12_says_81 : decode cX12_says 81 = .ok (.getfield 56, 3) := by decide +kernel
theorem dX12_says_84 : decode cX12_says 84 = .ok (.aload_n 0, 1) := by decide +kernel
theorem dX12_says_85 : decode cX12_says 85 = .ok (.getfield 239, 3) := by decide +kernel
theorem dX12_says_88 : decode cX12_says 88 = .ok (.iload_n 3, 1) := by decide +kernel
theorem dX12_says_89 : decode cX12_says 89 = .ok (.iastore, 1) := by decide +kernel
theorem dX12_says_90 : decode cX12_says 90 = .ok (.aload_n 0, 1) := by decide +kernel
theorem dX12_says_91 : decode cX12_says 91 = .ok (.getfield 59, 3) := by decide +kernel
theorem dX12_says_94 : decode cX12_says 94 = .ok (.aload_n 0, 1) := by decide +kernel
theorem dX12_says_95 : decode cX12_says 95 = .ok (.getfield 239, 3) := by decide +kernel
theorem dX12_says_98 : decode cX12_says 98 = .ok (.iload 4, 2) := by decide +kernel
theorem dX12_says_100 : decode cX12_says 100 = .ok (.iastore, 1) := by decide +kernel
theorem dX12_says_101 : decode cX12_says 101 = .ok (.aload_n 0, 1) := by decide +kernel
theorem dX12_says_102 : decode cX12_says 102 = .ok (.dup, 1) := by decide +kernel
theorem dX12_says_103 : decode cX12_says 103 = .ok (.getfield 239, 3) := by decide +kernel
theorem dX12_says_106 : decode cX12_says 106 = .ok (.iconst 1, 1) := by decide +kernel
theorem dX12_says_107 : decode cX12_says 107 = .ok (.iadd, 1) := by decide +kernel
theorem dX12_says_108 : decode cX12_says 108 = .ok (.putfield 239, 3) := by decide +kernel
theorem dX12_says_111 : decode cX12_says 111 = .ok (.aload_n 0, 1) := by decide +kernel
theorem dX12_says_112 : decode cX12_says 112 = .ok (.getfield 239, 3) := by decide +kernel
theorem dX12_says_115 : decode cX12_says 115 = .ok (.iconst 1, 1) := by decide +kernel
theorem dX12_says_116 : decode cX12_says 116 = .ok (.isub, 1) := by decide +kernel
theorem dX12_says_117 : decode cX12_says 117 = .ok (.ireturn, 1) := by decide +kernel
noncomputable def g_M_says_38 (σ : am_St) : Option (Int32 × am_St) :=
  (f_M_refuse (-1) σ).bind (fun p1 =>
    some ((p1.1, p1.2)))
noncomputable def f_M_says_38 (σ : am_St) : Option (Int32 × am_St) := am_lk (g_M_says_38  σ)
theorem eq_M_says_38 (σ : am_St) : f_M_says_38  σ = g_M_says_38  σ := am_lk_eq _
set_option maxRecDepth 100000 in
set_option maxHeartbeats 4000000 in
theorem s_M_says_38 (G : am_G) (σ : am_St) (r : Int32 × am_St) (Q : am_AQ) (e : f_M_says_38  σ = some r) (hr : am_Pi r Q) : am_AW G M_M_says 38 [(0, .ref 66)] [] σ Q :=
  (show am_Snd G M_M_says 38 am_Pi _ from (sn_aload_n (pc := 38) (i := 0) dX12_says_38 rfl (sn_iconst (pc := 39) (v := (-1)) dX12_says_39 (show Int32.ofInt (-1) = (-1) by decide) (sn_callV (pc := 40) (N := M_M_refuse) dX12_says_40 (cal_M_refuse G) sh_66 rfl tw_1090 tw_1092 tp_23 tw_12 tw_1093 dsc_X12_refuse rfl (sn_reti (pc := 43) (R := fun x τ => (some ((x, τ)))) dX12_says_43 rfl (fun _ _ _ _ e h => by cases e; exact h)))))) _ _ _ _ _ ((eq_M_says_38  σ).symm.trans e) hr
noncomputable def g_M_says_53 (σ : am_St) : Option (Int32 × am_St) :=
  (f_M_refuse (-6) σ).bind (fun p1 =>
    some ((p1.1, p1.2)))
noncomputable def f_M_says_53 (σ : am_St) : Option (Int32 × am_St) := am_lk (g_M_says_53  σ)
theorem eq_M_says_53 (σ : am_St) : f_M_says_53  σ = g_M_says_53  σ := am_lk_eq _
set_option maxRecDepth 100000 in
set_option maxHeartbeats 4000000 in
theorem s_M_says_53 (G : am_G) (σ : am_St) (r : Int32 × am_St) (Q : am_AQ) (e : f_M_says_53  σ = some r) (hr : am_Pi r Q) : am_AW G M_M_says 53 [(0, .ref 66)] [] σ Q :=
  (show am_Snd G M_M_says 53 am_Pi _ from (sn_aload_n (pc := 53) (i := 0) dX12_says_53 rfl (sn_bipush (pc := 54) (v := (-6)) dX12_says_54 (show (Int8.ofInt (-6)).toInt32 = (-6) by decide) (sn_callV (pc := 56) (N := M_M_refuse) dX12_says_56 (cal_M_refuse G) sh_66 rfl tw_1090 tw_1092 tp_23 tw_12 tw_1093 dsc_X12_refuse rfl (sn_reti (pc := 59) (R := fun x τ => (some ((x, τ)))) dX12_says_59 rfl (fun _ _ _ _ e h => by cases e; exact h)))))) _ _ _ _ _ ((eq_M_says_53  σ).symm.trans e) hr
noncomputable def g_M_says_101 (σ : am_St) : Option (Int32 × am_St) :=
  let s1 := am_sI σ 66 4 ((σ.1 66 4) + 1)
  some (((s1.1 66 4) - 1, s1))
noncomputable def f_M_says_101 (σ : am_St) : Option (Int32 × am_St) := am_lk (g_M_says_101  σ)
theorem eq_M_says_101 (σ : am_St) : f_M_says_101  σ = g_M_says_101  σ := am_lk_eq _
set_option maxRecDepth 100000 in
set_option maxHeartbeats 4000000 in
theorem s_M_says_101 (G : am_G) (σ : am_St) (r : Int32 × am_St) (Q : am_AQ) (e : f_M_says_101  σ = some r) (hr : am_Pi r Q) : am_AW G M_M_says 101 [(0, .ref 66)] [] σ Q :=
  (show am_Snd G M_M_says 101 am_Pi _ from (sn_aload_n (pc := 101) (i := 0) dX12_says_101 rfl (sn_dup (pc := 102) dX12_says_102 (sn_gI (pc := 103) (h := 66) (f := 4) dX12_says_103 am_CL_11 sh_66 rfl (Nat.le_of_ble_eq_true rfl) tw_945 (sn_iconst (pc := 106) (v := 1) dX12_says_106 rfl (sn_iadd (pc := 107) dX12_says_107 (sn_pI (pc := 108) (h := 66) (f := 4) dX12_says_108 am_CL_11 sh_66 rfl (Nat.le_of_ble_eq_true rfl) tw_945 rfl rfl (sn_aload_n (pc := 111) (i := 0) dX12_says_111 rfl (sn_gI (pc := 112) (h := 66) (f := 4) dX12_says_112 am_CL_11 sh_66 rfl (Nat.le_of_ble_eq_true rfl) tw_945 (sn_iconst (pc := 115) (v := 1) dX12_says_115 rfl (sn_isub (pc := 116) dX12_says_116 (sn_reti (pc := 117) (R := fun x τ => (some ((x, τ)))) dX12_says_117 rfl (fun _ _ _ _ e h => by cases e; exact h))))))))))))) _ _ _ _ _ ((eq_M_says_101  σ).symm.trans e) hr
noncomputable def g_M_says_60 (x1 : Int32) (x2 : Int32) (x3 : Int32) (x4 : Int32) (σ : am_St) : Option (Int32 × am_St) :=
  if am_ix (σ.1 66 4) 8 = true then
    let s1 := am_sI σ 78 (σ.1 66 4).toNatClampNeg x1
    if am_ix (s1.1 66 4) 8 = true then
      let s2 := am_sI s1 79 (s1.1 66 4).toNatClampNeg x2
      if am_ix (s2.1 66 4) 8 = true then
        let s3 := am_sI s2 80 (s2.1 66 4).toNatClampNeg x3
        if am_ix (s3.1 66 4) 8 = true then
          let s4 := am_sI s3 81 (s3.1 66 4).toNatClampNeg x4
          f_M_says_101 s4
        else none
      else none
    else none
  else none
noncomputable def f_M_says_60 (x1 : Int32) (x2 : Int32) (x3 : Int32) (x4 : Int32) (σ : am_St) : Option (Int32 × am_St) := am_lk (g_M_says_60 x1 x2 x3 x4 σ)
theorem eq_M_says_60 (x1 : Int32) (x2 : Int32) (x3 : Int32) (x4 : Int32) (σ : am_St) : f_M_says_60 x1 x2 x3 x4 σ = g_M_says_60 x1 x2 x3 x4 σ := am_lk_eq _
set_option maxRecDepth 100000 in
set_option maxHeartbeats 4000000 in
theorem s_M_says_60 (G : am_G) (x1 : Int32) (x2 : Int32) (x3 : Int32) (x4 : Int32) (σ : am_St) (r : Int32 × am_St) (Q : am_AQ) (e : f_M_says_60 x1 x2 x3 x4 σ = some r) (hr : am_Pi r Q) : am_AW G M_M_says 60 [(4, .int x4), (3, .int x3), (2, .int x2), (1, .int x1), (0, .ref 66)] [] σ Q :=
  (show am_Snd G M_M_says 60 am_Pi _ from (sn_aload_n (pc := 60) (i := 0) dX12_says_60 rfl (sn_gR (r0 := 78) (pc := 61) (h := 66) (f := 18) dX12_says_61 am_CL_11 sh_66 rfl (Nat.le_of_ble_eq_true rfl) tw_959 (sn_aload_n (pc := 64) (i := 0) dX12_says_64 rfl (sn_gI (pc := 65) (h := 66) (f := 4) dX12_says_65 am_CL_11 sh_66 rfl (Nat.le_of_ble_eq_true rfl) tw_945 (sn_iload_n (pc := 68) (i := 1) dX12_says_68 rfl (sn_sI (pc := 69) (h := 78) dX12_says_69 sh_78 (sn_aload_n (pc := 70) (i := 0) dX12_says_70 rfl (sn_gR (r0 := 79) (pc := 71) (h := 66) (f := 19) dX12_says_71 am_CL_11 sh_66 rfl (Nat.le_of_ble_eq_true rfl) tw_960 (sn_aload_n (pc := 74) (i := 0) dX12_says_74 rfl (sn_gI (pc := 75) (h := 66) (f := 4) dX12_says_75 am_CL_11 sh_66 rfl (Nat.le_of_ble_eq_true rfl) tw_945 (sn_iload_n (pc := 78) (i := 2) dX12_says_78 rfl (sn_sI (pc := 79) (h := 79) dX12_says_79 sh_79 (sn_aload_n (pc := 80) (i := 0) dX12_says_80 rfl (sn_gR (r0 := 80) (pc := 81) (h := 66) (f := 20) dX12_says_81 am_CL_11 sh_66 rfl (Nat.le_of_ble_eq_true rfl) tw_961 (sn_aload_n (pc := 84) (i := 0) dX12_says_84 rfl (sn_gI (pc := 85) (h := 66) (f := 4) dX12_says_85 am_CL_11 sh_66 rfl (Nat.le_of_ble_eq_true rfl) tw_945 (sn_iload_n (pc := 88) (i := 3) dX12_says_88 rfl (sn_sI (pc := 89) (h := 80) dX12_says_89 sh_80 (sn_aload_n (pc := 90) (i := 0) dX12_says_90 rfl (sn_gR (r0 := 81) (pc := 91) (h := 66) (f := 21) dX12_says_91 am_CL_11 sh_66 rfl (Nat.le_of_ble_eq_true rfl) tw_962 (sn_aload_n (pc := 94) (i := 0) dX12_says_94 rfl (sn_gI (pc := 95) (h := 66) (f := 4) dX12_says_95 am_CL_11 sh_66 rfl (Nat.le_of_ble_eq_true rfl) tw_945 (sn_iload (pc := 98) dX12_says_98 (sn_sI (pc := 100) (h := 81) dX12_says_100 sh_81 (sn_lf (pc := 101) (ln_a (i := 0) (q := 66) (ln_end (o := fun τ => f_M_says_101 τ) (fun _ _ _ e h => s_M_says_101 G  _ _ _ e h))))))))))))))))))))))))))))) _ _ _ _ _ ((eq_M_says_60 x1 x2 x3 x4 σ).symm.trans e) hr
noncomputable def g_M_says_21 (x1 : Int32) (x2 : Int32) (x3 : Int32) (x4 : Int32) (σ : am_St) : Option (Int32 × am_St) :=
  (f_M_isMinute x3 σ).bind (fun p1 =>
    if p1.1 = 0 then
      f_M_says_38 p1.2
    else
      (f_M_isRoom x4 p1.2).bind (fun p2 =>
        if p2.1 = 0 then
          f_M_says_38 p2.2
        else
          if (p2.2.1 66 4) = 8 then
            f_M_says_53 p2.2
          else
            f_M_says_60 x1 x2 x3 x4 p2.2))
noncomputable def f_M_says_21 (x1 : Int32) (x2 : Int32) (x3 : Int32) (x4 : Int32) (σ : am_St) : Option (Int32 × am_St) := am_lk (g_M_says_21 x1 x2 x3 x4 σ)
theorem eq_M_says_21 (x1 : Int32) (x2 : Int32) (x3 : Int32) (x4 : Int32) (σ : am_St) : f_M_says_21 x1 x2 x3 x4 σ = g_M_says_21 x1 x2 x3 x4 σ := am_lk_eq _
set_option maxRecDepth 100000 in
set_option maxHeartbeats 4000000 in
theorem s_M_says_21 (G : am_G) (x1 : Int32) (x2 : Int32) (x3 : Int32) (x4 : Int32) (σ : am_St) (r : Int32 × am_St) (Q : am_AQ) (e : f_M_says_21 x1 x2 x3 x4 σ = some r) (hr : am_Pi r Q) : am_AW G M_M_says 21 [(4, .int x4), (3, .int x3), (2, .int x2), (1, .int x1), (0, .ref 66)] [] σ Q :=
  (show am_Snd G M_M_says 21 am_Pi _ from (sn_aload_n (pc := 21) (i := 0) dX12_says_21 rfl (sn_iload_n (pc := 22) (i := 3) dX12_says_22 rfl (sn_callV (pc := 23) (N := M_M_isMinute) dX12_says_23 (cal_M_isMinute G) sh_66 rfl tw_1189 tw_1191 tp_44 tw_12 tw_1192 dsc_X12_isMinute rfl (sn_if_eq (pc := 26) (tgt := 38) dX12_says_26 rfl (sn_lf (pc := 38) (ln_a (i := 0) (q := 66) (ln_end (o := fun τ => f_M_says_38 τ) (fun _ _ _ e h => s_M_says_38 G  _ _ _ e h)))) (sn_aload_n (pc := 29) (i := 0) dX12_says_29 rfl (sn_iload (pc := 30) dX12_says_30 (sn_callV (pc := 32) (N := M_M_isRoom) dX12_says_32 (cal_M_isRoom G) sh_66 rfl tw_1150 tw_1152 tp_35 tw_12 tw_1153 dsc_X12_isRoom rfl (sn_if_ne (pc := 35) (tgt := 44) dX12_says_35 rfl (sn_aload_n (pc := 44) (i := 0) dX12_says_44 rfl (sn_gI (pc := 45) (h := 66) (f := 4) dX12_says_45 am_CL_11 sh_66 rfl (Nat.le_of_ble_eq_true rfl) tw_945 (sn_bipush (pc := 48) (v := 8) dX12_says_48 rfl (sn_icmp_ne (pc := 50) (tgt := 60) dX12_says_50 rfl (sn_lf (pc := 60) (ln_a (i := 0) (q := 66) (ln_i (i := 1) (fun z0 => (ln_i (i := 2) (fun z1 => (ln_i (i := 3) (fun z2 => (ln_i (i := 4) (fun z3 => (ln_end (o := fun τ => f_M_says_60 z0 z1 z2 z3 τ) (fun _ _ _ e h => s_M_says_60 G z0 z1 z2 z3 _ _ _ e h)))))))))))) (sn_lf (pc := 53) (ln_a (i := 0) (q := 66) (ln_end (o := fun τ => f_M_says_53 τ) (fun _ _ _ e h => s_M_says_53 G  _ _ _ e h)))))))) (sn_lf (pc := 38) (ln_a (i := 0) (q := 66) (ln_end (o := fun τ => f_M_says_38 τ) (fun _ _ _ e h => s_M_says_38 G  _ _ _ e h))))))))))))) _ _ _ _ _ ((eq_M_says_21 x1 x2 x3 x4 σ).symm.trans e) hr
noncomputable def g_M_says (x1 : Int32) (x2 : Int32) (x3 : Int32) (x4 : Int32) (σ : am_St) : Option (Int32 × am_St) :=
  let s1 := am_sI σ 66 22 0
  (f_M_isChild x1 s1).bind (fun p2 =>
    if p2.1 = 0 then
      f_M_says_38 p2.2
    else
      (f_M_isChild x2 p2.2).bind (fun p3 =>
        if p3.1 = 0 then
          f_M_says_38 p3.2
        else
          f_M_says_21 x1 x2 x3 x4 p3.2))
noncomputable def f_M_says (x1 : Int32) (x2 : Int32) (x3 : Int32) (x4 : Int32) (σ : am_St) : Option (Int32 × am_St) := am_lk (g_M_says x1 x2 x3 x4 σ)
theorem eq_M_says (x1 : Int32) (x2 : Int32) (x3 : Int32) (x4 : Int32) (σ : am_St) : f_M_says x1 x2 x3 x4 σ = g_M_says x1 x2 x3 x4 σ := am_lk_eq _
set_option maxRecDepth 100000 in
set_option maxHeartbeats 4000000 in
theorem s_M_says (G : am_G) (x1 : Int32) (x2 : Int32) (x3 : Int32) (x4 : Int32) (σ : am_St) (r : Int32 × am_St) (Q : am_AQ) (e : f_M_says x1 x2 x3 x4 σ = some r) (hr : am_Pi r Q) : am_AW G M_M_says 0 [(0, .ref 66), (1, .int x1), (2, .int x2), (3, .int x3), (4, .int x4)] [] σ Q :=
  (show am_Snd G M_M_says 0 am_Pi _ from (sn_aload_n (pc := 0) (i := 0) dX12_says_0 rfl (sn_iconst (pc := 1) (v := 0) dX12_says_1 rfl (sn_pI (pc := 2) (h := 66) (f := 22) dX12_says_2 am_CL_11 sh_66 rfl (Nat.le_of_ble_eq_true rfl) tw_963 rfl rfl (sn_aload_n (pc := 5) (i := 0) dX12_says_5 rfl (sn_iload_n (pc := 6) (i := 1) dX12_says_6 rfl (sn_callV (pc := 7) (N := M_M_isChild) dX12_says_7 (cal_M_isChild G) sh_66 rfl tw_1181 tw_1183 tp_42 tw_12 tw_1184 dsc_X12_isChild rfl (sn_if_eq (pc := 10) (tgt := 38) dX12_says_10 rfl (sn_lf (pc := 38) (ln_a (i := 0) (q := 66) (ln_end (o := fun τ => f_M_says_38 τ) (fun _ _ _ e h => s_M_says_38 G  _ _ _ e h)))) (sn_aload_n (pc := 13) (i := 0) dX12_says_13 rfl (sn_iload_n (pc := 14) (i := 2) dX12_says_14 rfl (sn_callV (pc := 15) (N := M_M_isChild) dX12_says_15 (cal_M_isChild G) sh_66 rfl tw_1181 tw_1183 tp_42 tw_12 tw_1184 dsc_X12_isChild rfl (sn_if_eq (pc := 18) (tgt := 38) dX12_says_18 rfl (sn_lf (pc := 38) (ln_a (i := 0) (q := 66) (ln_end (o := fun τ => f_M_says_38 τ) (fun _ _ _ e h => s_M_says_38 G  _ _ _ e h)))) (sn_lf (pc := 21) (ln_a (i := 0) (q := 66) (ln_i (i := 1) (fun z0 => (ln_i (i := 2) (fun z1 => (ln_i (i := 3) (fun z2 => (ln_i (i := 4) (fun z3 => (ln_end (o := fun τ => f_M_says_21 z0 z1 z2 z3 τ) (fun _ _ _ e h => s_M_says_21 G z0 z1 z2 z3 _ _ _ e h)))))))))))))))))))))))) _ _ _ _ _ ((eq_M_says x1 x2 x3 x4 σ).symm.trans e) hr
noncomputable def cF_M_says : am_Fn := fun _ args σ K => match args with
  | [.ref q0, .int z1, .int z2, .int z3, .int z4] => match Nat.beq q0 66 with
    | true => (f_M_says z1 z2 z3 z4 σ).bind (fun p => K (some (.int p.1)) p.2)
    | _ => none
  | _ => none
theorem cal_M_says (G : am_G) : am_Cal G M_M_says cF_M_says := by
  intro ρ args σ K r e
  unfold cF_M_says at e
  split at e
  · split at e
    · rename_i hq0
      obtain ⟨p, h1, h2⟩ := am_bind_some e
      rw [Nat.eq_of_beq_eq_true hq0]
      exact ⟨some (.int p.1), p.2, am_Met.of rfl (Nat.le_of_ble_eq_true rfl) (s_M_says G _ _ _ _ σ p _ h1 ⟨rfl, rfl⟩), h2⟩
    · cases e
  · cases e
abbrev M_M_hush : am_MD := (yX12_hush, cX12_hush, 2, (some .int), 0, 0)
theorem dX12_hush_0 : decode cX12_hush 0 = .ok (.aload_n 0, 1) := by decide +kernel
theorem dX12_hush_1 : decode cX12_hush 1 = .ok (.iconst 0, 1) := by decide +kernel
theorem dX12_hush_2 : decode cX12_hush 2 = .ok (.putfield 102, 3) := by decide +kernel
theorem dX12_hush_5 : decode cX12_hush 5 = .ok (.aload_n 0, 1) := by decide +kernel
theorem dX12_hush_6 : decode cX12_hush 6 = .ok (.getfield 239, 3) := by decide +kernel
theorem dX12_hush_9 : decode cX12_hush 9 = .ok (.istore_n 1, 1) := by decide +kernel
theorem dX12_hush_10 : decode cX12_hush 10 = .ok (.aload_n 0, 1) := by decide +kernel
theorem dX12_hush_11 : decode cX12_hush 11 = .ok (.iconst 0, 1) := by decide +kernel
theorem dX12_hush_12 : decode cX12_hush 12 = .ok (.putfield 239, 3) := by decide +kernel
theorem dX12_hush_15 : decode cX12_hush 15 = .ok (.iload_n 1, 1) := by decide +kernel
theorem dX12_hush_16 : decode cX12_hush 16 = .ok (.ireturn, 1) := by decide +kernel
noncomputable def g_M_hush (σ : am_St) : Option (Int32 × am_St) :=
  let s1 := am_sI σ 66 22 0
  let v2 := s1.1 66 4
  let s3 := am_sI s1 66 4 0
  some ((v2, s3))
noncomputable def f_M_hush (σ : am_St) : Option (Int32 × am_St) := am_lk (g_M_hush  σ)
theorem eq_M_hush (σ : am_St) : f_M_hush  σ = g_M_hush  σ := am_lk_eq _
set_option maxRecDepth 100000 in
set_option maxHeartbeats 4000000 in
theorem s_M_hush (G : am_G) (σ : am_St) (r : Int32 × am_St) (Q : am_AQ) (e : f_M_hush  σ = some r) (hr : am_Pi r Q) : am_AW G M_M_hush 0 [(0, .ref 66)] [] σ Q :=
  (show am_Snd G M_M_hush 0 am_Pi _ from (sn_aload_n (pc := 0) (i := 0) dX12_hush_0 rfl (sn_iconst (pc := 1) (v := 0) dX12_hush_1 rfl (sn_pI (pc := 2) (h := 66) (f := 22) dX12_hush_2 am_CL_11 sh_66 rfl (Nat.le_of_ble_eq_true rfl) tw_963 rfl rfl (sn_aload_n (pc := 5) (i := 0) dX12_hush_5 rfl (sn_gI (pc := 6) (h := 66) (f := 4) dX12_hush_6 am_CL_11 sh_66 rfl (Nat.le_of_ble_eq_true rfl) tw_945 (sn_istore_n (pc := 9) (i := 1) dX12_hush_9 rfl (Nat.le_of_ble_eq_true rfl) (sn_aload_n (pc := 10) (i := 0) dX12_hush_10 rfl (sn_iconst (pc := 11) (v := 0) dX12_hush_11 rfl (sn_pI (pc := 12) (h := 66) (f := 4) dX12_hush_12 am_CL_11 sh_66 rfl (Nat.le_of_ble_eq_true rfl) tw_945 rfl rfl (sn_iload_n (pc := 15) (i := 1) dX12_hush_15 rfl (sn_reti (pc := 16) (R := fun x τ => (some ((x, τ)))) dX12_hush_16 rfl (fun _ _ _ _ e h => by cases e; exact h))))))))))))) _ _ _ _ _ ((eq_M_hush  σ).symm.trans e) hr
noncomputable def cF_M_hush : am_Fn := fun _ args σ K => match args with
  | [.ref q0] => match Nat.beq q0 66 with
    | true => (f_M_hush σ).bind (fun p => K (some (.int p.1)) p.2)
    | _ => none
  | _ => none
theorem cal_M_hush (G : am_G) : am_Cal G M_M_hush cF_M_hush := by
  intro ρ args σ K r e
  unfold cF_M_hush at e
  split at e
  · split at e
    · rename_i hq0
      obtain ⟨p, h1, h2⟩ := am_bind_some e
      rw [Nat.eq_of_beq_eq_true hq0]
      exact ⟨some (.int p.1), p.2, am_Met.of rfl (Nat.le_of_ble_eq_true rfl) (s_M_hush G  σ p _ h1 ⟨rfl, rfl⟩), h2⟩
    · cases e
  · cases e
abbrev M_M_holdsOf : am_MD := (yX12_holdsOf, cX12_holdsOf, 2, (some .int), 3, 68)
theorem dX12_holdsOf_0 : decode cX12_holdsOf 0 = .ok (.aload_n 0, 1) := by decide +kernel
theorem dX12_holdsOf_1 : decode cX12_holdsOf 1 = .ok (.aload_n 0, 1) := by decide +kernel
theorem dX12_holdsOf_2 : decode cX12_holdsOf 2 = .ok (.getfield 53, 3) := by decide +kernel
theorem dX12_holdsOf_5 : decode cX12_holdsOf 5 = .ok (.iload_n 1, 1) := by decide +kernel
theorem dX12_holdsOf_6 : decode cX12_holdsOf 6 = .ok (.iaload, 1) := by decide +kernel
theorem dX12_holdsOf_7 : decode cX12_holdsOf 7 = .ok (.aload_n 0, 1) := by decide +kernel
theorem dX12_holdsOf_8 : decode cX12_holdsOf 8 = .ok (.getfield 56, 3) := by decide +kernel
theorem dX12_holdsOf_11 : decode cX12_holdsOf 11 = .ok (.iload_n 1, 1) := by decide +kernel
theorem dX12_holdsOf_12 : decode cX12_holdsOf 12 = .ok (.iaload, 1) := by decide +kernel
theorem dX12_holdsOf_13 : decode cX12_holdsOf 13 = .ok (.aload_n 0, 1) := by decide +kernel
theorem dX12_holdsOf_14 : decode cX12_holdsOf 14 = .ok (.getfield 59, 3) := by decide +kernel
theorem dX12_holdsOf_17 : decode cX12_holdsOf 17 = .ok (.iload_n 1, 1) := by decide +kernel
theorem dX12_holdsOf_18 : decode cX12_holdsOf 18 = .ok (.iaload, 1) := by decide +kernel
theorem dX12_holdsOf_19 : decode cX12_holdsOf 19 = .ok (.invokevirtual 133, 3) := by decide +kernel
theorem dX12_holdsOf_22 : decode cX12_holdsOf 22 = .ok (.ireturn, 1) := by decide +kernel
noncomputable def g_M_holdsOf (x1 : Int32) (σ : am_St) : Option (Int32 × am_St) :=
  if am_ix x1 8 = true then
    if am_ix x1 8 = true then
      if am_ix x1 8 = true then
        (f_M_waysAt (σ.1 79 x1.toNatClampNeg) (σ.1 80 x1.toNatClampNeg) (σ.1 81 x1.toNatClampNeg) σ).bind (fun p1 =>
          some ((p1.1, p1.2)))
      else none
    else none
  else none
noncomputable def f_M_holdsOf (x1 : Int32) (σ : am_St) : Option (Int32 × am_St) := am_lk (g_M_holdsOf x1 σ)
theorem eq_M_holdsOf (x1 : Int32) (σ : am_St) : f_M_holdsOf x1 σ = g_M_holdsOf x1 σ := am_lk_eq _
set_option maxRecDepth 100000 in
set_option maxHeartbeats 4000000 in
theorem s_M_holdsOf (G : am_G) (x1 : Int32) (σ : am_St) (r : Int32 × am_St) (Q : am_AQ) (e : f_M_holdsOf x1 σ = some r) (hr : am_Pi r Q) : am_AW G M_M_holdsOf 0 [(0, .ref 66), (1, .int x1)] [] σ Q :=
  (show am_Snd G M_M_holdsOf 0 am_Pi _ from (sn_aload_n (pc := 0) (i := 0) dX12_holdsOf_0 rfl (sn_aload_n (pc := 1) (i := 0) dX12_holdsOf_1 rfl (sn_gR (r0 := 79) (pc := 2) (h := 66) (f := 19) dX12_holdsOf_2 am_CL_11 sh_66 rfl (Nat.le_of_ble_eq_true rfl) tw_960 (sn_iload_n (pc := 5) (i := 1) dX12_holdsOf_5 rfl (sn_aI (pc := 6) (h := 79) dX12_holdsOf_6 sh_79 (sn_aload_n (pc := 7) (i := 0) dX12_holdsOf_7 rfl (sn_gR (r0 := 80) (pc := 8) (h := 66) (f := 20) dX12_holdsOf_8 am_CL_11 sh_66 rfl (Nat.le_of_ble_eq_true rfl) tw_961 (sn_iload_n (pc := 11) (i := 1) dX12_holdsOf_11 rfl (sn_aI (pc := 12) (h := 80) dX12_holdsOf_12 sh_80 (sn_aload_n (pc := 13) (i := 0) dX12_holdsOf_13 rfl (sn_gR (r0 := 81) (pc := 14) (h := 66) (f := 21) dX12_holdsOf_14 am_CL_11 sh_66 rfl (Nat.le_of_ble_eq_true rfl) tw_962 (sn_iload_n (pc := 17) (i := 1) dX12_holdsOf_17 rfl (sn_aI (pc := 18) (h := 81) dX12_holdsOf_18 sh_81 (sn_callV (pc := 19) (N := M_M_waysAt) dX12_holdsOf_19 (cal_M_waysAt G) sh_66 rfl tw_1261 tw_1263 tp_51 tw_12 tw_1264 dsc_X12_waysAt rfl (sn_reti (pc := 22) (R := fun x τ => (some ((x, τ)))) dX12_holdsOf_22 rfl (fun _ _ _ _ e h => by cases e; exact h))))))))))))))))) _ _ _ _ _ ((eq_M_holdsOf x1 σ).symm.trans e) hr
noncomputable def cF_M_holdsOf : am_Fn := fun _ args σ K => match args with
  | [.ref q0, .int z1] => match Nat.beq q0 66 with
    | true => (f_M_holdsOf z1 σ).bind (fun p => K (some (.int p.1)) p.2)
    | _ => none
  | _ => none
theorem cal_M_holdsOf (G : am_G) : am_Cal G M_M_holdsOf cF_M_holdsOf := by
  intro ρ args σ K r e
  unfold cF_M_holdsOf at e
  split at e
  · split at e
    · rename_i hq0
      obtain ⟨p, h1, h2⟩ := am_bind_some e
      rw [Nat.eq_of_beq_eq_true hq0]
      exact ⟨some (.int p.1), p.2, am_Met.of rfl (Nat.le_of_ble_eq_true rfl) (s_M_holdsOf G _ σ p _ h1 ⟨rfl, rfl⟩), h2⟩
    · cases e
  · cases e
abbrev M_M_holds : am_MD := (yX12_holds, cX12_holds, 2, (some .int), 4, 89)
theorem dX12_holds_0 : decode cX12_holds 0 = .ok (.aload_n 0, 1) := by decide +kernel
theorem dX12_holds_1 : decode cX12_holds 1 = .ok (.iconst 0, 1) := by decide +kernel
theorem dX12_holds_2 : decode cX12_holds 2 = .ok (.putfield 102, 3) := by decide +kernel
theorem dX12_holds_5 : decode cX12_holds 5 = .ok (.iload_n 1, 1) := by decide +kernel
theorem dX12_holds_6 : decode cX12_holds 6 = .ok (.i2l, 1) := by decide +kernel
theorem dX12_holds_7 : decode cX12_holds 7 = .ok (.lconst 0, 1) := by decide +kernel
theorem dX12_holds_8 : decode cX12_holds 8 = .ok (.aload_n 0, 1) := by decide +kernel
theorem dX12_holds_9 : decode cX12_holds 9 = .ok (.getfield 239, 3) := by decide +kernel
theorem dX12_holds_12 : decode cX12_holds 12 = .ok (.iconst 1, 1) := by decide +kernel
theorem dX12_holds_13 : decode cX12_holds 13 = .ok (.isub, 1) := by decide +kernel
theorem dX12_holds_14 : decode cX12_holds 14 = .ok (.i2l, 1) := by decide +kernel
theorem dX12_holds_15 : decode cX12_holds 15 = .ok (.invokestatic 108, 3) := by decide +kernel
theorem dX12_holds_18 : decode cX12_holds 18 = .ok (.ifCond .eq 11, 3) := by decide +kernel
theorem dX12_holds_21 : decode cX12_holds 21 = .ok (.aload_n 0, 1) := by decide +kernel
theorem dX12_holds_22 : decode cX12_holds 22 = .ok (.iload_n 1, 1) := by decide +kernel
theorem dX12_holds_23 : decode cX12_holds 23 = .ok (.invokevirtual 291, 3) := by decide +kernel
theorem dX12_holds_26 : decode cX12_holds 26 = .ok (.goto 8, 3) := by decide +kernel
theorem dX12_holds_29 : decode cX12_holds 29 = .ok (.aload_n 0, 1) := by decide +kernel
theorem dX12_holds_30 : decode cX12_holds 30 = .ok (.iconst (-1), 1) := by decide +kernel
theorem dX12_holds_31 : decode cX12_holds 31 = .ok (.invokevirtual 154, 3) := by decide +kernel
theorem dX12_holds_34 : decode cX12_holds 34 = .ok (.ireturn, 1) := by decide +kernel
noncomputable def g_M_holds (x1 : Int32) (σ : am_St) : Option (Int32 × am_St) :=
  let s1 := am_sI σ 66 22 0
  (f_M_in x1.toInt64 0 (((s1.1 66 4) - 1).toInt64) s1).bind (fun p2 =>
    if p2.1 = 0 then
      (f_M_refuse (-1) p2.2).bind (fun p3 =>
        some ((p3.1, p3.2)))
    else
      (f_M_holdsOf x1 p2.2).bind (fun p4 =>
        some ((p4.1, p4.2))))
noncomputable def f_M_holds (x1 : Int32) (σ : am_St) : Option (Int32 × am_St) := am_lk (g_M_holds x1 σ)
theorem eq_M_holds (x1 : Int32) (σ : am_St) : f_M_holds x1 σ = g_M_holds x1 σ := am_lk_eq _
set_option maxRecDepth 100000 in
set_option maxHeartbeats 4000000 in
theorem s_M_holds (G : am_G) (x1 : Int32) (σ : am_St) (r : Int32 × am_St) (Q : am_AQ) (e : f_M_holds x1 σ = some r) (hr : am_Pi r Q) : am_AW G M_M_holds 0 [(0, .ref 66), (1, .int x1)] [] σ Q :=
  (show am_Snd G M_M_holds 0 am_Pi _ from (sn_aload_n (pc := 0) (i := 0) dX12_holds_0 rfl (sn_iconst (pc := 1) (v := 0) dX12_holds_1 rfl (sn_pI (pc := 2) (h := 66) (f := 22) dX12_holds_2 am_CL_11 sh_66 rfl (Nat.le_of_ble_eq_true rfl) tw_963 rfl rfl (sn_iload_n (pc := 5) (i := 1) dX12_holds_5 rfl (sn_i2l (pc := 6) dX12_holds_6 (sn_lconst (pc := 7) (v := 0) dX12_holds_7 rfl (sn_aload_n (pc := 8) (i := 0) dX12_holds_8 rfl (sn_gI (pc := 9) (h := 66) (f := 4) dX12_holds_9 am_CL_11 sh_66 rfl (Nat.le_of_ble_eq_true rfl) tw_945 (sn_iconst (pc := 12) (v := 1) dX12_holds_12 rfl (sn_isub (pc := 13) dX12_holds_13 (sn_i2l (pc := 14) dX12_holds_14 (sn_callS (pc := 15) (N := M_M_in) dX12_holds_15 (cal_M_in G) tw_1116 tw_1117 tw_12 tw_1118 dsc_X12_in rfl (sn_if_eq (pc := 18) (tgt := 29) dX12_holds_18 rfl (sn_aload_n (pc := 29) (i := 0) dX12_holds_29 rfl (sn_iconst (pc := 30) (v := (-1)) dX12_holds_30 (show Int32.ofInt (-1) = (-1) by decide) (sn_callV (pc := 31) (N := M_M_refuse) dX12_holds_31 (cal_M_refuse G) sh_66 rfl tw_1090 tw_1092 tp_23 tw_12 tw_1093 dsc_X12_refuse rfl (sn_reti (pc := 34) (R := fun x τ => (some ((x, τ)))) dX12_holds_34 rfl (fun _ _ _ _ e h => by cases e; exact h))))) (sn_aload_n (pc := 21) (i := 0) dX12_holds_21 rfl (sn_iload_n (pc := 22) (i := 1) dX12_holds_22 rfl (sn_callV (pc := 23) (N := M_M_holdsOf) dX12_holds_23 (cal_M_holdsOf G) sh_66 rfl tw_1304 tw_1306 tp_53 tw_12 tw_1307 dsc_X12_holdsOf rfl (sn_goto (pc := 26) (tgt := 34) dX12_holds_26 rfl (sn_reti (pc := 34) (R := fun x τ => (some ((x, τ)))) dX12_holds_34 rfl (fun _ _ _ _ e h => by cases e; exact h)))))))))))))))))))) _ _ _ _ _ ((eq_M_holds x1 σ).symm.trans e) hr
noncomputable def cF_M_holds : am_Fn := fun _ args σ K => match args with
  | [.ref q0, .int z1] => match Nat.beq q0 66 with
    | true => (f_M_holds z1 σ).bind (fun p => K (some (.int p.1)) p.2)
    | _ => none
  | _ => none
theorem cal_M_holds (G : am_G) : am_Cal G M_M_holds cF_M_holds := by
  intro ρ args σ K r e
  unfold cF_M_holds at e
  split at e
  · split at e
    · rename_i hq0
      obtain ⟨p, h1, h2⟩ := am_bind_some e
      rw [Nat.eq_of_beq_eq_true hq0]
      exact ⟨some (.int p.1), p.2, am_Met.of rfl (Nat.le_of_ble_eq_true rfl) (s_M_holds G _ σ p _ h1 ⟨rfl, rfl⟩), h2⟩
    · cases e
  · cases e
abbrev M_M_areTogether : am_MD := (yX12_areTogether, cX12_areTogether, 5, (some .boolean), 2, 45)
theorem dX12_areTogether_0 : decode cX12_areTogether 0 = .ok (.iconst 1, 1) := by decide +kernel
theorem dX12_areTogether_1 : decode cX12_areTogether 1 = .ok (.istore_n 2, 1) := by decide +kernel
theorem dX12_areTogether_2 : decode cX12_areTogether 2 = .ok (.iconst 0, 1) := by decide +kernel
theorem dX12_areTogether_3 : decode cX12_areTogether 3 = .ok (.istore_n 3, 1) := by decide +kernel
theorem dX12_areTogether_4 : decode cX12_areTogether 4 = .ok (.iload_n 3, 1) := by decide +kernel
theorem dX12_areTogether_5 : decode cX12_areTogether 5 = .ok (.aload_n 0, 1) := by decide +kernel
theorem dX12_areTogether_6 : decode cX12_areTogether 6 = .ok (.getfield 105, 3) := by decide +kernel
theorem dX12_areTogether_9 : decode cX12_areTogether 9 = .ok (.if_icmp .ge 93, 3) := by decide +kernel
theorem dX12_areTogether_12 : decode cX12_areTogether 12 = .ok (.iload_n 2, 1) := by decide +kernel
theorem dX12_areTogether_13 : decode cX12_areTogether 13 = .ok (.ifCond .eq 89, 3) := by decide +kernel
theorem dX12_areTogether_16 : decode cX12_areTogether 16 = .ok (.aload_n 0, 1) := by decide +kernel
theorem dX12_areTogether_17 : decode cX12_areTogether 17 = .ok (.iload_n 3, 1) := by decide +kernel
theorem dX12_areTogether_18 : decode cX12_areTogether 18 = .ok (.invokevirtual 119, 3) := by decide +kernel
theorem dX12_areTogether_21 : decode cX12_areTogether 21 = .ok (.iconst 0, 1) := by decide +kernel
theorem dX12_areTogether_22 : decode cX12_areTogether 22 = .ok (.istore 4, 2) := by decide +kernel
theorem dX12_areTogether_24 : decode cX12_areTogether 24 = .ok (.iload 4, 2) := by decide +kernel
theorem dX12_areTogether_26 : decode cX12_areTogether 26 = .ok (.aload_n 0, 1) := by decide +kernel
theorem dX12_areTogether_27 : decode cX12_areTogether 27 = .ok (.getfield 239, 3) := by decide +kernel
theorem dX12_areTogether_30 : decode cX12_areTogether 30 = .ok (.if_icmp .ge 53, 3) := by decide +kernel
theorem dX12_areTogether_33 : decode cX12_areTogether 33 = .ok (.iload_n 1, 1) := by decide +kernel
theorem dX12_areTogether_34 : decode cX12_areTogether 34 = .ok (.iload 4, 2) := by decide +kernel
theorem dX12_areTogether_36 : decode cX12_areTogether 36 = .ok (.invokestatic 115, 3) := by decide +kernel
theorem dX12_areTogether_39 : decode cX12_areTogether 39 = .ok (.ifCond .eq 38, 3) := by decide +kernel
theorem dX12_areTogether_42 : decode cX12_areTogether 42 = .ok (.aload_n 0, 1) := by decide +kernel
theorem dX12_areTogether_43 : decode cX12_areTogether 43 = .ok (.getfield 53, 3) := by decide +kernel
theorem dX12_areTogether_46 : decode cX12_areTogether 46 = .ok (.iload 4, 2) := by decide +kernel
theorem dX12_areTogether_48 : decode cX12_areTogether 48 = .ok (.iaload, 1) := by decide +kernel
theorem dX12_areTogether_49 : decode cX12_areTogether 49 = .ok (.iload_n 3, 1) := by decide +kernel
theorem dX12_areTogether_50 : decode cX12_areTogether 50 = .ok (.if_icmp .ne 27, 3) := by decide +kernel
theorem dX12_areTogether_53 : decode cX12_areTogether 53 = .ok (.aload_n 0, 1) := by decide +kernel
theorem dX12_areTogether_54 : decode cX12_areTogether 54 = .ok (.getfield 65, 3) := by decide +kernel
theorem dX12_areTogether_57 : decode cX12_areTogether 57 = .ok (.aload_n 0, 1) := by decide +kernel
theorem dX12_areTogether_58 : decode cX12_areTogether 58 = .ok (.getfield 56, 3) := by decide +kernel
theorem dX12_areTogether_61 : decode cX12_areTogether 61 = .ok (.iload 4, 2) := by decide +kernel
theorem dX12_areTogether_63 : decode cX12_areTogether 63 = .ok (.iaload, 1) := by decide +kernel
theorem dX12_areTogether_64 : decode cX12_areTogether 64 = .ok (.dup2, 1) := by decide +kernel
theorem dX12_areTogether_65 : decode cX12_areTogether 65 = .ok (.iaload, 1) := by decide +kernel
theorem dX12_areTogether_66 : decode cX12_areTogether 66 = .ok (.iconst 1, 1) := by decide +kernel
theorem dX12_areTogether_67 : decode cX12_areTogether 67 = .ok (.aload_n 0, 1) := by decide +kernel
theorem dX12_areTogether_68 : decode cX12_areTogether 68 = .ok (.getfield 59, 3) := by decide +kernel
theorem dX12_areTogether_71 : decode cX12_areTogether 71 = .ok (.iload 4, 2) := by decide +kernel
theorem dX12_areTogether_73 : decode cX12_areTogether 73 = .ok (.iaload, 1) := by decide +kernel
theorem dX12_areTogether_74 : decode cX12_areTogether 74 = .ok (.ishl, 1) := by decide +kernel
theorem dX12_areTogether_75 : decode cX12_areTogether 75 = .ok (.iand, 1) := by decide +kernel
theorem dX12_areTogether_76 : decode cX12_areTogether 76 = .ok (.iastore, 1) := by decide +kernel
theorem dX12_areTogether_77 : decode cX12_areTogether 77 = .ok (.iinc 4 1, 3) := by decide +kernel
theorem dX12_areTogether_80 : decode cX12_areTogether 80 = .ok (.goto (-56), 3) := by decide +kernel
theorem dX12_areTogether_83 : decode cX12_areTogether 83 = .ok (.aload_n 0, 1) := by decide +kernel
theorem dX12_areTogether_84 : decode cX12_areTogether 84 = .ok (.invokevirtual 123, 3) := by decide +kernel
theorem dX12_areTogether_87 : decode cX12_areTogether 87 = .ok (.ifCond .le 7, 3) := by decide +kernel
theorem dX12_areTogether_90 : decode cX12_areTogether 90 = .ok (.iconst 1, 1) := by decide +kernel
theorem dX12_areTogether_91 : decode cX12_areTogether 91 = .ok (.goto 4, 3) := by decide +kernel
theorem dX12_areTogether_94 : decode cX12_areTogether 94 = .ok (.iconst 0, 1) := by decide +kernel
theorem dX12_areTogether_95 : decode cX12_areTogether 95 = .ok (.istore_n 2, 1) := by decide +kernel
theorem dX12_areTogether_96 : decode cX12_areTogether 96 = .ok (.iinc 3 1, 3) := by decide +kernel
theorem dX12_areTogether_99 : decode cX12_areTogether 99 = .ok (.goto (-95), 3) := by decide +kernel
theorem dX12_areTogether_102 : decode cX12_areTogether 102 = .ok (.iload_n 2, 1) := by decide +kernel
theorem dX12_areTogether_103 : decode cX12_areTogether 103 = .ok (.ireturn, 1) := by decide +kernel
abbrev Pl_M_areTogether_4 (G : am_G) : ((Int32 × Int32 × Int32 × am_St) ⊕ (Int32 × am_St)) → am_AQ → Prop := am_PL G M_M_areTogether 4 (fun s : Int32 × Int32 × Int32 × am_St => [(3, .int s.2.2.1), (2, .int s.2.1), (1, .int s.1), (0, .ref 66)]) (fun s => s.2.2.2) am_Pi
abbrev Pl_M_areTogether_24 (G : am_G) : ((Int32 × Int32 × Int32 × am_St) ⊕ ((Int32 × Int32 × Int32 × am_St) ⊕ (Int32 × am_St))) → am_AQ → Prop := am_PL G M_M_areTogether 24 (fun s : Int32 × Int32 × Int32 × am_St => [(4, .int s.2.2.1), (3, .int s.2.1), (1, .int s.1), (0, .ref 66)]) (fun s => s.2.2.2) (Pl_M_areTogether_4 G)
noncomputable def g_M_areTogether_77 (x1 : Int32) (x3 : Int32) (x4 : Int32) (σ : am_St) : Option ((Int32 × Int32 × Int32 × am_St) ⊕ ((Int32 × Int32 × Int32 × am_St) ⊕ (Int32 × am_St))) :=
  let v1 := x4 + 1
  some (.inl (x1, x3, v1, σ))
noncomputable def f_M_areTogether_77 (x1 : Int32) (x3 : Int32) (x4 : Int32) (σ : am_St) : Option ((Int32 × Int32 × Int32 × am_St) ⊕ ((Int32 × Int32 × Int32 × am_St) ⊕ (Int32 × am_St))) := am_lk (g_M_areTogether_77 x1 x3 x4 σ)
theorem eq_M_areTogether_77 (x1 : Int32) (x3 : Int32) (x4 : Int32) (σ : am_St) : f_M_areTogether_77 x1 x3 x4 σ = g_M_areTogether_77 x1 x3 x4 σ := am_lk_eq _
set_option maxRecDepth 100000 in
set_option maxHeartbeats 4000000 in
theorem s_M_areTogether_77 (G : am_G) (x1 : Int32) (x3 : Int32) (x4 : Int32) (σ : am_St) (r : (Int32 × Int32 × Int32 × am_St) ⊕ ((Int32 × Int32 × Int32 × am_St) ⊕ (Int32 × am_St))) (Q : am_AQ) (e : f_M_areTogether_77 x1 x3 x4 σ = some r) (hr : (Pl_M_areTogether_24 G) r Q) : am_AW G M_M_areTogether 77 [(4, .int x4), (3, .int x3), (1, .int x1), (0, .ref 66)] [] σ Q :=
  (show am_Snd G M_M_areTogether 77 (Pl_M_areTogether_24 G) _ from (sn_iinc (pc := 77) (v := 1) dX12_areTogether_77 rfl (Nat.le_of_ble_eq_true rfl) (sn_goto (pc := 80) (tgt := 24) dX12_areTogether_80 rfl (sn_lf (pc := 24) (ln_a (i := 0) (q := 66) (ln_i (i := 1) (fun z0 => (ln_i (i := 3) (fun z1 => (ln_i (i := 4) (fun z2 => (ln_end (o := fun τ => (some (.inl (z0, z1, z2, τ)) : Option ((Int32 × Int32 × Int32 × am_St) ⊕ ((Int32 × Int32 × Int32 × am_St) ⊕ (Int32 × am_St))))) (fun _ _ _ e h => by cases e; exact h))))))))))))) _ _ _ _ _ ((eq_M_areTogether_77 x1 x3 x4 σ).symm.trans e) hr
noncomputable def g_M_areTogether_95 (x1 : Int32) (x3 : Int32) (y0 : Int32) (σ : am_St) : Option ((Int32 × Int32 × Int32 × am_St) ⊕ (Int32 × am_St)) :=
  let v1 := x3 + 1
  some (.inl (x1, y0, v1, σ))
noncomputable def f_M_areTogether_95 (x1 : Int32) (x3 : Int32) (y0 : Int32) (σ : am_St) : Option ((Int32 × Int32 × Int32 × am_St) ⊕ (Int32 × am_St)) := am_lk (g_M_areTogether_95 x1 x3 y0 σ)
theorem eq_M_areTogether_95 (x1 : Int32) (x3 : Int32) (y0 : Int32) (σ : am_St) : f_M_areTogether_95 x1 x3 y0 σ = g_M_areTogether_95 x1 x3 y0 σ := am_lk_eq _
set_option maxRecDepth 100000 in
set_option maxHeartbeats 4000000 in
theorem s_M_areTogether_95 (G : am_G) (x1 : Int32) (x3 : Int32) (y0 : Int32) (σ : am_St) (r : (Int32 × Int32 × Int32 × am_St) ⊕ (Int32 × am_St)) (Q : am_AQ) (e : f_M_areTogether_95 x1 x3 y0 σ = some r) (hr : (Pl_M_areTogether_4 G) r Q) : am_AW G M_M_areTogether 95 [(3, .int x3), (1, .int x1), (0, .ref 66)] [.int y0] σ Q :=
  (show am_Snd G M_M_areTogether 95 (Pl_M_areTogether_4 G) _ from (sn_istore_n (pc := 95) (i := 2) dX12_areTogether_95 rfl (Nat.le_of_ble_eq_true rfl) (sn_iinc (pc := 96) (v := 1) dX12_areTogether_96 rfl (Nat.le_of_ble_eq_true rfl) (sn_goto (pc := 99) (tgt := 4) dX12_areTogether_99 rfl (sn_lf (pc := 4) (ln_a (i := 0) (q := 66) (ln_i (i := 1) (fun z0 => (ln_i (i := 2) (fun z1 => (ln_i (i := 3) (fun z2 => (ln_end (o := fun τ => (some (.inl (z0, z1, z2, τ)) : Option ((Int32 × Int32 × Int32 × am_St) ⊕ (Int32 × am_St)))) (fun _ _ _ e h => by cases e; exact h)))))))))))))) _ _ _ _ _ ((eq_M_areTogether_95 x1 x3 y0 σ).symm.trans e) hr
noncomputable def b_M_areTogether_24 (x1 : Int32) (x3 : Int32) (x4 : Int32) (σ : am_St) : Option ((Int32 × Int32 × Int32 × am_St) ⊕ ((Int32 × Int32 × Int32 × am_St) ⊕ (Int32 × am_St))) :=
  if (σ.1 66 4) ≤ x4 then
    (f_M_countWays σ).bind (fun p1 =>
      if p1.1 ≤ 0 then
        (f_M_areTogether_95 x1 x3 0 p1.2).map (fun r => .inr r)
      else
        (f_M_areTogether_95 x1 x3 1 p1.2).map (fun r => .inr r))
  else
    (f_M_has x1 x4 σ).bind (fun p2 =>
      if p2.1 = 0 then
        f_M_areTogether_77 x1 x3 x4 p2.2
      else
        if am_ix x4 8 = true then
          if (p2.2.1 79 x4.toNatClampNeg) = x3 then
            if am_ix x4 8 = true then
              let v3 := p2.2.1 80 x4.toNatClampNeg
              if am_ix v3 6 = true then
                if am_ix x4 8 = true then
                  if am_ix v3 6 = true then
                    let s4 := am_sI p2.2 83 v3.toNatClampNeg ((p2.2.1 83 v3.toNatClampNeg) &&& (1 <<< ((p2.2.1 81 x4.toNatClampNeg) &&& 31)))
                    f_M_areTogether_77 x1 x3 x4 s4
                  else none
                else none
              else none
            else none
          else
            f_M_areTogether_77 x1 x3 x4 p2.2
        else none)
noncomputable def f_M_areTogether_24 (x1 : Int32) (x3 : Int32) (x4 : Int32) (σ : am_St) : Option ((Int32 × Int32 × Int32 × am_St) ⊕ (Int32 × am_St)) := am_lp (fun s : Int32 × Int32 × Int32 × am_St => b_M_areTogether_24 s.1 s.2.1 s.2.2.1 s.2.2.2) (x1, x3, x4, σ)
set_option maxRecDepth 100000 in
set_option maxHeartbeats 4000000 in
theorem sb_M_areTogether_24 (G : am_G) (x1 : Int32) (x3 : Int32) (x4 : Int32) (σ : am_St) (r : (Int32 × Int32 × Int32 × am_St) ⊕ ((Int32 × Int32 × Int32 × am_St) ⊕ (Int32 × am_St))) (Q : am_AQ) (e : b_M_areTogether_24 x1 x3 x4 σ = some r) (hr : Pl_M_areTogether_24 G r Q) : am_AW G M_M_areTogether 24 [(4, .int x4), (3, .int x3), (1, .int x1), (0, .ref 66)] [] σ Q :=
  (show am_Snd G M_M_areTogether 24 (Pl_M_areTogether_24 G) _ from (sn_iload (pc := 24) dX12_areTogether_24 (sn_aload_n (pc := 26) (i := 0) dX12_areTogether_26 rfl (sn_gI (pc := 27) (h := 66) (f := 4) dX12_areTogether_27 am_CL_11 sh_66 rfl (Nat.le_of_ble_eq_true rfl) tw_945 (sn_icmp_ge (pc := 30) (tgt := 83) dX12_areTogether_30 rfl (sn_aload_n (pc := 83) (i := 0) dX12_areTogether_83 rfl (sn_callV (pc := 84) (N := M_M_countWays) dX12_areTogether_84 (cal_M_countWays G) sh_66 rfl tw_1166 tw_1168 tp_39 tw_12 tw_1169 dsc_X12_countWays rfl (sn_if_le (pc := 87) (tgt := 94) dX12_areTogether_87 rfl (sn_iconst (pc := 94) (v := 0) dX12_areTogether_94 rfl (sn_lf (pc := 95) (ln_a (i := 0) (q := 66) (ln_i (i := 1) (fun z0 => (ln_i (i := 3) (fun z1 => (ln_si (fun w0 => (ln_end (o := fun τ => ((f_M_areTogether_95 z0 z1 w0 τ).map (fun r => .inr r) : Option ((Int32 × Int32 × Int32 × am_St) ⊕ ((Int32 × Int32 × Int32 × am_St) ⊕ (Int32 × am_St))))) (fun _ _ _ e h => by obtain ⟨r9, e9, rfl⟩ := am_map_some e; exact s_M_areTogether_95 G z0 z1 w0 _ _ _ e9 h))))))))))) (sn_iconst (pc := 90) (v := 1) dX12_areTogether_90 rfl (sn_goto (pc := 91) (tgt := 95) dX12_areTogether_91 rfl (sn_lf (pc := 95) (ln_a (i := 0) (q := 66) (ln_i (i := 1) (fun z0 => (ln_i (i := 3) (fun z1 => (ln_si (fun w0 => (ln_end (o := fun τ => ((f_M_areTogether_95 z0 z1 w0 τ).map (fun r => .inr r) : Option ((Int32 × Int32 × Int32 × am_St) ⊕ ((Int32 × Int32 × Int32 × am_St) ⊕ (Int32 × am_St))))) (fun _ _ _ e h => by obtain ⟨r9, e9, rfl⟩ := am_map_some e; exact s_M_areTogether_95 G z0 z1 w0 _ _ _ e9 h))))))))))))))) (sn_iload_n (pc := 33) (i := 1) dX12_areTogether_33 rfl (sn_iload (pc := 34) dX12_areTogether_34 (sn_callS (pc := 36) (N := M_M_has) dX12_areTogether_36 (cal_M_has G) tw_1170 tw_1171 tw_12 tw_1172 dsc_X12_has rfl (sn_if_eq (pc := 39) (tgt := 77) dX12_areTogether_39 rfl (sn_lf (pc := 77) (ln_a (i := 0) (q := 66) (ln_i (i := 1) (fun z0 => (ln_i (i := 3) (fun z1 => (ln_i (i := 4) (fun z2 => (ln_end (o := fun τ => f_M_areTogether_77 z0 z1 z2 τ) (fun _ _ _ e h => s_M_areTogether_77 G z0 z1 z2 _ _ _ e h)))))))))) (sn_aload_n (pc := 42) (i := 0) dX12_areTogether_42 rfl (sn_gR (r0 := 79) (pc := 43) (h := 66) (f := 19) dX12_areTogether_43 am_CL_11 sh_66 rfl (Nat.le_of_ble_eq_true rfl) tw_960 (sn_iload (pc := 46) dX12_areTogether_46 (sn_aI (pc := 48) (h := 79) dX12_areTogether_48 sh_79 (sn_iload_n (pc := 49) (i := 3) dX12_areTogether_49 rfl (sn_icmp_ne (pc := 50) (tgt := 77) dX12_areTogether_50 rfl (sn_lf (pc := 77) (ln_a (i := 0) (q := 66) (ln_i (i := 1) (fun z0 => (ln_i (i := 3) (fun z1 => (ln_i (i := 4) (fun z2 => (ln_end (o := fun τ => f_M_areTogether_77 z0 z1 z2 τ) (fun _ _ _ e h => s_M_areTogether_77 G z0 z1 z2 _ _ _ e h)))))))))) (sn_aload_n (pc := 53) (i := 0) dX12_areTogether_53 rfl (sn_gR (r0 := 83) (pc := 54) (h := 66) (f := 24) dX12_areTogether_54 am_CL_11 sh_66 rfl (Nat.le_of_ble_eq_true rfl) tw_965 (sn_aload_n (pc := 57) (i := 0) dX12_areTogether_57 rfl (sn_gR (r0 := 80) (pc := 58) (h := 66) (f := 20) dX12_areTogether_58 am_CL_11 sh_66 rfl (Nat.le_of_ble_eq_true rfl) tw_961 (sn_iload (pc := 61) dX12_areTogether_61 (sn_aI (pc := 63) (h := 80) dX12_areTogether_63 sh_80 (sn_dup2 (pc := 64) dX12_areTogether_64 (sn_aI (pc := 65) (h := 83) dX12_areTogether_65 sh_83 (sn_iconst (pc := 66) (v := 1) dX12_areTogether_66 rfl (sn_aload_n (pc := 67) (i := 0) dX12_areTogether_67 rfl (sn_gR (r0 := 81) (pc := 68) (h := 66) (f := 21) dX12_areTogether_68 am_CL_11 sh_66 rfl (Nat.le_of_ble_eq_true rfl) tw_962 (sn_iload (pc := 71) dX12_areTogether_71 (sn_aI (pc := 73) (h := 81) dX12_areTogether_73 sh_81 (sn_ishl (pc := 74) dX12_areTogether_74 (sn_iand (pc := 75) dX12_areTogether_75 (sn_sI (pc := 76) (h := 83) dX12_areTogether_76 sh_83 (sn_lf (pc := 77) (ln_a (i := 0) (q := 66) (ln_i (i := 1) (fun z0 => (ln_i (i := 3) (fun z1 => (ln_i (i := 4) (fun z2 => (ln_end (o := fun τ => f_M_areTogether_77 z0 z1 z2 τ) (fun _ _ _ e h => s_M_areTogether_77 G z0 z1 z2 _ _ _ e h))))))))))))))))))))))))))))))))))))))))) _ _ _ _ _ e hr
theorem s_M_areTogether_24 (G : am_G) (x1 : Int32) (x3 : Int32) (x4 : Int32) (σ : am_St) (r : (Int32 × Int32 × Int32 × am_St) ⊕ (Int32 × am_St)) (Q : am_AQ) (e : f_M_areTogether_24 x1 x3 x4 σ = some r) (hr : (Pl_M_areTogether_4 G) r Q) : am_AW G M_M_areTogether 24 [(4, .int x4), (3, .int x3), (1, .int x1), (0, .ref 66)] [] σ Q :=
  am_loop (P := (Pl_M_areTogether_4 G)) (L := fun s : Int32 × Int32 × Int32 × am_St => [(4, .int s.2.2.1), (3, .int s.2.1), (1, .int s.1), (0, .ref 66)]) (g := fun s => s.2.2.2) (fun s o Q e hr => sb_M_areTogether_24 G s.1 s.2.1 s.2.2.1 s.2.2.2 o Q e hr) (x1, x3, x4, σ) r Q e hr
noncomputable def b_M_areTogether_4 (x1 : Int32) (x2 : Int32) (x3 : Int32) (σ : am_St) : Option ((Int32 × Int32 × Int32 × am_St) ⊕ (Int32 × am_St)) :=
  if (σ.1 66 2) ≤ x3 then
    if x2 &&& 1 = x2 then some (.inr ((x2, σ))) else none
  else
    if x2 = 0 then
      if x2 &&& 1 = x2 then some (.inr ((x2, σ))) else none
    else
      (f_M_layMay x3 σ).bind (fun p1 =>
        f_M_areTogether_24 x1 x3 0 p1)
noncomputable def f_M_areTogether_4 (x1 : Int32) (x2 : Int32) (x3 : Int32) (σ : am_St) : Option (Int32 × am_St) := am_lp (fun s : Int32 × Int32 × Int32 × am_St => b_M_areTogether_4 s.1 s.2.1 s.2.2.1 s.2.2.2) (x1, x2, x3, σ)
set_option maxRecDepth 100000 in
set_option maxHeartbeats 4000000 in
theorem sb_M_areTogether_4 (G : am_G) (x1 : Int32) (x2 : Int32) (x3 : Int32) (σ : am_St) (r : (Int32 × Int32 × Int32 × am_St) ⊕ (Int32 × am_St)) (Q : am_AQ) (e : b_M_areTogether_4 x1 x2 x3 σ = some r) (hr : Pl_M_areTogether_4 G r Q) : am_AW G M_M_areTogether 4 [(3, .int x3), (2, .int x2), (1, .int x1), (0, .ref 66)] [] σ Q :=
  (show am_Snd G M_M_areTogether 4 (Pl_M_areTogether_4 G) _ from (sn_iload_n (pc := 4) (i := 3) dX12_areTogether_4 rfl (sn_aload_n (pc := 5) (i := 0) dX12_areTogether_5 rfl (sn_gI (pc := 6) (h := 66) (f := 2) dX12_areTogether_6 am_CL_11 sh_66 rfl (Nat.le_of_ble_eq_true rfl) tw_943 (sn_icmp_ge (pc := 9) (tgt := 102) dX12_areTogether_9 rfl (sn_iload_n (pc := 102) (i := 2) dX12_areTogether_102 rfl (sn_retz (pc := 103) (R := fun x τ => (some (.inr ((x, τ))) : Option ((Int32 × Int32 × Int32 × am_St) ⊕ (Int32 × am_St)))) dX12_areTogether_103 rfl (fun _ _ _ _ e h => by cases e; exact h))) (sn_iload_n (pc := 12) (i := 2) dX12_areTogether_12 rfl (sn_if_eq (pc := 13) (tgt := 102) dX12_areTogether_13 rfl (sn_iload_n (pc := 102) (i := 2) dX12_areTogether_102 rfl (sn_retz (pc := 103) (R := fun x τ => (some (.inr ((x, τ))) : Option ((Int32 × Int32 × Int32 × am_St) ⊕ (Int32 × am_St)))) dX12_areTogether_103 rfl (fun _ _ _ _ e h => by cases e; exact h))) (sn_aload_n (pc := 16) (i := 0) dX12_areTogether_16 rfl (sn_iload_n (pc := 17) (i := 3) dX12_areTogether_17 rfl (sn_callV (pc := 18) (N := M_M_layMay) dX12_areTogether_18 (cal_M_layMay G) sh_66 rfl tw_1162 tw_1164 tp_38 tw_12 tw_1165 dsc_X12_layMay rfl (sn_iconst (pc := 21) (v := 0) dX12_areTogether_21 rfl (sn_istore (pc := 22) dX12_areTogether_22 (Nat.le_of_ble_eq_true rfl) (sn_lf (pc := 24) (ln_a (i := 0) (q := 66) (ln_i (i := 1) (fun z0 => (ln_i (i := 3) (fun z1 => (ln_i (i := 4) (fun z2 => (ln_end (o := fun τ => f_M_areTogether_24 z0 z1 z2 τ) (fun _ _ _ e h => s_M_areTogether_24 G z0 z1 z2 _ _ _ e h)))))))))))))))))))))) _ _ _ _ _ e hr
theorem s_M_areTogether_4 (G : am_G) (x1 : Int32) (x2 : Int32) (x3 : Int32) (σ : am_St) (r : Int32 × am_St) (Q : am_AQ) (e : f_M_areTogether_4 x1 x2 x3 σ = some r) (hr : am_Pi r Q) : am_AW G M_M_areTogether 4 [(3, .int x3), (2, .int x2), (1, .int x1), (0, .ref 66)] [] σ Q :=
  am_loop (P := am_Pi) (L := fun s : Int32 × Int32 × Int32 × am_St => [(3, .int s.2.2.1), (2, .int s.2.1), (1, .int s.1), (0, .ref 66)]) (g := fun s => s.2.2.2) (fun s o Q e hr => sb_M_areTogether_4 G s.1 s.2.1 s.2.2.1 s.2.2.2 o Q e hr) (x1, x2, x3, σ) r Q e hr
noncomputable def g_M_areTogether (x1 : Int32) (σ : am_St) : Option (Int32 × am_St) :=
  f_M_areTogether_4 x1 1 0 σ
noncomputable def f_M_areTogether (x1 : Int32) (σ : am_St) : Option (Int32 × am_St) := am_lk (g_M_areTogether x1 σ)
theorem eq_M_areTogether (x1 : Int32) (σ : am_St) : f_M_areTogether x1 σ = g_M_areTogether x1 σ := am_lk_eq _
set_option maxRecDepth 100000 in
set_option maxHeartbeats 4000000 in
theorem s_M_areTogether (G : am_G) (x1 : Int32) (σ : am_St) (r : Int32 × am_St) (Q : am_AQ) (e : f_M_areTogether x1 σ = some r) (hr : am_Pi r Q) : am_AW G M_M_areTogether 0 [(0, .ref 66), (1, .int x1)] [] σ Q :=
  (show am_Snd G M_M_areTogether 0 am_Pi _ from (sn_iconst (pc := 0) (v := 1) dX12_areTogether_0 rfl (sn_istore_n (pc := 1) (i := 2) dX12_areTogether_1 rfl (Nat.le_of_ble_eq_true rfl) (sn_iconst (pc := 2) (v := 0) dX12_areTogether_2 rfl (sn_istore_n (pc := 3) (i := 3) dX12_areTogether_3 rfl (Nat.le_of_ble_eq_true rfl) (sn_lf (pc := 4) (ln_a (i := 0) (q := 66) (ln_i (i := 1) (fun z0 => (ln_i (i := 2) (fun z1 => (ln_i (i := 3) (fun z2 => (ln_end (o := fun τ => f_M_areTogether_4 z0 z1 z2 τ) (fun _ _ _ e h => s_M_areTogether_4 G z0 z1 z2 _ _ _ e h))))))))))))))) _ _ _ _ _ ((eq_M_areTogether x1 σ).symm.trans e) hr
noncomputable def cF_M_areTogether : am_Fn := fun _ args σ K => match args with
  | [.ref q0, .int z1] => match Nat.beq q0 66 with
    | true => (f_M_areTogether z1 σ).bind (fun p => K (some (.int p.1)) p.2)
    | _ => none
  | _ => none
theorem cal_M_areTogether (G : am_G) : am_Cal G M_M_areTogether cF_M_areTogether := by
  intro ρ args σ K r e
  unfold cF_M_areTogether at e
  split at e
  · split at e
    · rename_i hq0
      obtain ⟨p, h1, h2⟩ := am_bind_some e
      rw [Nat.eq_of_beq_eq_true hq0]
      exact ⟨some (.int p.1), p.2, am_Met.of rfl (Nat.le_of_ble_eq_true rfl) (s_M_areTogether G _ σ p _ h1 ⟨rfl, rfl⟩), h2⟩
    · cases e
  · cases e
abbrev M_M_together : am_MD := (yX12_together, cX12_together, 2, (some .int), 3, 69)
theorem dX12_together_0 : decode cX12_together 0 = .ok (.aload_n 0, 1) := by decide +kernel
theorem dX12_together_1 : decode cX12_together 1 = .ok (.iconst 0, 1) := by decide +kernel
theorem dX12_together_2 : decode cX12_together 2 = .ok (.putfield 102, 3) := by decide +kernel
theorem dX12_together_5 : decode cX12_together 5 = .ok (.iload_n 1, 1) := by decide +kernel
theorem dX12_together_6 : decode cX12_together 6 = .ok (.i2l, 1) := by decide +kernel
theorem dX12_together_7 : decode cX12_together 7 = .ok (.lconst 0, 1) := by decide +kernel
theorem dX12_together_8 : decode cX12_together 8 = .ok (.iconst 1, 1) := by decide +kernel
theorem dX12_together_9 : decode cX12_together 9 = .ok (.aload_n 0, 1) := by decide +kernel
theorem dX12_together_10 : decode cX12_together 10 = .ok (.getfield 239, 3) := by decide +kernel
theorem dX12_together_13 : decode cX12_together 13 = .ok (.ishl, 1) := by decide +kernel
theorem dX12_together_14 : decode cX12_together 14 = .ok (.iconst 1, 1) := by decide +kernel
theorem dX12_together_15 : decode cX12_together 15 = .ok (.isub, 1) := by decide +kernel
theorem dX12_together_16 : decode cX12_together 16 = .ok (.i2l, 1) := by decide +kernel
theorem dX12_together_17 : decode cX12_together 17 = .ok (.invokestatic 108, 3) := by decide +kernel
theorem dX12_together_20 : decode cX12_together 20 = .ok (.ifCond .ne 9, 3) := by decide +kernel
theorem dX12_together_23 : decode cX12_together 23 = .ok (.aload_n 0, 1) := by decide +kernel
theorem dX12_together_24 : decode cX12_together 24 = .ok (.iconst (-1), 1) := by decide +kernel
theorem dX12_together_25 : decode cX12_together 25 = .ok (.invokevirtual 154, 3) := by decide +kernel
theorem dX12_together_28 : decode cX12_together 28 = .ok (.ireturn, 1) := by decide +kernel
theorem dX12_together_29 : decode cX12_together 29 = .ok (.aload_n 0, 1) := by decide +kernel
theorem dX12_together_30 : decode cX12_together 30 = .ok (.iload_n 1, 1) := by decide +kernel
theorem dX12_together_31 : decode cX12_together 31 = .ok (.invokevirtual 294, 3) := by decide +kernel
theorem dX12_together_34 : decode cX12_together 34 = .ok (.ifCond .eq 7, 3) := by decide +kernel
theorem dX12_together_37 : decode cX12_together 37 = .ok (.iconst 1, 1) := by decide +kernel
theorem dX12_together_38 : decode cX12_together 38 = .ok (.goto 4, 3) := by decide +kernel
theorem dX12_together_41 : decode cX12_together 41 = .ok (.iconst 0, 1) := by decide +kernel
theorem dX12_together_42 : decode cX12_together 42 = .ok (.ireturn, 1) := by decide +kernel
noncomputable def g_M_together (x1 : Int32) (σ : am_St) : Option (Int32 × am_St) :=
  let s1 := am_sI σ 66 22 0
  (f_M_in x1.toInt64 0 (((1 <<< ((s1.1 66 4) &&& 31)) - 1).toInt64) s1).bind (fun p2 =>
    if p2.1 = 0 then
      (f_M_refuse (-1) p2.2).bind (fun p4 =>
        some ((p4.1, p4.2)))
    else
      (f_M_areTogether x1 p2.2).bind (fun p3 =>
        if p3.1 = 0 then
          some ((0, p3.2))
        else
          some ((1, p3.2))))
noncomputable def f_M_together (x1 : Int32) (σ : am_St) : Option (Int32 × am_St) := am_lk (g_M_together x1 σ)
theorem eq_M_together (x1 : Int32) (σ : am_St) : f_M_together x1 σ = g_M_together x1 σ := am_lk_eq _
set_option maxRecDepth 100000 in
set_option maxHeartbeats 4000000 in
theorem s_M_together (G : am_G) (x1 : Int32) (σ : am_St) (r : Int32 × am_St) (Q : am_AQ) (e : f_M_together x1 σ = some r) (hr : am_Pi r Q) : am_AW G M_M_together 0 [(0, .ref 66), (1, .int x1)] [] σ Q :=
  (show am_Snd G M_M_together 0 am_Pi _ from (sn_aload_n (pc := 0) (i := 0) dX12_together_0 rfl (sn_iconst (pc := 1) (v := 0) dX12_together_1 rfl (sn_pI (pc := 2) (h := 66) (f := 22) dX12_together_2 am_CL_11 sh_66 rfl (Nat.le_of_ble_eq_true rfl) tw_963 rfl rfl (sn_iload_n (pc := 5) (i := 1) dX12_together_5 rfl (sn_i2l (pc := 6) dX12_together_6 (sn_lconst (pc := 7) (v := 0) dX12_together_7 rfl (sn_iconst (pc := 8) (v := 1) dX12_together_8 rfl (sn_aload_n (pc := 9) (i := 0) dX12_together_9 rfl (sn_gI (pc := 10) (h := 66) (f := 4) dX12_together_10 am_CL_11 sh_66 rfl (Nat.le_of_ble_eq_true rfl) tw_945 (sn_ishl (pc := 13) dX12_together_13 (sn_iconst (pc := 14) (v := 1) dX12_together_14 rfl (sn_isub (pc := 15) dX12_together_15 (sn_i2l (pc := 16) dX12_together_16 (sn_callS (pc := 17) (N := M_M_in) dX12_together_17 (cal_M_in G) tw_1116 tw_1117 tw_12 tw_1118 dsc_X12_in rfl (sn_if_ne (pc := 20) (tgt := 29) dX12_together_20 rfl (sn_aload_n (pc := 29) (i := 0) dX12_together_29 rfl (sn_iload_n (pc := 30) (i := 1) dX12_together_30 rfl (sn_callV (pc := 31) (N := M_M_areTogether) dX12_together_31 (cal_M_areTogether G) sh_66 rfl tw_1312 tw_1314 tp_54 tw_12 tw_1315 dsc_X12_areTogether rfl (sn_if_eq (pc := 34) (tgt := 41) dX12_together_34 rfl (sn_iconst (pc := 41) (v := 0) dX12_together_41 rfl (sn_reti (pc := 42) (R := fun x τ => (some ((x, τ)))) dX12_together_42 rfl (fun _ _ _ _ e h => by cases e; exact h))) (sn_iconst (pc := 37) (v := 1) dX12_together_37 rfl (sn_goto (pc := 38) (tgt := 42) dX12_together_38 rfl (sn_reti (pc := 42) (R := fun x τ => (some ((x, τ)))) dX12_together_42 rfl (fun _ _ _ _ e h => by cases e; exact h)))))))) (sn_aload_n (pc := 23) (i := 0) dX12_together_23 rfl (sn_iconst (pc := 24) (v := (-1)) dX12_together_24 (show Int32.ofInt (-1) = (-1) by decide) (sn_callV (pc := 25) (N := M_M_refuse) dX12_together_25 (cal_M_refuse G) sh_66 rfl tw_1090 tw_1092 tp_23 tw_12 tw_1093 dsc_X12_refuse rfl (sn_reti (pc := 28) (R := fun x τ => (some ((x, τ)))) dX12_together_28 rfl (fun _ _ _ _ e h => by cases e; exact h))))))))))))))))))))) _ _ _ _ _ ((eq_M_together x1 σ).symm.trans e) hr
noncomputable def cF_M_together : am_Fn := fun _ args σ K => match args with
  | [.ref q0, .int z1] => match Nat.beq q0 66 with
    | true => (f_M_together z1 σ).bind (fun p => K (some (.int p.1)) p.2)
    | _ => none
  | _ => none
theorem cal_M_together (G : am_G) : am_Cal G M_M_together cF_M_together := by
  intro ρ args σ K r e
  unfold cF_M_together at e
  split at e
  · split at e
    · rename_i hq0
      obtain ⟨p, h1, h2⟩ := am_bind_some e
      rw [Nat.eq_of_beq_eq_true hq0]
      exact ⟨some (.int p.1), p.2, am_Met.of rfl (Nat.le_of_ble_eq_true rfl) (s_M_together G _ σ p _ h1 ⟨rfl, rfl⟩), h2⟩
    · cases e
  · cases e
abbrev M_M_ones : am_MD := (yX12_ones, cX12_ones, 3, (some .int), 0, 0)
theorem dX12_ones_0 : decode cX12_ones 0 = .ok (.iconst 0, 1) := by decide +kernel
theorem dX12_ones_1 : decode cX12_ones 1 = .ok (.istore_n 1, 1) := by decide +kernel
theorem dX12_ones_2 : decode cX12_ones 2 = .ok (.iload_n 0, 1) := by decide +kernel
theorem dX12_ones_3 : decode cX12_ones 3 = .ok (.istore_n 2, 1) := by decide +kernel
theorem dX12_ones_4 : decode cX12_ones 4 = .ok (.iload_n 2, 1) := by decide +kernel
theorem dX12_ones_5 : decode cX12_ones 5 = .ok (.ifCond .eq 15, 3) := by decide +kernel
theorem dX12_ones_8 : decode cX12_ones 8 = .ok (.iinc 1 1, 3) := by decide +kernel
theorem dX12_ones_11 : decode cX12_ones 11 = .ok (.iload_n 2, 1) := by decide +kernel
theorem dX12_ones_12 : decode cX12_ones 12 = .ok (.iload_n 2, 1) := by decide +kernel
theorem dX12_ones_13 : decode cX12_ones 13 = .ok (.iconst 1, 1) := by decide +kernel
theorem dX12_ones_14 : decode cX12_ones 14 = .ok (.isub, 1) := by decide +kernel
theorem dX12_ones_15 : decode cX12_ones 15 = .ok (.iand, 1) := by decide +kernel
theorem dX12_ones_16 : decode cX12_ones 16 = .ok (.istore_n 2, 1) := by decide +kernel
theorem dX12_ones_17 : decode cX12_ones 17 = .ok (.goto (-13), 3) := by decide +kernel
theorem dX12_ones_20 : decode cX12_ones 20 = .ok (.iload_n 1, 1) := by decide +kernel
theorem dX12_ones_21 : decode cX12_ones 21 = .ok (.ireturn, 1) := by decide +kernel
abbrev Pl_M_ones_4 (G : am_G) : ((Int32 × Int32 × am_St) ⊕ (Int32 × am_St)) → am_AQ → Prop := am_PL G M_M_ones 4 (fun s : Int32 × Int32 × am_St => [(2, .int s.2.1), (1, .int s.1)]) (fun s => s.2.2) am_Pi
noncomputable def b_M_ones_4 (x1 : Int32) (x2 : Int32) (σ : am_St) : Option ((Int32 × Int32 × am_St) ⊕ (Int32 × am_St)) :=
  if x2 = 0 then
    some (.inr ((x1, σ)))
  else
    let v1 := x1 + 1
    let v2 := x2 &&& (x2 - 1)
    some (.inl (v1, v2, σ))
noncomputable def f_M_ones_4 (x1 : Int32) (x2 : Int32) (σ : am_St) : Option (Int32 × am_St) := am_lp (fun s : Int32 × Int32 × am_St => b_M_ones_4 s.1 s.2.1 s.2.2) (x1, x2, σ)
set_option maxRecDepth 100000 in
set_option maxHeartbeats 4000000 in
theorem sb_M_ones_4 (G : am_G) (x1 : Int32) (x2 : Int32) (σ : am_St) (r : (Int32 × Int32 × am_St) ⊕ (Int32 × am_St)) (Q : am_AQ) (e : b_M_ones_4 x1 x2 σ = some r) (hr : Pl_M_ones_4 G r Q) : am_AW G M_M_ones 4 [(2, .int x2), (1, .int x1)] [] σ Q :=
  (show am_Snd G M_M_ones 4 (Pl_M_ones_4 G) _ from (sn_iload_n (pc := 4) (i := 2) dX12_ones_4 rfl (sn_if_eq (pc := 5) (tgt := 20) dX12_ones_5 rfl (sn_iload_n (pc := 20) (i := 1) dX12_ones_20 rfl (sn_reti (pc := 21) (R := fun x τ => (some (.inr ((x, τ))) : Option ((Int32 × Int32 × am_St) ⊕ (Int32 × am_St)))) dX12_ones_21 rfl (fun _ _ _ _ e h => by cases e; exact h))) (sn_iinc (pc := 8) (v := 1) dX12_ones_8 rfl (Nat.le_of_ble_eq_true rfl) (sn_iload_n (pc := 11) (i := 2) dX12_ones_11 rfl (sn_iload_n (pc := 12) (i := 2) dX12_ones_12 rfl (sn_iconst (pc := 13) (v := 1) dX12_ones_13 rfl (sn_isub (pc := 14) dX12_ones_14 (sn_iand (pc := 15) dX12_ones_15 (sn_istore_n (pc := 16) (i := 2) dX12_ones_16 rfl (Nat.le_of_ble_eq_true rfl) (sn_goto (pc := 17) (tgt := 4) dX12_ones_17 rfl (sn_lf (pc := 4) (ln_i (i := 1) (fun z0 => (ln_i (i := 2) (fun z1 => (ln_end (o := fun τ => (some (.inl (z0, z1, τ)) : Option ((Int32 × Int32 × am_St) ⊕ (Int32 × am_St)))) (fun _ _ _ e h => by cases e; exact h)))))))))))))))))) _ _ _ _ _ e hr
theorem s_M_ones_4 (G : am_G) (x1 : Int32) (x2 : Int32) (σ : am_St) (r : Int32 × am_St) (Q : am_AQ) (e : f_M_ones_4 x1 x2 σ = some r) (hr : am_Pi r Q) : am_AW G M_M_ones 4 [(2, .int x2), (1, .int x1)] [] σ Q :=
  am_loop (P := am_Pi) (L := fun s : Int32 × Int32 × am_St => [(2, .int s.2.1), (1, .int s.1)]) (g := fun s => s.2.2) (fun s o Q e hr => sb_M_ones_4 G s.1 s.2.1 s.2.2 o Q e hr) (x1, x2, σ) r Q e hr
noncomputable def g_M_ones (x0 : Int32) (σ : am_St) : Option (Int32 × am_St) :=
  f_M_ones_4 0 x0 σ
noncomputable def f_M_ones (x0 : Int32) (σ : am_St) : Option (Int32 × am_St) := am_lk (g_M_ones x0 σ)
theorem eq_M_ones (x0 : Int32) (σ : am_St) : f_M_ones x0 σ = g_M_ones x0 σ := am_lk_eq _
set_option maxRecDepth 100000 in
set_option maxHeartbeats 4000000 in
theorem s_M_ones (G : am_G) (x0 : Int32) (σ : am_St) (r : Int32 × am_St) (Q : am_AQ) (e : f_M_ones x0 σ = some r) (hr : am_Pi r Q) : am_AW G M_M_ones 0 [(0, .int x0)] [] σ Q :=
  (show am_Snd G M_M_ones 0 am_Pi _ from (sn_iconst (pc := 0) (v := 0) dX12_ones_0 rfl (sn_istore_n (pc := 1) (i := 1) dX12_ones_1 rfl (Nat.le_of_ble_eq_true rfl) (sn_iload_n (pc := 2) (i := 0) dX12_ones_2 rfl (sn_istore_n (pc := 3) (i := 2) dX12_ones_3 rfl (Nat.le_of_ble_eq_true rfl) (sn_lf (pc := 4) (ln_i (i := 1) (fun z0 => (ln_i (i := 2) (fun z1 => (ln_end (o := fun τ => f_M_ones_4 z0 z1 τ) (fun _ _ _ e h => s_M_ones_4 G z0 z1 _ _ _ e h)))))))))))) _ _ _ _ _ ((eq_M_ones x0 σ).symm.trans e) hr
noncomputable def cF_M_ones : am_Fn := fun _ args σ K => match args with
  | [.int z0] => (f_M_ones z0 σ).bind (fun p => K (some (.int p.1)) p.2)
  | _ => none
theorem cal_M_ones (G : am_G) : am_Cal G M_M_ones cF_M_ones := by
  intro ρ args σ K r e
  unfold cF_M_ones at e
  split at e
  · obtain ⟨p, h1, h2⟩ := am_bind_some e
    exact ⟨some (.int p.1), p.2, am_Met.of rfl (Nat.le_of_ble_eq_true rfl) (s_M_ones G _ σ p _ h1 ⟨rfl, rfl⟩), h2⟩
  · cases e
abbrev M_M_greatestMany : am_MD := (yX12_greatestMany, cX12_greatestMany, 3, (some .int), 3, 69)
theorem dX12_greatestMany_0 : decode cX12_greatestMany 0 = .ok (.iconst 0, 1) := by decide +kernel
theorem dX12_greatestMany_1 : decode cX12_greatestMany 1 = .ok (.istore_n 1, 1) := by decide +kernel
theorem dX12_greatestMany_2 : decode cX12_greatestMany 2 = .ok (.iconst 0, 1) := by decide +kernel
theorem dX12_greatestMany_3 : decode cX12_greatestMany 3 = .ok (.istore_n 2, 1) := by decide +kernel
theorem dX12_greatestMany_4 : decode cX12_greatestMany 4 = .ok (.iload_n 2, 1) := by decide +kernel
theorem dX12_greatestMany_5 : decode cX12_greatestMany 5 = .ok (.iconst 1, 1) := by decide +kernel
theorem dX12_greatestMany_6 : decode cX12_greatestMany 6 = .ok (.aload_n 0, 1) := by decide +kernel
theorem dX12_greatestMany_7 : decode cX12_greatestMany 7 = .ok (.getfield 239, 3) := by decide +kernel
theorem dX12_greatestMany_10 : decode cX12_greatestMany 10 = .ok (.ishl, 1) := by decide +kernel
theorem dX12_greatestMany_11 : decode cX12_greatestMany 11 = .ok (.if_icmp .ge 34, 3) := by decide +kernel
theorem dX12_greatestMany_14 : decode cX12_greatestMany 14 = .ok (.iload_n 2, 1) := by decide +kernel
theorem dX12_greatestMany_15 : decode cX12_greatestMany 15 = .ok (.invokestatic 297, 3) := by decide +kernel
theorem dX12_greatestMany_18 : decode cX12_greatestMany 18 = .ok (.iload_n 1, 1) := by decide +kernel
theorem dX12_greatestMany_19 : decode cX12_greatestMany 19 = .ok (.if_icmp .le 18, 3) := by decide +kernel
theorem dX12_greatestMany_22 : decode cX12_greatestMany 22 = .ok (.aload_n 0, 1) := by decide +kernel
theorem dX12_greatestMany_23 : decode cX12_greatestMany 23 = .ok (.iload_n 2, 1) := by decide +kernel
theorem dX12_greatestMany_24 : decode cX12_greatestMany 24 = .ok (.invokevirtual 294, 3) := by decide +kernel
theorem dX12_greatestMany_27 : decode cX12_greatestMany 27 = .ok (.ifCond .eq 10, 3) := by decide +kernel
theorem dX12_greatestMany_30 : decode cX12_greatestMany 30 = .ok (.iload_n 2, 1) := by decide +kernel
theorem dX12_greatestMany_31 : decode cX12_greatestMany 31 = .ok (.invokestatic 297, 3) := by decide +kernel
theorem dX12_greatestMany_34 : decode cX12_greatestMany 34 = .ok (.goto 4, 3) := by decide +kernel
theorem dX12_greatestMany_37 : decode cX12_greatestMany 37 = .ok (.iload_n 1, 1) := by decide +kernel
theorem dX12_greatestMany_38 : decode cX12_greatestMany 38 = .ok (.istore_n 1, 1) := by decide +kernel
theorem dX12_greatestMany_39 : decode cX12_greatestMany 39 = .ok (.iinc 2 1, 3) := by decide +kernel
theorem dX12_greatestMany_42 : decode cX12_greatestMany 42 = .ok (.goto (-38), 3) := by decide +kernel
theorem dX12_greatestMany_45 : decode cX12_greatestMany 45 = .ok (.iload_n 1, 1) := by decide +kernel
theorem dX12_greatestMany_46 : decode cX12_greatestMany 46 = .ok (.ireturn, 1) := by decide +kernel
abbrev Pl_M_greatestMany_4 (G : am_G) : ((Int32 × Int32 × am_St) ⊕ (Int32 × am_St)) → am_AQ → Prop := am_PL G M_M_greatestMany 4 (fun s : Int32 × Int32 × am_St => [(2, .int s.2.1), (1, .int s.1), (0, .ref 66)]) (fun s => s.2.2) am_Pi
noncomputable def g_M_greatestMany_38 (x2 : Int32) (y0 : Int32) (σ : am_St) : Option ((Int32 × Int32 × am_St) ⊕ (Int32 × am_St)) :=
  let v1 := x2 + 1
  some (.inl (y0, v1, σ))
noncomputable def f_M_greatestMany_38 (x2 : Int32) (y0 : Int32) (σ : am_St) : Option ((Int32 × Int32 × am_St) ⊕ (Int32 × am_St)) := am_lk (g_M_greatestMany_38 x2 y0 σ)
theorem eq_M_greatestMany_38 (x2 : Int32) (y0 : Int32) (σ : am_St) : f_M_greatestMany_38 x2 y0 σ = g_M_greatestMany_38 x2 y0 σ := am_lk_eq _
set_option maxRecDepth 100000 in
set_option maxHeartbeats 4000000 in
theorem s_M_greatestMany_38 (G : am_G) (x2 : Int32) (y0 : Int32) (σ : am_St) (r : (Int32 × Int32 × am_St) ⊕ (Int32 × am_St)) (Q : am_AQ) (e : f_M_greatestMany_38 x2 y0 σ = some r) (hr : (Pl_M_greatestMany_4 G) r Q) : am_AW G M_M_greatestMany 38 [(2, .int x2), (0, .ref 66)] [.int y0] σ Q :=
  (show am_Snd G M_M_greatestMany 38 (Pl_M_greatestMany_4 G) _ from (sn_istore_n (pc := 38) (i := 1) dX12_greatestMany_38 rfl (Nat.le_of_ble_eq_true rfl) (sn_iinc (pc := 39) (v := 1) dX12_greatestMany_39 rfl (Nat.le_of_ble_eq_true rfl) (sn_goto (pc := 42) (tgt := 4) dX12_greatestMany_42 rfl (sn_lf (pc := 4) (ln_a (i := 0) (q := 66) (ln_i (i := 1) (fun z0 => (ln_i (i := 2) (fun z1 => (ln_end (o := fun τ => (some (.inl (z0, z1, τ)) : Option ((Int32 × Int32 × am_St) ⊕ (Int32 × am_St)))) (fun _ _ _ e h => by cases e; exact h)))))))))))) _ _ _ _ _ ((eq_M_greatestMany_38 x2 y0 σ).symm.trans e) hr
noncomputable def g_M_greatestMany_30 (x2 : Int32) (σ : am_St) : Option ((Int32 × Int32 × am_St) ⊕ (Int32 × am_St)) :=
  (f_M_ones x2 σ).bind (fun p1 =>
    f_M_greatestMany_38 x2 p1.1 p1.2)
noncomputable def f_M_greatestMany_30 (x2 : Int32) (σ : am_St) : Option ((Int32 × Int32 × am_St) ⊕ (Int32 × am_St)) := am_lk (g_M_greatestMany_30 x2 σ)
theorem eq_M_greatestMany_30 (x2 : Int32) (σ : am_St) : f_M_greatestMany_30 x2 σ = g_M_greatestMany_30 x2 σ := am_lk_eq _
set_option maxRecDepth 100000 in
set_option maxHeartbeats 4000000 in
theorem s_M_greatestMany_30 (G : am_G) (x2 : Int32) (σ : am_St) (r : (Int32 × Int32 × am_St) ⊕ (Int32 × am_St)) (Q : am_AQ) (e : f_M_greatestMany_30 x2 σ = some r) (hr : (Pl_M_greatestMany_4 G) r Q) : am_AW G M_M_greatestMany 30 [(2, .int x2), (0, .ref 66)] [] σ Q :=
  (show am_Snd G M_M_greatestMany 30 (Pl_M_greatestMany_4 G) _ from (sn_iload_n (pc := 30) (i := 2) dX12_greatestMany_30 rfl (sn_callS (pc := 31) (N := M_M_ones) dX12_greatestMany_31 (cal_M_ones G) tw_1325 tw_1326 tw_12 tw_1327 dsc_X12_ones rfl (sn_goto (pc := 34) (tgt := 38) dX12_greatestMany_34 rfl (sn_lf (pc := 38) (ln_a (i := 0) (q := 66) (ln_i (i := 2) (fun z0 => (ln_si (fun w0 => (ln_end (o := fun τ => f_M_greatestMany_38 z0 w0 τ) (fun _ _ _ e h => s_M_greatestMany_38 G z0 w0 _ _ _ e h)))))))))))) _ _ _ _ _ ((eq_M_greatestMany_30 x2 σ).symm.trans e) hr
noncomputable def g_M_greatestMany_37 (x1 : Int32) (x2 : Int32) (σ : am_St) : Option ((Int32 × Int32 × am_St) ⊕ (Int32 × am_St)) :=
  f_M_greatestMany_38 x2 x1 σ
noncomputable def f_M_greatestMany_37 (x1 : Int32) (x2 : Int32) (σ : am_St) : Option ((Int32 × Int32 × am_St) ⊕ (Int32 × am_St)) := am_lk (g_M_greatestMany_37 x1 x2 σ)
theorem eq_M_greatestMany_37 (x1 : Int32) (x2 : Int32) (σ : am_St) : f_M_greatestMany_37 x1 x2 σ = g_M_greatestMany_37 x1 x2 σ := am_lk_eq _
set_option maxRecDepth 100000 in
set_option maxHeartbeats 4000000 in
theorem s_M_greatestMany_37 (G : am_G) (x1 : Int32) (x2 : Int32) (σ : am_St) (r : (Int32 × Int32 × am_St) ⊕ (Int32 × am_St)) (Q : am_AQ) (e : f_M_greatestMany_37 x1 x2 σ = some r) (hr : (Pl_M_greatestMany_4 G) r Q) : am_AW G M_M_greatestMany 37 [(2, .int x2), (1, .int x1), (0, .ref 66)] [] σ Q :=
  (show am_Snd G M_M_greatestMany 37 (Pl_M_greatestMany_4 G) _ from (sn_iload_n (pc := 37) (i := 1) dX12_greatestMany_37 rfl (sn_lf (pc := 38) (ln_a (i := 0) (q := 66) (ln_i (i := 2) (fun z0 => (ln_si (fun w0 => (ln_end (o := fun τ => f_M_greatestMany_38 z0 w0 τ) (fun _ _ _ e h => s_M_greatestMany_38 G z0 w0 _ _ _ e h)))))))))) _ _ _ _ _ ((eq_M_greatestMany_37 x1 x2 σ).symm.trans e) hr
noncomputable def b_M_greatestMany_4 (x1 : Int32) (x2 : Int32) (σ : am_St) : Option ((Int32 × Int32 × am_St) ⊕ (Int32 × am_St)) :=
  if (1 <<< ((σ.1 66 4) &&& 31)) ≤ x2 then
    some (.inr ((x1, σ)))
  else
    (f_M_ones x2 σ).bind (fun p1 =>
      if p1.1 ≤ x1 then
        f_M_greatestMany_37 x1 x2 p1.2
      else
        (f_M_areTogether x2 p1.2).bind (fun p2 =>
          if p2.1 = 0 then
            f_M_greatestMany_37 x1 x2 p2.2
          else
            f_M_greatestMany_30 x2 p2.2))
noncomputable def f_M_greatestMany_4 (x1 : Int32) (x2 : Int32) (σ : am_St) : Option (Int32 × am_St) := am_lp (fun s : Int32 × Int32 × am_St => b_M_greatestMany_4 s.1 s.2.1 s.2.2) (x1, x2, σ)
set_option maxRecDepth 100000 in
set_option maxHeartbeats 4000000 in
theorem sb_M_greatestMany_4 (G : am_G) (x1 : Int32) (x2 : Int32) (σ : am_St) (r : (Int32 × Int32 × am_St) ⊕ (Int32 × am_St)) (Q : am_AQ) (e : b_M_greatestMany_4 x1 x2 σ = some r) (hr : Pl_M_greatestMany_4 G r Q) : am_AW G M_M_greatestMany 4 [(2, .int x2), (1, .int x1), (0, .ref 66)] [] σ Q :=
  (show am_Snd G M_M_greatestMany 4 (Pl_M_greatestMany_4 G) _ from (sn_iload_n (pc := 4) (i := 2) dX12_greatestMany_4 rfl (sn_iconst (pc := 5) (v := 1) dX12_greatestMany_5 rfl (sn_aload_n (pc := 6) (i := 0) dX12_greatestMany_6 rfl (sn_gI (pc := 7) (h := 66) (f := 4) dX12_greatestMany_7 am_CL_11 sh_66 rfl (Nat.le_of_ble_eq_true rfl) tw_945 (sn_ishl (pc := 10) dX12_greatestMany_10 (sn_icmp_ge (pc := 11) (tgt := 45) dX12_greatestMany_11 rfl (sn_iload_n (pc := 45) (i := 1) dX12_greatestMany_45 rfl (sn_reti (pc := 46) (R := fun x τ => (some (.inr ((x, τ))) : Option ((Int32 × Int32 × am_St) ⊕ (Int32 × am_St)))) dX12_greatestMany_46 rfl (fun _ _ _ _ e h => by cases e; exact h))) (sn_iload_n (pc := 14) (i := 2) dX12_greatestMany_14 rfl (sn_callS (pc := 15) (N := M_M_ones) dX12_greatestMany_15 (cal_M_ones G) tw_1325 tw_1326 tw_12 tw_1327 dsc_X12_ones rfl (sn_iload_n (pc := 18) (i := 1) dX12_greatestMany_18 rfl (sn_icmp_le (pc := 19) (tgt := 37) dX12_greatestMany_19 rfl (sn_lf (pc := 37) (ln_a (i := 0) (q := 66) (ln_i (i := 1) (fun z0 => (ln_i (i := 2) (fun z1 => (ln_end (o := fun τ => f_M_greatestMany_37 z0 z1 τ) (fun _ _ _ e h => s_M_greatestMany_37 G z0 z1 _ _ _ e h)))))))) (sn_aload_n (pc := 22) (i := 0) dX12_greatestMany_22 rfl (sn_iload_n (pc := 23) (i := 2) dX12_greatestMany_23 rfl (sn_callV (pc := 24) (N := M_M_areTogether) dX12_greatestMany_24 (cal_M_areTogether G) sh_66 rfl tw_1312 tw_1314 tp_54 tw_12 tw_1315 dsc_X12_areTogether rfl (sn_if_eq (pc := 27) (tgt := 37) dX12_greatestMany_27 rfl (sn_lf (pc := 37) (ln_a (i := 0) (q := 66) (ln_i (i := 1) (fun z0 => (ln_i (i := 2) (fun z1 => (ln_end (o := fun τ => f_M_greatestMany_37 z0 z1 τ) (fun _ _ _ e h => s_M_greatestMany_37 G z0 z1 _ _ _ e h)))))))) (sn_lf (pc := 30) (ln_a (i := 0) (q := 66) (ln_i (i := 2) (fun z0 => (ln_end (o := fun τ => f_M_greatestMany_30 z0 τ) (fun _ _ _ e h => s_M_greatestMany_30 G z0 _ _ _ e h))))))))))))))))))))) _ _ _ _ _ e hr
theorem s_M_greatestMany_4 (G : am_G) (x1 : Int32) (x2 : Int32) (σ : am_St) (r : Int32 × am_St) (Q : am_AQ) (e : f_M_greatestMany_4 x1 x2 σ = some r) (hr : am_Pi r Q) : am_AW G M_M_greatestMany 4 [(2, .int x2), (1, .int x1), (0, .ref 66)] [] σ Q :=
  am_loop (P := am_Pi) (L := fun s : Int32 × Int32 × am_St => [(2, .int s.2.1), (1, .int s.1), (0, .ref 66)]) (g := fun s => s.2.2) (fun s o Q e hr => sb_M_greatestMany_4 G s.1 s.2.1 s.2.2 o Q e hr) (x1, x2, σ) r Q e hr
noncomputable def g_M_greatestMany (σ : am_St) : Option (Int32 × am_St) :=
  f_M_greatestMany_4 0 0 σ
noncomputable def f_M_greatestMany (σ : am_St) : Option (Int32 × am_St) := am_lk (g_M_greatestMany  σ)
theorem eq_M_greatestMany (σ : am_St) : f_M_greatestMany  σ = g_M_greatestMany  σ := am_lk_eq _
set_option maxRecDepth 100000 in
set_option maxHeartbeats 4000000 in
theorem s_M_greatestMany (G : am_G) (σ : am_St) (r : Int32 × am_St) (Q : am_AQ) (e : f_M_greatestMany  σ = some r) (hr : am_Pi r Q) : am_AW G M_M_greatestMany 0 [(0, .ref 66)] [] σ Q :=
  (show am_Snd G M_M_greatestMany 0 am_Pi _ from (sn_iconst (pc := 0) (v := 0) dX12_greatestMany_0 rfl (sn_istore_n (pc := 1) (i := 1) dX12_greatestMany_1 rfl (Nat.le_of_ble_eq_true rfl) (sn_iconst (pc := 2) (v := 0) dX12_greatestMany_2 rfl (sn_istore_n (pc := 3) (i := 2) dX12_greatestMany_3 rfl (Nat.le_of_ble_eq_true rfl) (sn_lf (pc := 4) (ln_a (i := 0) (q := 66) (ln_i (i := 1) (fun z0 => (ln_i (i := 2) (fun z1 => (ln_end (o := fun τ => f_M_greatestMany_4 z0 z1 τ) (fun _ _ _ e h => s_M_greatestMany_4 G z0 z1 _ _ _ e h))))))))))))) _ _ _ _ _ ((eq_M_greatestMany  σ).symm.trans e) hr
noncomputable def cF_M_greatestMany : am_Fn := fun _ args σ K => match args with
  | [.ref q0] => match Nat.beq q0 66 with
    | true => (f_M_greatestMany σ).bind (fun p => K (some (.int p.1)) p.2)
    | _ => none
  | _ => none
theorem cal_M_greatestMany (G : am_G) : am_Cal G M_M_greatestMany cF_M_greatestMany := by
  intro ρ args σ K r e
  unfold cF_M_greatestMany at e
  split at e
  · split at e
    · rename_i hq0
      obtain ⟨p, h1, h2⟩ := am_bind_some e
      rw [Nat.eq_of_beq_eq_true hq0]
      exact ⟨some (.int p.1), p.2, am_Met.of rfl (Nat.le_of_ble_eq_true rfl) (s_M_greatestMany G  σ p _ h1 ⟨rfl, rfl⟩), h2⟩
    · cases e
  · cases e
abbrev M_M_firstOfMany : am_MD := (yX12_firstOfMany, cX12_firstOfMany, 3, (some .int), 3, 69)
theorem dX12_firstOfMany_0 : decode cX12_firstOfMany 0 = .ok (.iconst 0, 1) := by decide +kernel
theorem dX12_firstOfMany_1 : decode cX12_firstOfMany 1 = .ok (.istore_n 2, 1) := by decide +kernel
theorem dX12_firstOfMany_2 : decode cX12_firstOfMany 2 = .ok (.iload_n 2, 1) := by decide +kernel
theorem dX12_firstOfMany_3 : decode cX12_firstOfMany 3 = .ok (.invokestatic 297, 3) := by decide +kernel
theorem dX12_firstOfMany_6 : decode cX12_firstOfMany 6 = .ok (.iload_n 1, 1) := by decide +kernel
theorem dX12_firstOfMany_7 : decode cX12_firstOfMany 7 = .ok (.if_icmp .ne 11, 3) := by decide +kernel
theorem dX12_firstOfMany_10 : decode cX12_firstOfMany 10 = .ok (.aload_n 0, 1) := by decide +kernel
theorem dX12_firstOfMany_11 : decode cX12_firstOfMany 11 = .ok (.iload_n 2, 1) := by decide +kernel
theorem dX12_firstOfMany_12 : decode cX12_firstOfMany 12 = .ok (.invokevirtual 294, 3) := by decide +kernel
theorem dX12_firstOfMany_15 : decode cX12_firstOfMany 15 = .ok (.ifCond .ne 9, 3) := by decide +kernel
theorem dX12_firstOfMany_18 : decode cX12_firstOfMany 18 = .ok (.iinc 2 1, 3) := by decide +kernel
theorem dX12_firstOfMany_21 : decode cX12_firstOfMany 21 = .ok (.goto (-19), 3) := by decide +kernel
theorem dX12_firstOfMany_24 : decode cX12_firstOfMany 24 = .ok (.iload_n 2, 1) := by decide +kernel
theorem dX12_firstOfMany_25 : decode cX12_firstOfMany 25 = .ok (.ireturn, 1) := by decide +kernel
abbrev Pl_M_firstOfMany_2 (G : am_G) : ((Int32 × Int32 × am_St) ⊕ (Int32 × am_St)) → am_AQ → Prop := am_PL G M_M_firstOfMany 2 (fun s : Int32 × Int32 × am_St => [(2, .int s.2.1), (1, .int s.1), (0, .ref 66)]) (fun s => s.2.2) am_Pi
noncomputable def g_M_firstOfMany_18 (x1 : Int32) (x2 : Int32) (σ : am_St) : Option ((Int32 × Int32 × am_St) ⊕ (Int32 × am_St)) :=
  let v1 := x2 + 1
  some (.inl (x1, v1, σ))
noncomputable def f_M_firstOfMany_18 (x1 : Int32) (x2 : Int32) (σ : am_St) : Option ((Int32 × Int32 × am_St) ⊕ (Int32 × am_St)) := am_lk (g_M_firstOfMany_18 x1 x2 σ)
theorem eq_M_firstOfMany_18 (x1 : Int32) (x2 : Int32) (σ : am_St) : f_M_firstOfMany_18 x1 x2 σ = g_M_firstOfMany_18 x1 x2 σ := am_lk_eq _
set_option maxRecDepth 100000 in
set_option maxHeartbeats 4000000 in
theorem s_M_firstOfMany_18 (G : am_G) (x1 : Int32) (x2 : Int32) (σ : am_St) (r : (Int32 × Int32 × am_St) ⊕ (Int32 × am_St)) (Q : am_AQ) (e : f_M_firstOfMany_18 x1 x2 σ = some r) (hr : (Pl_M_firstOfMany_2 G) r Q) : am_AW G M_M_firstOfMany 18 [(2, .int x2), (1, .int x1), (0, .ref 66)] [] σ Q :=
  (show am_Snd G M_M_firstOfMany 18 (Pl_M_firstOfMany_2 G) _ from (sn_iinc (pc := 18) (v := 1) dX12_firstOfMany_18 rfl (Nat.le_of_ble_eq_true rfl) (sn_goto (pc := 21) (tgt := 2) dX12_firstOfMany_21 rfl (sn_lf (pc := 2) (ln_a (i := 0) (q := 66) (ln_i (i := 1) (fun z0 => (ln_i (i := 2) (fun z1 => (ln_end (o := fun τ => (some (.inl (z0, z1, τ)) : Option ((Int32 × Int32 × am_St) ⊕ (Int32 × am_St)))) (fun _ _ _ e h => by cases e; exact h))))))))))) _ _ _ _ _ ((eq_M_firstOfMany_18 x1 x2 σ).symm.trans e) hr
noncomputable def b_M_firstOfMany_2 (x1 : Int32) (x2 : Int32) (σ : am_St) : Option ((Int32 × Int32 × am_St) ⊕ (Int32 × am_St)) :=
  (f_M_ones x2 σ).bind (fun p1 =>
    if p1.1 = x1 then
      (f_M_areTogether x2 p1.2).bind (fun p2 =>
        if p2.1 = 0 then
          f_M_firstOfMany_18 x1 x2 p2.2
        else
          some (.inr ((x2, p2.2))))
    else
      f_M_firstOfMany_18 x1 x2 p1.2)
noncomputable def f_M_firstOfMany_2 (x1 : Int32) (x2 : Int32) (σ : am_St) : Option (Int32 × am_St) := am_lp (fun s : Int32 × Int32 × am_St => b_M_firstOfMany_2 s.1 s.2.1 s.2.2) (x1, x2, σ)
set_option maxRecDepth 100000 in
set_option maxHeartbeats 4000000 in
theorem sb_M_firstOfMany_2 (G : am_G) (x1 : Int32) (x2 : Int32) (σ : am_St) (r : (Int32 × Int32 × am_St) ⊕ (Int32 × am_St)) (Q : am_AQ) (e : b_M_firstOfMany_2 x1 x2 σ = some r) (hr : Pl_M_firstOfMany_2 G r Q) : am_AW G M_M_firstOfMany 2 [(2, .int x2), (1, .int x1), (0, .ref 66)] [] σ Q :=
  (show am_Snd G M_M_firstOfMany 2 (Pl_M_firstOfMany_2 G) _ from (sn_iload_n (pc := 2) (i := 2) dX12_firstOfMany_2 rfl (sn_callS (pc := 3) (N := M_M_ones) dX12_firstOfMany_3 (cal_M_ones G) tw_1325 tw_1326 tw_12 tw_1327 dsc_X12_ones rfl (sn_iload_n (pc := 6) (i := 1) dX12_firstOfMany_6 rfl (sn_icmp_ne (pc := 7) (tgt := 18) dX12_firstOfMany_7 rfl (sn_lf (pc := 18) (ln_a (i := 0) (q := 66) (ln_i (i := 1) (fun z0 => (ln_i (i := 2) (fun z1 => (ln_end (o := fun τ => f_M_firstOfMany_18 z0 z1 τ) (fun _ _ _ e h => s_M_firstOfMany_18 G z0 z1 _ _ _ e h)))))))) (sn_aload_n (pc := 10) (i := 0) dX12_firstOfMany_10 rfl (sn_iload_n (pc := 11) (i := 2) dX12_firstOfMany_11 rfl (sn_callV (pc := 12) (N := M_M_areTogether) dX12_firstOfMany_12 (cal_M_areTogether G) sh_66 rfl tw_1312 tw_1314 tp_54 tw_12 tw_1315 dsc_X12_areTogether rfl (sn_if_ne (pc := 15) (tgt := 24) dX12_firstOfMany_15 rfl (sn_iload_n (pc := 24) (i := 2) dX12_firstOfMany_24 rfl (sn_reti (pc := 25) (R := fun x τ => (some (.inr ((x, τ))) : Option ((Int32 × Int32 × am_St) ⊕ (Int32 × am_St)))) dX12_firstOfMany_25 rfl (fun _ _ _ _ e h => by cases e; exact h))) (sn_lf (pc := 18) (ln_a (i := 0) (q := 66) (ln_i (i := 1) (fun z0 => (ln_i (i := 2) (fun z1 => (ln_end (o := fun τ => f_M_firstOfMany_18 z0 z1 τ) (fun _ _ _ e h => s_M_firstOfMany_18 G z0 z1 _ _ _ e h))))))))))))))))) _ _ _ _ _ e hr
theorem s_M_firstOfMany_2 (G : am_G) (x1 : Int32) (x2 : Int32) (σ : am_St) (r : Int32 × am_St) (Q : am_AQ) (e : f_M_firstOfMany_2 x1 x2 σ = some r) (hr : am_Pi r Q) : am_AW G M_M_firstOfMany 2 [(2, .int x2), (1, .int x1), (0, .ref 66)] [] σ Q :=
  am_loop (P := am_Pi) (L := fun s : Int32 × Int32 × am_St => [(2, .int s.2.1), (1, .int s.1), (0, .ref 66)]) (g := fun s => s.2.2) (fun s o Q e hr => sb_M_firstOfMany_2 G s.1 s.2.1 s.2.2 o Q e hr) (x1, x2, σ) r Q e hr
noncomputable def g_M_firstOfMany (x1 : Int32) (σ : am_St) : Option (Int32 × am_St) :=
  f_M_firstOfMany_2 x1 0 σ
noncomputable def f_M_firstOfMany (x1 : Int32) (σ : am_St) : Option (Int32 × am_St) := am_lk (g_M_firstOfMany x1 σ)
theorem eq_M_firstOfMany (x1 : Int32) (σ : am_St) : f_M_firstOfMany x1 σ = g_M_firstOfMany x1 σ := am_lk_eq _
set_option maxRecDepth 100000 in
set_option maxHeartbeats 4000000 in
theorem s_M_firstOfMany (G : am_G) (x1 : Int32) (σ : am_St) (r : Int32 × am_St) (Q : am_AQ) (e : f_M_firstOfMany x1 σ = some r) (hr : am_Pi r Q) : am_AW G M_M_firstOfMany 0 [(0, .ref 66), (1, .int x1)] [] σ Q :=
  (show am_Snd G M_M_firstOfMany 0 am_Pi _ from (sn_iconst (pc := 0) (v := 0) dX12_firstOfMany_0 rfl (sn_istore_n (pc := 1) (i := 2) dX12_firstOfMany_1 rfl (Nat.le_of_ble_eq_true rfl) (sn_lf (pc := 2) (ln_a (i := 0) (q := 66) (ln_i (i := 1) (fun z0 => (ln_i (i := 2) (fun z1 => (ln_end (o := fun τ => f_M_firstOfMany_2 z0 z1 τ) (fun _ _ _ e h => s_M_firstOfMany_2 G z0 z1 _ _ _ e h))))))))))) _ _ _ _ _ ((eq_M_firstOfMany x1 σ).symm.trans e) hr
noncomputable def cF_M_firstOfMany : am_Fn := fun _ args σ K => match args with
  | [.ref q0, .int z1] => match Nat.beq q0 66 with
    | true => (f_M_firstOfMany z1 σ).bind (fun p => K (some (.int p.1)) p.2)
    | _ => none
  | _ => none
theorem cal_M_firstOfMany (G : am_G) : am_Cal G M_M_firstOfMany cF_M_firstOfMany := by
  intro ρ args σ K r e
  unfold cF_M_firstOfMany at e
  split at e
  · split at e
    · rename_i hq0
      obtain ⟨p, h1, h2⟩ := am_bind_some e
      rw [Nat.eq_of_beq_eq_true hq0]
      exact ⟨some (.int p.1), p.2, am_Met.of rfl (Nat.le_of_ble_eq_true rfl) (s_M_firstOfMany G _ σ p _ h1 ⟨rfl, rfl⟩), h2⟩
    · cases e
  · cases e
