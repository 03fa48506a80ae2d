abbrev M_X_can : am_MD := (yX11_can, cX11_can, 5, (some .int), 3, 76)
theorem dX11_can_0 : decode cX11_can 0 = .ok (.iload_n 1, 1) := by decide +kernel
theorem dX11_can_1 : decode cX11_can 1 = .ok (.invokestatic 132, 3) := by decide +kernel
theorem dX11_can_4 : decode cX11_can 4 = .ok (.ifCond .ne 10, 3) := by decide +kernel
theorem dX11_can_7 : decode cX11_can 7 = .ok (.aload_n 0, 1) := by decide +kernel
theorem dX11_can_8 : decode cX11_can 8 = .ok (.bipush (-2), 2) := by decide +kernel
theorem dX11_can_10 : decode cX11_can 10 = .ok (.invokevirtual 55, 3) := by decide +kernel
theorem dX11_can_13 : decode cX11_can 13 = .ok (.ireturn, 1) := by decide +kernel
theorem dX11_can_14 : decode cX11_can 14 = .ok (.iconst 0, 1) := by decide +kernel
theorem dX11_can_15 : decode cX11_can 15 = .ok (.istore_n 2, 1) := by decide +kernel
theorem dX11_can_16 : decode cX11_can 16 = .ok (.iconst 0, 1) := by decide +kernel
theorem dX11_can_17 : decode cX11_can 17 = .ok (.istore_n 3, 1) := by decide +kernel
theorem dX11_can_18 : decode cX11_can 18 = .ok (.iload_n 3, 1) := by decide +kernel
theorem dX11_can_19 : decode cX11_can 19 = .ok (.aload_n 0, 1) := by decide +kernel
theorem dX11_can_20 : decode cX11_can 20 = .ok (.getfield 10, 3) := by decide +kernel
theorem dX11_can_23 : decode cX11_can 23 = .ok (.getfield 171, 3) := by decide +kernel
theorem dX11_can_26 : decode cX11_can 26 = .ok (.if_icmp .ge 71, 3) := by decide +kernel
theorem dX11_can_29 : decode cX11_can 29 = .ok (.aload_n 0, 1) := by decide +kernel
theorem dX11_can_30 : decode cX11_can 30 = .ok (.getfield 33, 3) := by decide +kernel
theorem dX11_can_33 : decode cX11_can 33 = .ok (.aload_n 0, 1) := by decide +kernel
theorem dX11_can_34 : decode cX11_can 34 = .ok (.getfield 10, 3) := by decide +kernel
theorem dX11_can_37 : decode cX11_can 37 = .ok (.iload_n 3, 1) := by decide +kernel
theorem dX11_can_38 : decode cX11_can 38 = .ok (.invokevirtual 155, 3) := by decide +kernel
theorem dX11_can_41 : decode cX11_can 41 = .ok (.aload_n 0, 1) := by decide +kernel
theorem dX11_can_42 : decode cX11_can 42 = .ok (.getfield 33, 3) := by decide +kernel
theorem dX11_can_45 : decode cX11_can 45 = .ok (.aload_n 0, 1) := by decide +kernel
theorem dX11_can_46 : decode cX11_can 46 = .ok (.getfield 10, 3) := by decide +kernel
theorem dX11_can_49 : decode cX11_can 49 = .ok (.getfield 162, 3) := by decide +kernel
theorem dX11_can_52 : decode cX11_can 52 = .ok (.aload_n 0, 1) := by decide +kernel
theorem dX11_can_53 : decode cX11_can 53 = .ok (.getfield 10, 3) := by decide +kernel
theorem dX11_can_56 : decode cX11_can 56 = .ok (.getfield 165, 3) := by decide +kernel
theorem dX11_can_59 : decode cX11_can 59 = .ok (.invokevirtual 168, 3) := by decide +kernel
theorem dX11_can_62 : decode cX11_can 62 = .ok (.istore 4, 2) := by decide +kernel
theorem dX11_can_64 : decode cX11_can 64 = .ok (.iload 4, 2) := by decide +kernel
theorem dX11_can_66 : decode cX11_can 66 = .ok (.ifCond .le 25, 3) := by decide +kernel
theorem dX11_can_69 : decode cX11_can 69 = .ok (.iload_n 1, 1) := by decide +kernel
theorem dX11_can_70 : decode cX11_can 70 = .ok (.ifCond .eq 15, 3) := by decide +kernel
theorem dX11_can_73 : decode cX11_can 73 = .ok (.iload 4, 2) := by decide +kernel
theorem dX11_can_75 : decode cX11_can 75 = .ok (.aload_n 0, 1) := by decide +kernel
theorem dX11_can_76 : decode cX11_can 76 = .ok (.getfield 33, 3) := by decide +kernel
theorem dX11_can_79 : decode cX11_can 79 = .ok (.invokevirtual 159, 3) := by decide +kernel
theorem dX11_can_82 : decode cX11_can 82 = .ok (.if_icmp .ne 9, 3) := by decide +kernel
theorem dX11_can_85 : decode cX11_can 85 = .ok (.iload_n 2, 1) := by decide +kernel
theorem dX11_can_86 : decode cX11_can 86 = .ok (.iconst 1, 1) := by decide +kernel
theorem dX11_can_87 : decode cX11_can 87 = .ok (.iload_n 3, 1) := by decide +kernel
theorem dX11_can_88 : decode cX11_can 88 = .ok (.ishl, 1) := by decide +kernel
theorem dX11_can_89 : decode cX11_can 89 = .ok (.ior, 1) := by decide +kernel
theorem dX11_can_90 : decode cX11_can 90 = .ok (.istore_n 2, 1) := by decide +kernel
theorem dX11_can_91 : decode cX11_can 91 = .ok (.iinc 3 1, 3) := by decide +kernel
theorem dX11_can_94 : decode cX11_can 94 = .ok (.goto (-76), 3) := by decide +kernel
theorem dX11_can_97 : decode cX11_can 97 = .ok (.iload_n 2, 1) := by decide +kernel
theorem dX11_can_98 : decode cX11_can 98 = .ok (.ireturn, 1) := by decide +kernel
abbrev Pl_X_can_18 (G : am_G) : ((Int32 × Int32 × Int32 × am_St) ⊕ (Int32 × am_St)) → am_AQ → Prop := am_PL G M_X_can 18 (fun s : Int32 × Int32 × Int32 × am_St => [(3, .int s.2.2.1), (2, .int s.2.1), (1, .int s.1), (0, .ref 0)]) (fun s => s.2.2.2) am_Pi
noncomputable def g_X_can_91 (x1 : Int32) (x2 : Int32) (x3 : Int32) (σ : am_St) : Option ((Int32 × Int32 × Int32 × am_St) ⊕ (Int32 × am_St)) :=
  let v1 := x3 + 1
  some (.inl (x1, x2, v1, σ))
noncomputable def f_X_can_91 (x1 : Int32) (x2 : Int32) (x3 : Int32) (σ : am_St) : Option ((Int32 × Int32 × Int32 × am_St) ⊕ (Int32 × am_St)) := am_lk (g_X_can_91 x1 x2 x3 σ)
theorem eq_X_can_91 (x1 : Int32) (x2 : Int32) (x3 : Int32) (σ : am_St) : f_X_can_91 x1 x2 x3 σ = g_X_can_91 x1 x2 x3 σ := am_lk_eq _
set_option maxRecDepth 100000 in
set_option maxHeartbeats 4000000 in
theorem s_X_can_91 (G : am_G) (x1 : Int32) (x2 : Int32) (x3 : Int32) (σ : am_St) (r : (Int32 × Int32 × Int32 × am_St) ⊕ (Int32 × am_St)) (Q : am_AQ) (e : f_X_can_91 x1 x2 x3 σ = some r) (hr : (Pl_X_can_18 G) r Q) : am_AW G M_X_can 91 [(3, .int x3), (2, .int x2), (1, .int x1), (0, .ref 0)] [] σ Q :=
  (show am_Snd G M_X_can 91 (Pl_X_can_18 G) _ from (sn_iinc (pc := 91) (v := 1) dX11_can_91 rfl (Nat.le_of_ble_eq_true rfl) (sn_goto (pc := 94) (tgt := 18) dX11_can_94 rfl (sn_lf (pc := 18) (ln_a (i := 0) (q := 0) (ln_i (i := 1) (fun z0 => (ln_i (i := 2) (fun z1 => (ln_i (i := 3) (fun z2 => (ln_end (o := fun τ => (some (.inl (z0, z1, z2, τ)) : Option ((Int32 × Int32 × Int32 × am_St) ⊕ (Int32 × am_St)))) (fun _ _ _ e h => by cases e; exact h))))))))))))) _ _ _ _ _ ((eq_X_can_91 x1 x2 x3 σ).symm.trans e) hr
noncomputable def g_X_can_85 (x1 : Int32) (x2 : Int32) (x3 : Int32) (σ : am_St) : Option ((Int32 × Int32 × Int32 × am_St) ⊕ (Int32 × am_St)) :=
  let v1 := x2 ||| (1 <<< (x3 &&& 31))
  f_X_can_91 x1 v1 x3 σ
noncomputable def f_X_can_85 (x1 : Int32) (x2 : Int32) (x3 : Int32) (σ : am_St) : Option ((Int32 × Int32 × Int32 × am_St) ⊕ (Int32 × am_St)) := am_lk (g_X_can_85 x1 x2 x3 σ)
theorem eq_X_can_85 (x1 : Int32) (x2 : Int32) (x3 : Int32) (σ : am_St) : f_X_can_85 x1 x2 x3 σ = g_X_can_85 x1 x2 x3 σ := am_lk_eq _
set_option maxRecDepth 100000 in
set_option maxHeartbeats 4000000 in
theorem s_X_can_85 (G : am_G) (x1 : Int32) (x2 : Int32) (x3 : Int32) (σ : am_St) (r : (Int32 × Int32 × Int32 × am_St) ⊕ (Int32 × am_St)) (Q : am_AQ) (e : f_X_can_85 x1 x2 x3 σ = some r) (hr : (Pl_X_can_18 G) r Q) : am_AW G M_X_can 85 [(3, .int x3), (2, .int x2), (1, .int x1), (0, .ref 0)] [] σ Q :=
  (show am_Snd G M_X_can 85 (Pl_X_can_18 G) _ from (sn_iload_n (pc := 85) (i := 2) dX11_can_85 rfl (sn_iconst (pc := 86) (v := 1) dX11_can_86 rfl (sn_iload_n (pc := 87) (i := 3) dX11_can_87 rfl (sn_ishl (pc := 88) dX11_can_88 (sn_ior (pc := 89) dX11_can_89 (sn_istore_n (pc := 90) (i := 2) dX11_can_90 rfl (Nat.le_of_ble_eq_true rfl) (sn_lf (pc := 91) (ln_a (i := 0) (q := 0) (ln_i (i := 1) (fun z0 => (ln_i (i := 2) (fun z1 => (ln_i (i := 3) (fun z2 => (ln_end (o := fun τ => f_X_can_91 z0 z1 z2 τ) (fun _ _ _ e h => s_X_can_91 G z0 z1 z2 _ _ _ e h))))))))))))))))) _ _ _ _ _ ((eq_X_can_85 x1 x2 x3 σ).symm.trans e) hr
noncomputable def g_X_can_64 (x1 : Int32) (x2 : Int32) (x3 : Int32) (x4 : Int32) (σ : am_St) : Option ((Int32 × Int32 × Int32 × am_St) ⊕ (Int32 × am_St)) :=
  if x4 ≤ 0 then
    f_X_can_91 x1 x2 x3 σ
  else
    if x1 = 0 then
      f_X_can_85 x1 x2 x3 σ
    else
      (f_W_all σ).bind (fun p1 =>
        if x4 = p1.1 then
          f_X_can_85 x1 x2 x3 p1.2
        else
          f_X_can_91 x1 x2 x3 p1.2)
noncomputable def f_X_can_64 (x1 : Int32) (x2 : Int32) (x3 : Int32) (x4 : Int32) (σ : am_St) : Option ((Int32 × Int32 × Int32 × am_St) ⊕ (Int32 × am_St)) := am_lk (g_X_can_64 x1 x2 x3 x4 σ)
theorem eq_X_can_64 (x1 : Int32) (x2 : Int32) (x3 : Int32) (x4 : Int32) (σ : am_St) : f_X_can_64 x1 x2 x3 x4 σ = g_X_can_64 x1 x2 x3 x4 σ := am_lk_eq _
set_option maxRecDepth 100000 in
set_option maxHeartbeats 4000000 in
theorem s_X_can_64 (G : am_G) (x1 : Int32) (x2 : Int32) (x3 : Int32) (x4 : Int32) (σ : am_St) (r : (Int32 × Int32 × Int32 × am_St) ⊕ (Int32 × am_St)) (Q : am_AQ) (e : f_X_can_64 x1 x2 x3 x4 σ = some r) (hr : (Pl_X_can_18 G) r Q) : am_AW G M_X_can 64 [(4, .int x4), (3, .int x3), (2, .int x2), (1, .int x1), (0, .ref 0)] [] σ Q :=
  (show am_Snd G M_X_can 64 (Pl_X_can_18 G) _ from (sn_iload (pc := 64) dX11_can_64 (sn_if_le (pc := 66) (tgt := 91) dX11_can_66 rfl (sn_lf (pc := 91) (ln_a (i := 0) (q := 0) (ln_i (i := 1) (fun z0 => (ln_i (i := 2) (fun z1 => (ln_i (i := 3) (fun z2 => (ln_end (o := fun τ => f_X_can_91 z0 z1 z2 τ) (fun _ _ _ e h => s_X_can_91 G z0 z1 z2 _ _ _ e h)))))))))) (sn_iload_n (pc := 69) (i := 1) dX11_can_69 rfl (sn_if_eq (pc := 70) (tgt := 85) dX11_can_70 rfl (sn_lf (pc := 85) (ln_a (i := 0) (q := 0) (ln_i (i := 1) (fun z0 => (ln_i (i := 2) (fun z1 => (ln_i (i := 3) (fun z2 => (ln_end (o := fun τ => f_X_can_85 z0 z1 z2 τ) (fun _ _ _ e h => s_X_can_85 G z0 z1 z2 _ _ _ e h)))))))))) (sn_iload (pc := 73) dX11_can_73 (sn_aload_n (pc := 75) (i := 0) dX11_can_75 rfl (sn_gR (r0 := 54) (pc := 76) (h := 0) (f := 4) dX11_can_76 am_CL_10 sh_0 rfl (Nat.le_of_ble_eq_true rfl) tw_223 (sn_callV (pc := 79) (N := M_W_all) dX11_can_79 (cal_W_all G) sh_54 rfl tw_582 tw_373 tw_374 tw_10 tw_375 dsc_X10_all rfl (sn_icmp_ne (pc := 82) (tgt := 91) dX11_can_82 rfl (sn_lf (pc := 91) (ln_a (i := 0) (q := 0) (ln_i (i := 1) (fun z0 => (ln_i (i := 2) (fun z1 => (ln_i (i := 3) (fun z2 => (ln_end (o := fun τ => f_X_can_91 z0 z1 z2 τ) (fun _ _ _ e h => s_X_can_91 G z0 z1 z2 _ _ _ e h)))))))))) (sn_lf (pc := 85) (ln_a (i := 0) (q := 0) (ln_i (i := 1) (fun z0 => (ln_i (i := 2) (fun z1 => (ln_i (i := 3) (fun z2 => (ln_end (o := fun τ => f_X_can_85 z0 z1 z2 τ) (fun _ _ _ e h => s_X_can_85 G z0 z1 z2 _ _ _ e h)))))))))))))))))))) _ _ _ _ _ ((eq_X_can_64 x1 x2 x3 x4 σ).symm.trans e) hr
noncomputable def b_X_can_18 (x1 : Int32) (x2 : Int32) (x3 : Int32) (σ : am_St) : Option ((Int32 × Int32 × Int32 × am_St) ⊕ (Int32 × am_St)) :=
  if (σ.1 1 2) ≤ x3 then
    some (.inr ((x2, σ)))
  else
    (f_W_look_1 x3 σ).bind (fun p1 =>
      (f_W_through (p1.1 1 4) (p1.1 1 3) p1).bind (fun p2 =>
        f_X_can_64 x1 x2 x3 p2.1 p2.2))
noncomputable def f_X_can_18 (x1 : Int32) (x2 : Int32) (x3 : Int32) (σ : am_St) : Option (Int32 × am_St) := am_lp (fun s : Int32 × Int32 × Int32 × am_St => b_X_can_18 s.1 s.2.1 s.2.2.1 s.2.2.2) (x1, x2, x3, σ)
set_option maxRecDepth 100000 in
set_option maxHeartbeats 4000000 in
theorem sb_X_can_18 (G : am_G) (x1 : Int32) (x2 : Int32) (x3 : Int32) (σ : am_St) (r : (Int32 × Int32 × Int32 × am_St) ⊕ (Int32 × am_St)) (Q : am_AQ) (e : b_X_can_18 x1 x2 x3 σ = some r) (hr : Pl_X_can_18 G r Q) : am_AW G M_X_can 18 [(3, .int x3), (2, .int x2), (1, .int x1), (0, .ref 0)] [] σ Q :=
  (show am_Snd G M_X_can 18 (Pl_X_can_18 G) _ from (sn_iload_n (pc := 18) (i := 3) dX11_can_18 rfl (sn_aload_n (pc := 19) (i := 0) dX11_can_19 rfl (sn_gR (r0 := 1) (pc := 20) (h := 0) (f := 0) dX11_can_20 am_CL_10 sh_0 rfl (Nat.le_of_ble_eq_true rfl) tw_219 (sn_gI (pc := 23) (h := 1) (f := 2) dX11_can_23 am_CL_3 sh_1 rfl (Nat.le_of_ble_eq_true rfl) tw_85 (sn_icmp_ge (pc := 26) (tgt := 97) dX11_can_26 rfl (sn_iload_n (pc := 97) (i := 2) dX11_can_97 rfl (sn_reti (pc := 98) (R := fun x τ => (some (.inr ((x, τ))) : Option ((Int32 × Int32 × Int32 × am_St) ⊕ (Int32 × am_St)))) dX11_can_98 rfl (fun _ _ _ _ e h => by cases e; exact h))) (sn_aload_n (pc := 29) (i := 0) dX11_can_29 rfl (sn_gR (r0 := 54) (pc := 30) (h := 0) (f := 4) dX11_can_30 am_CL_10 sh_0 rfl (Nat.le_of_ble_eq_true rfl) tw_223 (sn_aload_n (pc := 33) (i := 0) dX11_can_33 rfl (sn_gR (r0 := 1) (pc := 34) (h := 0) (f := 0) dX11_can_34 am_CL_10 sh_0 rfl (Nat.le_of_ble_eq_true rfl) tw_219 (sn_iload_n (pc := 37) (i := 3) dX11_can_37 rfl (sn_callV (pc := 38) (N := M_W_look) dX11_can_38 (cal_W_look_1 G) sh_54 rfl tw_578 tw_579 tw_580 tw_10 tw_581 dsc_X10_look rfl (sn_aload_n (pc := 41) (i := 0) dX11_can_41 rfl (sn_gR (r0 := 54) (pc := 42) (h := 0) (f := 4) dX11_can_42 am_CL_10 sh_0 rfl (Nat.le_of_ble_eq_true rfl) tw_223 (sn_aload_n (pc := 45) (i := 0) dX11_can_45 rfl (sn_gR (r0 := 1) (pc := 46) (h := 0) (f := 0) dX11_can_46 am_CL_10 sh_0 rfl (Nat.le_of_ble_eq_true rfl) tw_219 (sn_gI (pc := 49) (h := 1) (f := 4) dX11_can_49 am_CL_3 sh_1 rfl (Nat.le_of_ble_eq_true rfl) tw_99 (sn_aload_n (pc := 52) (i := 0) dX11_can_52 rfl (sn_gR (r0 := 1) (pc := 53) (h := 0) (f := 0) dX11_can_53 am_CL_10 sh_0 rfl (Nat.le_of_ble_eq_true rfl) tw_219 (sn_gI (pc := 56) (h := 1) (f := 3) dX11_can_56 am_CL_3 sh_1 rfl (Nat.le_of_ble_eq_true rfl) tw_92 (sn_callV (pc := 59) (N := M_W_through) dX11_can_59 (cal_W_through G) sh_54 rfl tw_583 tw_584 tw_585 tw_10 tw_586 dsc_X10_through rfl (sn_istore (pc := 62) dX11_can_62 (Nat.le_of_ble_eq_true rfl) (sn_lf (pc := 64) (ln_a (i := 0) (q := 0) (ln_i (i := 1) (fun z0 => (ln_i (i := 2) (fun z1 => (ln_i (i := 3) (fun z2 => (ln_i (i := 4) (fun z3 => (ln_end (o := fun τ => f_X_can_64 z0 z1 z2 z3 τ) (fun _ _ _ e h => s_X_can_64 G z0 z1 z2 z3 _ _ _ e h)))))))))))))))))))))))))))))))))) _ _ _ _ _ e hr
theorem s_X_can_18 (G : am_G) (x1 : Int32) (x2 : Int32) (x3 : Int32) (σ : am_St) (r : Int32 × am_St) (Q : am_AQ) (e : f_X_can_18 x1 x2 x3 σ = some r) (hr : am_Pi r Q) : am_AW G M_X_can 18 [(3, .int x3), (2, .int x2), (1, .int x1), (0, .ref 0)] [] σ Q :=
  am_loop (P := am_Pi) (L := fun s : Int32 × Int32 × Int32 × am_St => [(3, .int s.2.2.1), (2, .int s.2.1), (1, .int s.1), (0, .ref 0)]) (g := fun s => s.2.2.2) (fun s o Q e hr => sb_X_can_18 G s.1 s.2.1 s.2.2.1 s.2.2.2 o Q e hr) (x1, x2, x3, σ) r Q e hr
noncomputable def g_X_can (x1 : Int32) (σ : am_St) : Option (Int32 × am_St) :=
  (f_X_isZeroOrOne x1 σ).bind (fun p1 =>
    if p1.1 = 0 then
      (f_X_refuse (-2) p1.2).bind (fun p2 =>
        some ((p2.1, p2.2)))
    else
      f_X_can_18 x1 0 0 p1.2)
noncomputable def f_X_can (x1 : Int32) (σ : am_St) : Option (Int32 × am_St) := am_lk (g_X_can x1 σ)
theorem eq_X_can (x1 : Int32) (σ : am_St) : f_X_can x1 σ = g_X_can x1 σ := am_lk_eq _
set_option maxRecDepth 100000 in
set_option maxHeartbeats 4000000 in
theorem s_X_can (G : am_G) (x1 : Int32) (σ : am_St) (r : Int32 × am_St) (Q : am_AQ) (e : f_X_can x1 σ = some r) (hr : am_Pi r Q) : am_AW G M_X_can 0 [(0, .ref 0), (1, .int x1)] [] σ Q :=
  (show am_Snd G M_X_can 0 am_Pi _ from (sn_iload_n (pc := 0) (i := 1) dX11_can_0 rfl (sn_callS (pc := 1) (N := M_X_isZeroOrOne) dX11_can_1 (cal_X_isZeroOrOne G) tw_549 tw_550 tw_1 tw_551 dsc_X11_isZeroOrOne rfl (sn_if_ne (pc := 4) (tgt := 14) dX11_can_4 rfl (sn_iconst (pc := 14) (v := 0) dX11_can_14 rfl (sn_istore_n (pc := 15) (i := 2) dX11_can_15 rfl (Nat.le_of_ble_eq_true rfl) (sn_iconst (pc := 16) (v := 0) dX11_can_16 rfl (sn_istore_n (pc := 17) (i := 3) dX11_can_17 rfl (Nat.le_of_ble_eq_true rfl) (sn_lf (pc := 18) (ln_a (i := 0) (q := 0) (ln_i (i := 1) (fun z0 => (ln_i (i := 2) (fun z1 => (ln_i (i := 3) (fun z2 => (ln_end (o := fun τ => f_X_can_18 z0 z1 z2 τ) (fun _ _ _ e h => s_X_can_18 G z0 z1 z2 _ _ _ e h)))))))))))))) (sn_aload_n (pc := 7) (i := 0) dX11_can_7 rfl (sn_bipush (pc := 8) (v := (-2)) dX11_can_8 (show (Int8.ofInt (-2)).toInt32 = (-2) by decide) (sn_callV (pc := 10) (N := M_X_refuse) dX11_can_10 (cal_X_refuse G) sh_0 rfl tw_251 tw_253 tp_0 tw_1 tw_254 dsc_X11_refuse rfl (sn_reti (pc := 13) (R := fun x τ => (some ((x, τ)))) dX11_can_13 rfl (fun _ _ _ _ e h => by cases e; exact h))))))))) _ _ _ _ _ ((eq_X_can x1 σ).symm.trans e) hr
noncomputable def cF_X_can : am_Fn := fun _ args σ K => match args with
  | [.ref q0, .int z1] => match Nat.beq q0 0 with
    | true => (f_X_can z1 σ).bind (fun p => K (some (.int p.1)) p.2)
    | _ => none
  | _ => none
theorem cal_X_can (G : am_G) : am_Cal G M_X_can cF_X_can := by
  intro ρ args σ K r e
  unfold cF_X_can at e
  split at e
  · split at e
    · rename_i hq0
      obtain ⟨p, h1, h2⟩ := am_bind_some e
      rw [Nat.eq_of_beq_eq_true hq0]
      exact ⟨some (.int p.1), p.2, am_Met.of rfl (Nat.le_of_ble_eq_true rfl) (s_X_can G _ σ p _ h1 ⟨rfl, rfl⟩), h2⟩
    · cases e
  · cases e
abbrev M_X_where : am_MD := (yX11_where, cX11_where, 5, (some .int), 3, 76)
theorem dX11_where_0 : decode cX11_where 0 = .ok (.aload_n 0, 1) := by decide +kernel
theorem dX11_where_1 : decode cX11_where 1 = .ok (.iload_n 1, 1) := by decide +kernel
theorem dX11_where_2 : decode cX11_where 2 = .ok (.iload_n 2, 1) := by decide +kernel
theorem dX11_where_3 : decode cX11_where 3 = .ok (.invokevirtual 129, 3) := by decide +kernel
theorem dX11_where_6 : decode cX11_where 6 = .ok (.ifCond .ne 9, 3) := by decide +kernel
theorem dX11_where_9 : decode cX11_where 9 = .ok (.aload_n 0, 1) := by decide +kernel
theorem dX11_where_10 : decode cX11_where 10 = .ok (.iconst (-1), 1) := by decide +kernel
theorem dX11_where_11 : decode cX11_where 11 = .ok (.invokevirtual 55, 3) := by decide +kernel
theorem dX11_where_14 : decode cX11_where 14 = .ok (.ireturn, 1) := by decide +kernel
theorem dX11_where_15 : decode cX11_where 15 = .ok (.aload_n 0, 1) := by decide +kernel
theorem dX11_where_16 : decode cX11_where 16 = .ok (.getfield 33, 3) := by decide +kernel
theorem dX11_where_19 : decode cX11_where 19 = .ok (.aload_n 0, 1) := by decide +kernel
theorem dX11_where_20 : decode cX11_where 20 = .ok (.getfield 10, 3) := by decide +kernel
theorem dX11_where_23 : decode cX11_where 23 = .ok (.iload_n 1, 1) := by decide +kernel
theorem dX11_where_24 : decode cX11_where 24 = .ok (.invokevirtual 155, 3) := by decide +kernel
theorem dX11_where_27 : decode cX11_where 27 = .ok (.iconst 0, 1) := by decide +kernel
theorem dX11_where_28 : decode cX11_where 28 = .ok (.istore_n 3, 1) := by decide +kernel
theorem dX11_where_29 : decode cX11_where 29 = .ok (.iconst 0, 1) := by decide +kernel
theorem dX11_where_30 : decode cX11_where 30 = .ok (.istore 4, 2) := by decide +kernel
theorem dX11_where_32 : decode cX11_where 32 = .ok (.iload 4, 2) := by decide +kernel
theorem dX11_where_34 : decode cX11_where 34 = .ok (.aload_n 0, 1) := by decide +kernel
theorem dX11_where_35 : decode cX11_where 35 = .ok (.getfield 10, 3) := by decide +kernel
theorem dX11_where_38 : decode cX11_where 38 = .ok (.getfield 174, 3) := by decide +kernel
theorem dX11_where_41 : decode cX11_where 41 = .ok (.if_icmp .ge 29, 3) := by decide +kernel
theorem dX11_where_44 : decode cX11_where 44 = .ok (.aload_n 0, 1) := by decide +kernel
theorem dX11_where_45 : decode cX11_where 45 = .ok (.getfield 33, 3) := by decide +kernel
theorem dX11_where_48 : decode cX11_where 48 = .ok (.iload_n 2, 1) := by decide +kernel
theorem dX11_where_49 : decode cX11_where 49 = .ok (.iload 4, 2) := by decide +kernel
theorem dX11_where_51 : decode cX11_where 51 = .ok (.invokevirtual 168, 3) := by decide +kernel
theorem dX11_where_54 : decode cX11_where 54 = .ok (.ifCond .le 10, 3) := by decide +kernel
theorem dX11_where_57 : decode cX11_where 57 = .ok (.iload_n 3, 1) := by decide +kernel
theorem dX11_where_58 : decode cX11_where 58 = .ok (.iconst 1, 1) := by decide +kernel
theorem dX11_where_59 : decode cX11_where 59 = .ok (.iload 4, 2) := by decide +kernel
theorem dX11_where_61 : decode cX11_where 61 = .ok (.ishl, 1) := by decide +kernel
theorem dX11_where_62 : decode cX11_where 62 = .ok (.ior, 1) := by decide +kernel
theorem dX11_where_63 : decode cX11_where 63 = .ok (.istore_n 3, 1) := by decide +kernel
theorem dX11_where_64 : decode cX11_where 64 = .ok (.iinc 4 1, 3) := by decide +kernel
theorem dX11_where_67 : decode cX11_where 67 = .ok (.goto (-35), 3) := by decide +kernel
theorem dX11_where_70 : decode cX11_where 70 = .ok (.iload_n 3, 1) := by decide +kernel
theorem dX11_where_71 : decode cX11_where 71 = .ok (.ireturn, 1) := by decide +kernel
abbrev Pl_X_where_32 (G : am_G) : ((Int32 × Int32 × Int32 × am_St) ⊕ (Int32 × am_St)) → am_AQ → Prop := am_PL G M_X_where 32 (fun s : Int32 × Int32 × Int32 × am_St => [(4, .int s.2.2.1), (3, .int s.2.1), (2, .int s.1), (0, .ref 0)]) (fun s => s.2.2.2) am_Pi
noncomputable def g_X_where_64 (x2 : Int32) (x3 : Int32) (x4 : Int32) (σ : am_St) : Option ((Int32 × Int32 × Int32 × am_St) ⊕ (Int32 × am_St)) :=
  let v1 := x4 + 1
  some (.inl (x2, x3, v1, σ))
noncomputable def f_X_where_64 (x2 : Int32) (x3 : Int32) (x4 : Int32) (σ : am_St) : Option ((Int32 × Int32 × Int32 × am_St) ⊕ (Int32 × am_St)) := am_lk (g_X_where_64 x2 x3 x4 σ)
theorem eq_X_where_64 (x2 : Int32) (x3 : Int32) (x4 : Int32) (σ : am_St) : f_X_where_64 x2 x3 x4 σ = g_X_where_64 x2 x3 x4 σ := am_lk_eq _
set_option maxRecDepth 100000 in
set_option maxHeartbeats 4000000 in
theorem s_X_where_64 (G : am_G) (x2 : Int32) (x3 : Int32) (x4 : Int32) (σ : am_St) (r : (Int32 × Int32 × Int32 × am_St) ⊕ (Int32 × am_St)) (Q : am_AQ) (e : f_X_where_64 x2 x3 x4 σ = some r) (hr : (Pl_X_where_32 G) r Q) : am_AW G M_X_where 64 [(4, .int x4), (3, .int x3), (2, .int x2), (0, .ref 0)] [] σ Q :=
  (show am_Snd G M_X_where 64 (Pl_X_where_32 G) _ from (sn_iinc (pc := 64) (v := 1) dX11_where_64 rfl (Nat.le_of_ble_eq_true rfl) (sn_goto (pc := 67) (tgt := 32) dX11_where_67 rfl (sn_lf (pc := 32) (ln_a (i := 0) (q := 0) (ln_i (i := 2) (fun z0 => (ln_i (i := 3) (fun z1 => (ln_i (i := 4) (fun z2 => (ln_end (o := fun τ => (some (.inl (z0, z1, z2, τ)) : Option ((Int32 × Int32 × Int32 × am_St) ⊕ (Int32 × am_St)))) (fun _ _ _ e h => by cases e; exact h))))))))))))) _ _ _ _ _ ((eq_X_where_64 x2 x3 x4 σ).symm.trans e) hr
noncomputable def b_X_where_32 (x2 : Int32) (x3 : Int32) (x4 : Int32) (σ : am_St) : Option ((Int32 × Int32 × Int32 × am_St) ⊕ (Int32 × am_St)) :=
  if (σ.1 1 0) ≤ x4 then
    some (.inr ((x3, σ)))
  else
    (f_W_through x2 x4 σ).bind (fun p1 =>
      if p1.1 ≤ 0 then
        f_X_where_64 x2 x3 x4 p1.2
      else
        let v2 := x3 ||| (1 <<< (x4 &&& 31))
        f_X_where_64 x2 v2 x4 p1.2)
noncomputable def f_X_where_32 (x2 : Int32) (x3 : Int32) (x4 : Int32) (σ : am_St) : Option (Int32 × am_St) := am_lp (fun s : Int32 × Int32 × Int32 × am_St => b_X_where_32 s.1 s.2.1 s.2.2.1 s.2.2.2) (x2, x3, x4, σ)
set_option maxRecDepth 100000 in
set_option maxHeartbeats 4000000 in
theorem sb_X_where_32 (G : am_G) (x2 : Int32) (x3 : Int32) (x4 : Int32) (σ : am_St) (r : (Int32 × Int32 × Int32 × am_St) ⊕ (Int32 × am_St)) (Q : am_AQ) (e : b_X_where_32 x2 x3 x4 σ = some r) (hr : Pl_X_where_32 G r Q) : am_AW G M_X_where 32 [(4, .int x4), (3, .int x3), (2, .int x2), (0, .ref 0)] [] σ Q :=
  (show am_Snd G M_X_where 32 (Pl_X_where_32 G) _ from (sn_iload (pc := 32) dX11_where_32 (sn_aload_n (pc := 34) (i := 0) dX11_where_34 rfl (sn_gR (r0 := 1) (pc := 35) (h := 0) (f := 0) dX11_where_35 am_CL_10 sh_0 rfl (Nat.le_of_ble_eq_true rfl) tw_219 (sn_gI (pc := 38) (h := 1) (f := 0) dX11_where_38 am_CL_3 sh_1 rfl (Nat.le_of_ble_eq_true rfl) tw_77 (sn_icmp_ge (pc := 41) (tgt := 70) dX11_where_41 rfl (sn_iload_n (pc := 70) (i := 3) dX11_where_70 rfl (sn_reti (pc := 71) (R := fun x τ => (some (.inr ((x, τ))) : Option ((Int32 × Int32 × Int32 × am_St) ⊕ (Int32 × am_St)))) dX11_where_71 rfl (fun _ _ _ _ e h => by cases e; exact h))) (sn_aload_n (pc := 44) (i := 0) dX11_where_44 rfl (sn_gR (r0 := 54) (pc := 45) (h := 0) (f := 4) dX11_where_45 am_CL_10 sh_0 rfl (Nat.le_of_ble_eq_true rfl) tw_223 (sn_iload_n (pc := 48) (i := 2) dX11_where_48 rfl (sn_iload (pc := 49) dX11_where_49 (sn_callV (pc := 51) (N := M_W_through) dX11_where_51 (cal_W_through G) sh_54 rfl tw_583 tw_584 tw_585 tw_10 tw_586 dsc_X10_through rfl (sn_if_le (pc := 54) (tgt := 64) dX11_where_54 rfl (sn_lf (pc := 64) (ln_a (i := 0) (q := 0) (ln_i (i := 2) (fun z0 => (ln_i (i := 3) (fun z1 => (ln_i (i := 4) (fun z2 => (ln_end (o := fun τ => f_X_where_64 z0 z1 z2 τ) (fun _ _ _ e h => s_X_where_64 G z0 z1 z2 _ _ _ e h)))))))))) (sn_iload_n (pc := 57) (i := 3) dX11_where_57 rfl (sn_iconst (pc := 58) (v := 1) dX11_where_58 rfl (sn_iload (pc := 59) dX11_where_59 (sn_ishl (pc := 61) dX11_where_61 (sn_ior (pc := 62) dX11_where_62 (sn_istore_n (pc := 63) (i := 3) dX11_where_63 rfl (Nat.le_of_ble_eq_true rfl) (sn_lf (pc := 64) (ln_a (i := 0) (q := 0) (ln_i (i := 2) (fun z0 => (ln_i (i := 3) (fun z1 => (ln_i (i := 4) (fun z2 => (ln_end (o := fun τ => f_X_where_64 z0 z1 z2 τ) (fun _ _ _ e h => s_X_where_64 G z0 z1 z2 _ _ _ e h)))))))))))))))))))))))))))) _ _ _ _ _ e hr
theorem s_X_where_32 (G : am_G) (x2 : Int32) (x3 : Int32) (x4 : Int32) (σ : am_St) (r : Int32 × am_St) (Q : am_AQ) (e : f_X_where_32 x2 x3 x4 σ = some r) (hr : am_Pi r Q) : am_AW G M_X_where 32 [(4, .int x4), (3, .int x3), (2, .int x2), (0, .ref 0)] [] σ Q :=
  am_loop (P := am_Pi) (L := fun s : Int32 × Int32 × Int32 × am_St => [(4, .int s.2.2.1), (3, .int s.2.1), (2, .int s.1), (0, .ref 0)]) (g := fun s => s.2.2.2) (fun s o Q e hr => sb_X_where_32 G s.1 s.2.1 s.2.2.1 s.2.2.2 o Q e hr) (x2, x3, x4, σ) r Q e hr
noncomputable def g_X_where_29 (x2 : Int32) (x3 : Int32) (σ : am_St) : Option (Int32 × am_St) :=
  f_X_where_32 x2 x3 0 σ
noncomputable def f_X_where_29 (x2 : Int32) (x3 : Int32) (σ : am_St) : Option (Int32 × am_St) := am_lk (g_X_where_29 x2 x3 σ)
theorem eq_X_where_29 (x2 : Int32) (x3 : Int32) (σ : am_St) : f_X_where_29 x2 x3 σ = g_X_where_29 x2 x3 σ := am_lk_eq _
set_option maxRecDepth 100000 in
set_option maxHeartbeats 4000000 in
theorem s_X_where_29 (G : am_G) (x2 : Int32) (x3 : Int32) (σ : am_St) (r : Int32 × am_St) (Q : am_AQ) (e : f_X_where_29 x2 x3 σ = some r) (hr : am_Pi r Q) : am_AW G M_X_where 29 [(3, .int x3), (2, .int x2), (0, .ref 0)] [] σ Q :=
  (show am_Snd G M_X_where 29 am_Pi _ from (sn_iconst (pc := 29) (v := 0) dX11_where_29 rfl (sn_istore (pc := 30) dX11_where_30 (Nat.le_of_ble_eq_true rfl) (sn_lf (pc := 32) (ln_a (i := 0) (q := 0) (ln_i (i := 2) (fun z0 => (ln_i (i := 3) (fun z1 => (ln_i (i := 4) (fun z2 => (ln_end (o := fun τ => f_X_where_32 z0 z1 z2 τ) (fun _ _ _ e h => s_X_where_32 G z0 z1 z2 _ _ _ e h))))))))))))) _ _ _ _ _ ((eq_X_where_29 x2 x3 σ).symm.trans e) hr
noncomputable def g_X_where (x1 : Int32) (x2 : Int32) (σ : am_St) : Option (Int32 × am_St) :=
  (f_X_isPoint x1 x2 σ).bind (fun p1 =>
    if p1.1 = 0 then
      (f_X_refuse (-1) p1.2).bind (fun p3 =>
        some ((p3.1, p3.2)))
    else
      (f_W_look_1 x1 p1.2).bind (fun p2 =>
        f_X_where_29 x2 0 p2))
noncomputable def f_X_where (x1 : Int32) (x2 : Int32) (σ : am_St) : Option (Int32 × am_St) := am_lk (g_X_where x1 x2 σ)
theorem eq_X_where (x1 : Int32) (x2 : Int32) (σ : am_St) : f_X_where x1 x2 σ = g_X_where x1 x2 σ := am_lk_eq _
set_option maxRecDepth 100000 in
set_option maxHeartbeats 4000000 in
theorem s_X_where (G : am_G) (x1 : Int32) (x2 : Int32) (σ : am_St) (r : Int32 × am_St) (Q : am_AQ) (e : f_X_where x1 x2 σ = some r) (hr : am_Pi r Q) : am_AW G M_X_where 0 [(0, .ref 0), (1, .int x1), (2, .int x2)] [] σ Q :=
  (show am_Snd G M_X_where 0 am_Pi _ from (sn_aload_n (pc := 0) (i := 0) dX11_where_0 rfl (sn_iload_n (pc := 1) (i := 1) dX11_where_1 rfl (sn_iload_n (pc := 2) (i := 2) dX11_where_2 rfl (sn_callV (pc := 3) (N := M_X_isPoint) dX11_where_3 (cal_X_isPoint G) sh_0 rfl tw_545 tw_547 tp_16 tw_1 tw_548 dsc_X11_isPoint rfl (sn_if_ne (pc := 6) (tgt := 15) dX11_where_6 rfl (sn_aload_n (pc := 15) (i := 0) dX11_where_15 rfl (sn_gR (r0 := 54) (pc := 16) (h := 0) (f := 4) dX11_where_16 am_CL_10 sh_0 rfl (Nat.le_of_ble_eq_true rfl) tw_223 (sn_aload_n (pc := 19) (i := 0) dX11_where_19 rfl (sn_gR (r0 := 1) (pc := 20) (h := 0) (f := 0) dX11_where_20 am_CL_10 sh_0 rfl (Nat.le_of_ble_eq_true rfl) tw_219 (sn_iload_n (pc := 23) (i := 1) dX11_where_23 rfl (sn_callV (pc := 24) (N := M_W_look) dX11_where_24 (cal_W_look_1 G) sh_54 rfl tw_578 tw_579 tw_580 tw_10 tw_581 dsc_X10_look rfl (sn_iconst (pc := 27) (v := 0) dX11_where_27 rfl (sn_istore_n (pc := 28) (i := 3) dX11_where_28 rfl (Nat.le_of_ble_eq_true rfl) (sn_lf (pc := 29) (ln_a (i := 0) (q := 0) (ln_i (i := 2) (fun z0 => (ln_i (i := 3) (fun z1 => (ln_end (o := fun τ => f_X_where_29 z0 z1 τ) (fun _ _ _ e h => s_X_where_29 G z0 z1 _ _ _ e h)))))))))))))))) (sn_aload_n (pc := 9) (i := 0) dX11_where_9 rfl (sn_iconst (pc := 10) (v := (-1)) dX11_where_10 (show Int32.ofInt (-1) = (-1) by decide) (sn_callV (pc := 11) (N := M_X_refuse) dX11_where_11 (cal_X_refuse G) sh_0 rfl tw_251 tw_253 tp_0 tw_1 tw_254 dsc_X11_refuse rfl (sn_reti (pc := 14) (R := fun x τ => (some ((x, τ)))) dX11_where_14 rfl (fun _ _ _ _ e h => by cases e; exact h))))))))))) _ _ _ _ _ ((eq_X_where x1 x2 σ).symm.trans e) hr
noncomputable def cF_X_where : am_Fn := fun _ args σ K => match args with
  | [.ref q0, .int z1, .int z2] => match Nat.beq q0 0 with
    | true => (f_X_where z1 z2 σ).bind (fun p => K (some (.int p.1)) p.2)
    | _ => none
  | _ => none
theorem cal_X_where (G : am_G) : am_Cal G M_X_where cF_X_where := by
  intro ρ args σ K r e
  unfold cF_X_where at e
  split at e
  · split at e
    · rename_i hq0
      obtain ⟨p, h1, h2⟩ := am_bind_some e
      rw [Nat.eq_of_beq_eq_true hq0]
      exact ⟨some (.int p.1), p.2, am_Met.of rfl (Nat.le_of_ble_eq_true rfl) (s_X_where G _ _ σ p _ h1 ⟨rfl, rfl⟩), h2⟩
    · cases e
  · cases e
abbrev M_X_refuseLong : am_MD := (yX11_refuseLong, cX11_refuseLong, 2, (some .long), 1, 22)
theorem dX11_refuseLong_0 : decode cX11_refuseLong 0 = .ok (.ldc2_w 294, 3) := by decide +kernel
theorem dX11_refuseLong_3 : decode cX11_refuseLong 3 = .ok (.aload_n 0, 1) := by decide +kernel
theorem dX11_refuseLong_4 : decode cX11_refuseLong 4 = .ok (.iload_n 1, 1) := by decide +kernel
theorem dX11_refuseLong_5 : decode cX11_refuseLong 5 = .ok (.invokevirtual 55, 3) := by decide +kernel
theorem dX11_refuseLong_8 : decode cX11_refuseLong 8 = .ok (.i2l, 1) := by decide +kernel
theorem dX11_refuseLong_9 : decode cX11_refuseLong 9 = .ok (.lsub, 1) := by decide +kernel
theorem dX11_refuseLong_10 : decode cX11_refuseLong 10 = .ok (.lreturn, 1) := by decide +kernel
noncomputable def g_X_refuseLong (x1 : Int32) (σ : am_St) : Option (Int64 × am_St) :=
  (f_X_refuse x1 σ).bind (fun p1 =>
    some ((4000000000000000000 - p1.1.toInt64, p1.2)))
noncomputable def f_X_refuseLong (x1 : Int32) (σ : am_St) : Option (Int64 × am_St) := am_lk (g_X_refuseLong x1 σ)
theorem eq_X_refuseLong (x1 : Int32) (σ : am_St) : f_X_refuseLong x1 σ = g_X_refuseLong x1 σ := am_lk_eq _
set_option maxRecDepth 100000 in
set_option maxHeartbeats 4000000 in
theorem s_X_refuseLong (G : am_G) (x1 : Int32) (σ : am_St) (r : Int64 × am_St) (Q : am_AQ) (e : f_X_refuseLong x1 σ = some r) (hr : am_Pl r Q) : am_AW G M_X_refuseLong 0 [(0, .ref 0), (1, .int x1)] [] σ Q :=
  (show am_Snd G M_X_refuseLong 0 am_Pl _ from (sn_ldc2 (pc := 0) dX11_refuseLong_0 tw_603 (sn_aload_n (pc := 3) (i := 0) dX11_refuseLong_3 rfl (sn_iload_n (pc := 4) (i := 1) dX11_refuseLong_4 rfl (sn_callV (pc := 5) (N := M_X_refuse) dX11_refuseLong_5 (cal_X_refuse G) sh_0 rfl tw_251 tw_253 tp_0 tw_1 tw_254 dsc_X11_refuse rfl (sn_i2l (pc := 8) dX11_refuseLong_8 (sn_lsub (pc := 9) dX11_refuseLong_9 (sn_retl (pc := 10) (R := fun x τ => (some ((x, τ)))) dX11_refuseLong_10 rfl (fun _ _ _ _ e h => by cases e; exact h))))))))) _ _ _ _ _ ((eq_X_refuseLong x1 σ).symm.trans e) hr
noncomputable def cF_X_refuseLong : am_Fn := fun _ args σ K => match args with
  | [.ref q0, .int z1] => match Nat.beq q0 0 with
    | true => (f_X_refuseLong z1 σ).bind (fun p => K (some (.long p.1)) p.2)
    | _ => none
  | _ => none
theorem cal_X_refuseLong (G : am_G) : am_Cal G M_X_refuseLong cF_X_refuseLong := by
  intro ρ args σ K r e
  unfold cF_X_refuseLong at e
  split at e
  · split at e
    · rename_i hq0
      obtain ⟨p, h1, h2⟩ := am_bind_some e
      rw [Nat.eq_of_beq_eq_true hq0]
      exact ⟨some (.long p.1), p.2, am_Met.of rfl (Nat.le_of_ble_eq_true rfl) (s_X_refuseLong G _ σ p _ h1 ⟨rfl, rfl⟩), h2⟩
    · cases e
  · cases e
abbrev M_O_weightOf : am_MD := (yX6_weightOf, cX6_weightOf, 5, (some .long), 3, 64)
theorem dX6_weightOf_0 : decode cX6_weightOf 0 = .ok (.iload_n 2, 1) := by decide +kernel
theorem dX6_weightOf_1 : decode cX6_weightOf 1 = .ok (.ifCond .lt 17, 3) := by decide +kernel
theorem dX6_weightOf_4 : decode cX6_weightOf 4 = .ok (.iload_n 2, 1) := by decide +kernel
theorem dX6_weightOf_5 : decode cX6_weightOf 5 = .ok (.iconst 4, 1) := by decide +kernel
theorem dX6_weightOf_6 : decode cX6_weightOf 6 = .ok (.if_icmp .ge 12, 3) := by decide +kernel
theorem dX6_weightOf_9 : decode cX6_weightOf 9 = .ok (.aload_n 0, 1) := by decide +kernel
theorem dX6_weightOf_10 : decode cX6_weightOf 10 = .ok (.getfield 15, 3) := by decide +kernel
theorem dX6_weightOf_13 : decode cX6_weightOf 13 = .ok (.iload_n 2, 1) := by decide +kernel
theorem dX6_weightOf_14 : decode cX6_weightOf 14 = .ok (.iaload, 1) := by decide +kernel
theorem dX6_weightOf_15 : decode cX6_weightOf 15 = .ok (.ifCond .ne 5, 3) := by decide +kernel
theorem dX6_weightOf_18 : decode cX6_weightOf 18 = .ok (.lconst 0, 1) := by decide +kernel
theorem dX6_weightOf_19 : decode cX6_weightOf 19 = .ok (.lreturn, 1) := by decide +kernel
theorem dX6_weightOf_20 : decode cX6_weightOf 20 = .ok (.lload_n 3, 1) := by decide +kernel
theorem dX6_weightOf_21 : decode cX6_weightOf 21 = .ok (.aload_n 0, 1) := by decide +kernel
theorem dX6_weightOf_22 : decode cX6_weightOf 22 = .ok (.getfield 15, 3) := by decide +kernel
theorem dX6_weightOf_25 : decode cX6_weightOf 25 = .ok (.iload_n 2, 1) := by decide +kernel
theorem dX6_weightOf_26 : decode cX6_weightOf 26 = .ok (.iaload, 1) := by decide +kernel
theorem dX6_weightOf_27 : decode cX6_weightOf 27 = .ok (.i2l, 1) := by decide +kernel
theorem dX6_weightOf_28 : decode cX6_weightOf 28 = .ok (.ldiv, 1) := by decide +kernel
theorem dX6_weightOf_29 : decode cX6_weightOf 29 = .ok (.aload_n 0, 1) := by decide +kernel
theorem dX6_weightOf_30 : decode cX6_weightOf 30 = .ok (.getfield 19, 3) := by decide +kernel
theorem dX6_weightOf_33 : decode cX6_weightOf 33 = .ok (.iload_n 2, 1) := by decide +kernel
theorem dX6_weightOf_34 : decode cX6_weightOf 34 = .ok (.iaload, 1) := by decide +kernel
theorem dX6_weightOf_35 : decode cX6_weightOf 35 = .ok (.i2l, 1) := by decide +kernel
theorem dX6_weightOf_36 : decode cX6_weightOf 36 = .ok (.lmul, 1) := by decide +kernel
theorem dX6_weightOf_37 : decode cX6_weightOf 37 = .ok (.aload_n 1, 1) := by decide +kernel
theorem dX6_weightOf_38 : decode cX6_weightOf 38 = .ok (.iload_n 2, 1) := by decide +kernel
theorem dX6_weightOf_39 : decode cX6_weightOf 39 = .ok (.invokevirtual 65, 3) := by decide +kernel
theorem dX6_weightOf_42 : decode cX6_weightOf 42 = .ok (.i2l, 1) := by decide +kernel
theorem dX6_weightOf_43 : decode cX6_weightOf 43 = .ok (.lmul, 1) := by decide +kernel
theorem dX6_weightOf_44 : decode cX6_weightOf 44 = .ok (.lreturn, 1) := by decide +kernel
noncomputable def g_O_weightOf_1 (x2 : Int32) (x3 : Int64) (σ : am_St) : Option (Int64 × am_St) :=
  if x2 < 0 then
    some ((0, σ))
  else
    if 4 ≤ x2 then
      some ((0, σ))
    else
      if am_ix x2 4 = true then
        if (σ.1 62 x2.toNatClampNeg) = 0 then
          some ((0, σ))
        else
          if am_ix x2 4 = true then
            if (σ.1 62 x2.toNatClampNeg).toInt64 = 0 then none else
              if am_ix x2 4 = true then
                (f_H_guiltOf_1 x2 σ).bind (fun p1 =>
                  some ((((x3 / ((σ.1 62 x2.toNatClampNeg).toInt64)) * ((σ.1 63 x2.toNatClampNeg).toInt64)) * p1.1.toInt64, p1.2)))
              else none
          else none
      else none
noncomputable def f_O_weightOf_1 (x2 : Int32) (x3 : Int64) (σ : am_St) : Option (Int64 × am_St) := am_lk (g_O_weightOf_1 x2 x3 σ)
theorem eq_O_weightOf_1 (x2 : Int32) (x3 : Int64) (σ : am_St) : f_O_weightOf_1 x2 x3 σ = g_O_weightOf_1 x2 x3 σ := am_lk_eq _
set_option maxRecDepth 100000 in
set_option maxHeartbeats 4000000 in
theorem s_O_weightOf_1 (G : am_G) (x2 : Int32) (x3 : Int64) (σ : am_St) (r : Int64 × am_St) (Q : am_AQ) (e : f_O_weightOf_1 x2 x3 σ = some r) (hr : am_Pl r Q) : am_AW G M_O_weightOf 0 [(0, .ref 60), (1, .ref 1), (2, .int x2), (3, .long x3)] [] σ Q :=
  (show am_Snd G M_O_weightOf 0 am_Pl _ from (sn_iload_n (pc := 0) (i := 2) dX6_weightOf_0 rfl (sn_if_lt (pc := 1) (tgt := 18) dX6_weightOf_1 rfl (sn_lconst (pc := 18) (v := 0) dX6_weightOf_18 rfl (sn_retl (pc := 19) (R := fun x τ => (some ((x, τ)))) dX6_weightOf_19 rfl (fun _ _ _ _ e h => by cases e; exact h))) (sn_iload_n (pc := 4) (i := 2) dX6_weightOf_4 rfl (sn_iconst (pc := 5) (v := 4) dX6_weightOf_5 rfl (sn_icmp_ge (pc := 6) (tgt := 18) dX6_weightOf_6 rfl (sn_lconst (pc := 18) (v := 0) dX6_weightOf_18 rfl (sn_retl (pc := 19) (R := fun x τ => (some ((x, τ)))) dX6_weightOf_19 rfl (fun _ _ _ _ e h => by cases e; exact h))) (sn_aload_n (pc := 9) (i := 0) dX6_weightOf_9 rfl (sn_gR (r0 := 62) (pc := 10) (h := 60) (f := 1) dX6_weightOf_10 am_CL_6 sh_60 rfl (Nat.le_of_ble_eq_true rfl) tw_206 (sn_iload_n (pc := 13) (i := 2) dX6_weightOf_13 rfl (sn_aI (pc := 14) (h := 62) dX6_weightOf_14 sh_62 (sn_if_ne (pc := 15) (tgt := 20) dX6_weightOf_15 rfl (sn_lload_n (pc := 20) (i := 3) dX6_weightOf_20 rfl (sn_aload_n (pc := 21) (i := 0) dX6_weightOf_21 rfl (sn_gR (r0 := 62) (pc := 22) (h := 60) (f := 1) dX6_weightOf_22 am_CL_6 sh_60 rfl (Nat.le_of_ble_eq_true rfl) tw_206 (sn_iload_n (pc := 25) (i := 2) dX6_weightOf_25 rfl (sn_aI (pc := 26) (h := 62) dX6_weightOf_26 sh_62 (sn_i2l (pc := 27) dX6_weightOf_27 (sn_ldiv (pc := 28) dX6_weightOf_28 (sn_aload_n (pc := 29) (i := 0) dX6_weightOf_29 rfl (sn_gR (r0 := 63) (pc := 30) (h := 60) (f := 2) dX6_weightOf_30 am_CL_6 sh_60 rfl (Nat.le_of_ble_eq_true rfl) tw_207 (sn_iload_n (pc := 33) (i := 2) dX6_weightOf_33 rfl (sn_aI (pc := 34) (h := 63) dX6_weightOf_34 sh_63 (sn_i2l (pc := 35) dX6_weightOf_35 (sn_lmul (pc := 36) dX6_weightOf_36 (sn_aload_n (pc := 37) (i := 1) dX6_weightOf_37 rfl (sn_iload_n (pc := 38) (i := 2) dX6_weightOf_38 rfl (sn_callV (pc := 39) (N := M_H_guiltOf) dX6_weightOf_39 (cal_H_guiltOf_1 G) sh_1 rfl tw_617 tw_452 tw_453 tw_2 tw_454 dsc_X3_guiltOf rfl (sn_i2l (pc := 42) dX6_weightOf_42 (sn_lmul (pc := 43) dX6_weightOf_43 (sn_retl (pc := 44) (R := fun x τ => (some ((x, τ)))) dX6_weightOf_44 rfl (fun _ _ _ _ e h => by cases e; exact h)))))))))))))))))))) (sn_lconst (pc := 18) (v := 0) dX6_weightOf_18 rfl (sn_retl (pc := 19) (R := fun x τ => (some ((x, τ)))) dX6_weightOf_19 rfl (fun _ _ _ _ e h => by cases e; exact h)))))))))))))) _ _ _ _ _ ((eq_O_weightOf_1 x2 x3 σ).symm.trans e) hr
noncomputable def cF_O_weightOf_1 : am_Fn := fun _ args σ K => match args with
  | [.ref q0, .ref q1, .int z2, .long z3] => match Nat.beq q0 60, Nat.beq q1 1 with
    | true, true => (f_O_weightOf_1 z2 z3 σ).bind (fun p => K (some (.long p.1)) p.2)
    | _, _ => none
  | _ => none
theorem cal_O_weightOf_1 (G : am_G) : am_Cal G M_O_weightOf cF_O_weightOf_1 := by
  intro ρ args σ K r e
  unfold cF_O_weightOf_1 at e
  split at e
  · split at e
    · rename_i hq0 hq1
      obtain ⟨p, h1, h2⟩ := am_bind_some e
      rw [Nat.eq_of_beq_eq_true hq0]
      rw [Nat.eq_of_beq_eq_true hq1]
      exact ⟨some (.long p.1), p.2, am_Met.of rfl (Nat.le_of_ble_eq_true rfl) (s_O_weightOf_1 G _ _ σ p _ h1 ⟨rfl, rfl⟩), h2⟩
    · cases e
  · cases e
abbrev M_O_weigh : am_MD := (yX6_weigh, cX6_weigh, 6, none, 4, 88)
theorem dX6_weigh_0 : decode cX6_weigh 0 = .ok (.lconst 1, 1) := by decide +kernel
theorem dX6_weigh_1 : decode cX6_weigh 1 = .ok (.lstore_n 3, 1) := by decide +kernel
theorem dX6_weigh_2 : decode cX6_weigh 2 = .ok (.iconst 0, 1) := by decide +kernel
theorem dX6_weigh_3 : decode cX6_weigh 3 = .ok (.istore 5, 2) := by decide +kernel
theorem dX6_weigh_5 : decode cX6_weigh 5 = .ok (.iload 5, 2) := by decide +kernel
theorem dX6_weigh_7 : decode cX6_weigh 7 = .ok (.iconst 4, 1) := by decide +kernel
theorem dX6_weigh_8 : decode cX6_weigh 8 = .ok (.if_icmp .ge 86, 3) := by decide +kernel
theorem dX6_weigh_11 : decode cX6_weigh 11 = .ok (.aload_n 0, 1) := by decide +kernel
theorem dX6_weigh_12 : decode cX6_weigh 12 = .ok (.getfield 15, 3) := by decide +kernel
theorem dX6_weigh_15 : decode cX6_weigh 15 = .ok (.iload 5, 2) := by decide +kernel
theorem dX6_weigh_17 : decode cX6_weigh 17 = .ok (.iconst 0, 1) := by decide +kernel
theorem dX6_weigh_18 : decode cX6_weigh 18 = .ok (.iastore, 1) := by decide +kernel
theorem dX6_weigh_19 : decode cX6_weigh 19 = .ok (.aload_n 0, 1) := by decide +kernel
theorem dX6_weigh_20 : decode cX6_weigh 20 = .ok (.getfield 19, 3) := by decide +kernel
theorem dX6_weigh_23 : decode cX6_weigh 23 = .ok (.iload 5, 2) := by decide +kernel
theorem dX6_weigh_25 : decode cX6_weigh 25 = .ok (.iconst 0, 1) := by decide +kernel
theorem dX6_weigh_26 : decode cX6_weigh 26 = .ok (.iastore, 1) := by decide +kernel
theorem dX6_weigh_27 : decode cX6_weigh 27 = .ok (.aload_n 1, 1) := by decide +kernel
theorem dX6_weigh_28 : decode cX6_weigh 28 = .ok (.iload 5, 2) := by decide +kernel
theorem dX6_weigh_30 : decode cX6_weigh 30 = .ok (.invokevirtual 22, 3) := by decide +kernel
theorem dX6_weigh_33 : decode cX6_weigh 33 = .ok (.ifCond .eq 40, 3) := by decide +kernel
theorem dX6_weigh_36 : decode cX6_weigh 36 = .ok (.aload_n 2, 1) := by decide +kernel
theorem dX6_weigh_37 : decode cX6_weigh 37 = .ok (.aload_n 1, 1) := by decide +kernel
theorem dX6_weigh_38 : decode cX6_weigh 38 = .ok (.iload 5, 2) := by decide +kernel
theorem dX6_weigh_40 : decode cX6_weigh 40 = .ok (.invokevirtual 28, 3) := by decide +kernel
theorem dX6_weigh_43 : decode cX6_weigh 43 = .ok (.aload_n 0, 1) := by decide +kernel
theorem dX6_weigh_44 : decode cX6_weigh 44 = .ok (.getfield 15, 3) := by decide +kernel
theorem dX6_weigh_47 : decode cX6_weigh 47 = .ok (.iload 5, 2) := by decide +kernel
theorem dX6_weigh_49 : decode cX6_weigh 49 = .ok (.aload_n 2, 1) := by decide +kernel
theorem dX6_weigh_50 : decode cX6_weigh 50 = .ok (.invokevirtual 34, 3) := by decide +kernel
theorem dX6_weigh_53 : decode cX6_weigh 53 = .ok (.iastore, 1) := by decide +kernel
theorem dX6_weigh_54 : decode cX6_weigh 54 = .ok (.aload_n 0, 1) := by decide +kernel
theorem dX6_weigh_55 : decode cX6_weigh 55 = .ok (.getfield 19, 3) := by decide +kernel
theorem dX6_weigh_58 : decode cX6_weigh 58 = .ok (.iload 5, 2) := by decide +kernel
theorem dX6_weigh_60 : decode cX6_weigh 60 = .ok (.aload_n 2, 1) := by decide +kernel
theorem dX6_weigh_61 : decode cX6_weigh 61 = .ok (.aload_n 1, 1) := by decide +kernel
theorem dX6_weigh_62 : decode cX6_weigh 62 = .ok (.getfield 37, 3) := by decide +kernel
theorem dX6_weigh_65 : decode cX6_weigh 65 = .ok (.aload_n 1, 1) := by decide +kernel
theorem dX6_weigh_66 : decode cX6_weigh 66 = .ok (.getfield 41, 3) := by decide +kernel
theorem dX6_weigh_69 : decode cX6_weigh 69 = .ok (.invokevirtual 44, 3) := by decide +kernel
theorem dX6_weigh_72 : decode cX6_weigh 72 = .ok (.iastore, 1) := by decide +kernel
theorem dX6_weigh_73 : decode cX6_weigh 73 = .ok (.lload_n 3, 1) := by decide +kernel
theorem dX6_weigh_74 : decode cX6_weigh 74 = .ok (.iconst 1, 1) := by decide +kernel
theorem dX6_weigh_75 : decode cX6_weigh 75 = .ok (.aload_n 0, 1) := by decide +kernel
theorem dX6_weigh_76 : decode cX6_weigh 76 = .ok (.getfield 15, 3) := by decide +kernel
theorem dX6_weigh_79 : decode cX6_weigh 79 = .ok (.iload 5, 2) := by decide +kernel
theorem dX6_weigh_81 : decode cX6_weigh 81 = .ok (.iaload, 1) := by decide +kernel
theorem dX6_weigh_82 : decode cX6_weigh 82 = .ok (.invokestatic 48, 3) := by decide +kernel
theorem dX6_weigh_85 : decode cX6_weigh 85 = .ok (.i2l, 1) := by decide +kernel
theorem dX6_weigh_86 : decode cX6_weigh 86 = .ok (.lmul, 1) := by decide +kernel
theorem dX6_weigh_87 : decode cX6_weigh 87 = .ok (.lstore_n 3, 1) := by decide +kernel
theorem dX6_weigh_88 : decode cX6_weigh 88 = .ok (.iinc 5 1, 3) := by decide +kernel
theorem dX6_weigh_91 : decode cX6_weigh 91 = .ok (.goto (-86), 3) := by decide +kernel
theorem dX6_weigh_94 : decode cX6_weigh 94 = .ok (.aload_n 0, 1) := by decide +kernel
theorem dX6_weigh_95 : decode cX6_weigh 95 = .ok (.lconst 0, 1) := by decide +kernel
theorem dX6_weigh_96 : decode cX6_weigh 96 = .ok (.putfield 53, 3) := by decide +kernel
theorem dX6_weigh_99 : decode cX6_weigh 99 = .ok (.iconst 0, 1) := by decide +kernel
theorem dX6_weigh_100 : decode cX6_weigh 100 = .ok (.istore 5, 2) := by decide +kernel
theorem dX6_weigh_102 : decode cX6_weigh 102 = .ok (.iload 5, 2) := by decide +kernel
theorem dX6_weigh_104 : decode cX6_weigh 104 = .ok (.bipush 7, 2) := by decide +kernel
theorem dX6_weigh_106 : decode cX6_weigh 106 = .ok (.if_icmp .ge 58, 3) := by decide +kernel
theorem dX6_weigh_109 : decode cX6_weigh 109 = .ok (.aload_n 0, 1) := by decide +kernel
theorem dX6_weigh_110 : decode cX6_weigh 110 = .ok (.getfield 9, 3) := by decide +kernel
theorem dX6_weigh_113 : decode cX6_weigh 113 = .ok (.iload 5, 2) := by decide +kernel
theorem dX6_weigh_115 : decode cX6_weigh 115 = .ok (.iload 5, 2) := by decide +kernel
theorem dX6_weigh_117 : decode cX6_weigh 117 = .ok (.iconst 4, 1) := by decide +kernel
theorem dX6_weigh_118 : decode cX6_weigh 118 = .ok (.if_icmp .ge 14, 3) := by decide +kernel
theorem dX6_weigh_121 : decode cX6_weigh 121 = .ok (.aload_n 0, 1) := by decide +kernel
theorem dX6_weigh_122 : decode cX6_weigh 122 = .ok (.aload_n 1, 1) := by decide +kernel
theorem dX6_weigh_123 : decode cX6_weigh 123 = .ok (.iload 5, 2) := by decide +kernel
theorem dX6_weigh_125 : decode cX6_weigh 125 = .ok (.lload_n 3, 1) := by decide +kernel
theorem dX6_weigh_126 : decode cX6_weigh 126 = .ok (.invokevirtual 57, 3) := by decide +kernel
theorem dX6_weigh_129 : decode cX6_weigh 129 = .ok (.goto 12, 3) := by decide +kernel
theorem dX6_weigh_132 : decode cX6_weigh 132 = .ok (.aload_n 1, 1) := by decide +kernel
theorem dX6_weigh_133 : decode cX6_weigh 133 = .ok (.iload 5, 2) := by decide +kernel
theorem dX6_weigh_135 : decode cX6_weigh 135 = .ok (.invokevirtual 61, 3) := by decide +kernel
theorem dX6_weigh_138 : decode cX6_weigh 138 = .ok (.i2l, 1) := by decide +kernel
theorem dX6_weigh_139 : decode cX6_weigh 139 = .ok (.lload_n 3, 1) := by decide +kernel
theorem dX6_weigh_140 : decode cX6_weigh 140 = .ok (.lmul, 1) := by decide +kernel
theorem dX6_weigh_141 : decode cX6_weigh 141 = .ok (.lastore, 1) := by decide +kernel
theorem dX6_weigh_142 : decode cX6_weigh 142 = .ok (.aload_n 0, 1) := by decide +kernel
theorem dX6_weigh_143 : decode cX6_weigh 143 = .ok (.dup, 1) := by decide +kernel
theorem dX6_weigh_144 : decode cX6_weigh 144 = .ok (.getfield 53, 3) := by decide +kernel
theorem dX6_weigh_147 : decode cX6_weigh 147 = .ok (.aload_n 0, 1) := by decide +kernel
theorem dX6_weigh_148 : decode cX6_weigh 148 = .ok (.getfield 9, 3) := by decide +kernel
theorem dX6_weigh_151 : decode cX6_weigh 151 = .ok (.iload 5, 2) := by decide +kernel
theorem dX6_weigh_153 : decode cX6_weigh 153 = .ok (.laload, 1) := by decide +kernel
theorem dX6_weigh_154 : decode cX6_weigh 154 = .ok (.ladd, 1) := by decide +kernel
theorem dX6_weigh_155 : decode cX6_weigh 155 = .ok (.putfield 53, 3) := by decide +kernel
theorem dX6_weigh_158 : decode cX6_weigh 158 = .ok (.iinc 5 1, 3) := by decide +kernel
theorem dX6_weigh_161 : decode cX6_weigh 161 = .ok (.goto (-59), 3) := by decide +kernel
theorem dX6_weigh_164 : decode cX6_weigh 164 = .ok (.return_, 1) := by decide +kernel
abbrev Pl_O_weigh_1_5 (G : am_G) : ((Int64 × Int32 × am_St) ⊕ (am_St)) → am_AQ → Prop := am_PL G M_O_weigh 5 (fun s : Int64 × Int32 × am_St => [(5, .int s.2.1), (3, .long s.1), (2, .ref 54), (1, .ref 1), (0, .ref 60)]) (fun s => s.2.2) am_Pv
abbrev Pl_O_weigh_1_102 (G : am_G) : ((Int64 × Int32 × am_St) ⊕ (am_St)) → am_AQ → Prop := am_PL G M_O_weigh 102 (fun s : Int64 × Int32 × am_St => [(5, .int s.2.1), (3, .long s.1), (1, .ref 1), (0, .ref 60)]) (fun s => s.2.2) am_Pv
noncomputable def g_O_weigh_1_73 (x3 : Int64) (x5 : Int32) (σ : am_St) : Option ((Int64 × Int32 × am_St) ⊕ (am_St)) :=
  if am_ix x5 4 = true then
    let v1 := x3 * ((am_mmax 1 (σ.1 62 x5.toNatClampNeg)).toInt64)
    let v2 := x5 + 1
    some (.inl (v1, v2, σ))
  else none
noncomputable def f_O_weigh_1_73 (x3 : Int64) (x5 : Int32) (σ : am_St) : Option ((Int64 × Int32 × am_St) ⊕ (am_St)) := am_lk (g_O_weigh_1_73 x3 x5 σ)
theorem eq_O_weigh_1_73 (x3 : Int64) (x5 : Int32) (σ : am_St) : f_O_weigh_1_73 x3 x5 σ = g_O_weigh_1_73 x3 x5 σ := am_lk_eq _
set_option maxRecDepth 100000 in
set_option maxHeartbeats 4000000 in
theorem s_O_weigh_1_73 (G : am_G) (x3 : Int64) (x5 : Int32) (σ : am_St) (r : (Int64 × Int32 × am_St) ⊕ (am_St)) (Q : am_AQ) (e : f_O_weigh_1_73 x3 x5 σ = some r) (hr : (Pl_O_weigh_1_5 G) r Q) : am_AW G M_O_weigh 73 [(5, .int x5), (3, .long x3), (2, .ref 54), (1, .ref 1), (0, .ref 60)] [] σ Q :=
  (show am_Snd G M_O_weigh 73 (Pl_O_weigh_1_5 G) _ from (sn_lload_n (pc := 73) (i := 3) dX6_weigh_73 rfl (sn_iconst (pc := 74) (v := 1) dX6_weigh_74 rfl (sn_aload_n (pc := 75) (i := 0) dX6_weigh_75 rfl (sn_gR (r0 := 62) (pc := 76) (h := 60) (f := 1) dX6_weigh_76 am_CL_6 sh_60 rfl (Nat.le_of_ble_eq_true rfl) tw_206 (sn_iload (pc := 79) dX6_weigh_79 (sn_aI (pc := 81) (h := 62) dX6_weigh_81 sh_62 (sn_mmax (pc := 82) dX6_weigh_82 tw_612 tw_514 tw_14 tw_515 rfl (sn_i2l (pc := 85) dX6_weigh_85 (sn_lmul (pc := 86) dX6_weigh_86 (sn_lstore_n (pc := 87) (i := 3) dX6_weigh_87 rfl (Nat.le_of_ble_eq_true rfl) (sn_iinc (pc := 88) (v := 1) dX6_weigh_88 rfl (Nat.le_of_ble_eq_true rfl) (sn_goto (pc := 91) (tgt := 5) dX6_weigh_91 rfl (sn_lf (pc := 5) (ln_a (i := 0) (q := 60) (ln_a (i := 1) (q := 1) (ln_a (i := 2) (q := 54) (ln_l (i := 3) (fun z0 => (ln_i (i := 5) (fun z1 => (ln_end (o := fun τ => (some (.inl (z0, z1, τ)) : Option ((Int64 × Int32 × am_St) ⊕ (am_St)))) (fun _ _ _ e h => by cases e; exact h))))))))))))))))))))))) _ _ _ _ _ ((eq_O_weigh_1_73 x3 x5 σ).symm.trans e) hr
noncomputable def g_O_weigh_1_54 (x3 : Int64) (x5 : Int32) (σ : am_St) : Option ((Int64 × Int32 × am_St) ⊕ (am_St)) :=
  (f_W_through (σ.1 1 4) (σ.1 1 3) σ).bind (fun p1 =>
    if am_ix x5 4 = true then
      let s2 := am_sI p1.2 63 x5.toNatClampNeg p1.1
      f_O_weigh_1_73 x3 x5 s2
    else none)
noncomputable def f_O_weigh_1_54 (x3 : Int64) (x5 : Int32) (σ : am_St) : Option ((Int64 × Int32 × am_St) ⊕ (am_St)) := am_lk (g_O_weigh_1_54 x3 x5 σ)
theorem eq_O_weigh_1_54 (x3 : Int64) (x5 : Int32) (σ : am_St) : f_O_weigh_1_54 x3 x5 σ = g_O_weigh_1_54 x3 x5 σ := am_lk_eq _
set_option maxRecDepth 100000 in
set_option maxHeartbeats 4000000 in
theorem s_O_weigh_1_54 (G : am_G) (x3 : Int64) (x5 : Int32) (σ : am_St) (r : (Int64 × Int32 × am_St) ⊕ (am_St)) (Q : am_AQ) (e : f_O_weigh_1_54 x3 x5 σ = some r) (hr : (Pl_O_weigh_1_5 G) r Q) : am_AW G M_O_weigh 54 [(5, .int x5), (3, .long x3), (2, .ref 54), (1, .ref 1), (0, .ref 60)] [] σ Q :=
  (show am_Snd G M_O_weigh 54 (Pl_O_weigh_1_5 G) _ from (sn_aload_n (pc := 54) (i := 0) dX6_weigh_54 rfl (sn_gR (r0 := 63) (pc := 55) (h := 60) (f := 2) dX6_weigh_55 am_CL_6 sh_60 rfl (Nat.le_of_ble_eq_true rfl) tw_207 (sn_iload (pc := 58) dX6_weigh_58 (sn_aload_n (pc := 60) (i := 2) dX6_weigh_60 rfl (sn_aload_n (pc := 61) (i := 1) dX6_weigh_61 rfl (sn_gI (pc := 62) (h := 1) (f := 4) dX6_weigh_62 am_CL_3 sh_1 rfl (Nat.le_of_ble_eq_true rfl) tw_95 (sn_aload_n (pc := 65) (i := 1) dX6_weigh_65 rfl (sn_gI (pc := 66) (h := 1) (f := 3) dX6_weigh_66 am_CL_3 sh_1 rfl (Nat.le_of_ble_eq_true rfl) tw_89 (sn_callV (pc := 69) (N := M_W_through) dX6_weigh_69 (cal_W_through G) sh_54 rfl tw_611 tw_584 tw_585 tw_10 tw_586 dsc_X10_through rfl (sn_sI (pc := 72) (h := 63) dX6_weigh_72 sh_63 (sn_lf (pc := 73) (ln_a (i := 0) (q := 60) (ln_a (i := 1) (q := 1) (ln_a (i := 2) (q := 54) (ln_l (i := 3) (fun z0 => (ln_i (i := 5) (fun z1 => (ln_end (o := fun τ => f_O_weigh_1_73 z0 z1 τ) (fun _ _ _ e h => s_O_weigh_1_73 G z0 z1 _ _ _ e h))))))))))))))))))))) _ _ _ _ _ ((eq_O_weigh_1_54 x3 x5 σ).symm.trans e) hr
noncomputable def g_O_weigh_1_36 (x3 : Int64) (x5 : Int32) (σ : am_St) : Option ((Int64 × Int32 × am_St) ⊕ (am_St)) :=
  (f_W_look_1 x5 σ).bind (fun p1 =>
    (f_W_all p1).bind (fun p2 =>
      if am_ix x5 4 = true then
        let s3 := am_sI p2.2 62 x5.toNatClampNeg p2.1
        f_O_weigh_1_54 x3 x5 s3
      else none))
noncomputable def f_O_weigh_1_36 (x3 : Int64) (x5 : Int32) (σ : am_St) : Option ((Int64 × Int32 × am_St) ⊕ (am_St)) := am_lk (g_O_weigh_1_36 x3 x5 σ)
theorem eq_O_weigh_1_36 (x3 : Int64) (x5 : Int32) (σ : am_St) : f_O_weigh_1_36 x3 x5 σ = g_O_weigh_1_36 x3 x5 σ := am_lk_eq _
set_option maxRecDepth 100000 in
set_option maxHeartbeats 4000000 in
theorem s_O_weigh_1_36 (G : am_G) (x3 : Int64) (x5 : Int32) (σ : am_St) (r : (Int64 × Int32 × am_St) ⊕ (am_St)) (Q : am_AQ) (e : f_O_weigh_1_36 x3 x5 σ = some r) (hr : (Pl_O_weigh_1_5 G) r Q) : am_AW G M_O_weigh 36 [(5, .int x5), (3, .long x3), (2, .ref 54), (1, .ref 1), (0, .ref 60)] [] σ Q :=
  (show am_Snd G M_O_weigh 36 (Pl_O_weigh_1_5 G) _ from (sn_aload_n (pc := 36) (i := 2) dX6_weigh_36 rfl (sn_aload_n (pc := 37) (i := 1) dX6_weigh_37 rfl (sn_iload (pc := 38) dX6_weigh_38 (sn_callV (pc := 40) (N := M_W_look) dX6_weigh_40 (cal_W_look_1 G) sh_54 rfl tw_609 tw_579 tw_580 tw_10 tw_581 dsc_X10_look rfl (sn_aload_n (pc := 43) (i := 0) dX6_weigh_43 rfl (sn_gR (r0 := 62) (pc := 44) (h := 60) (f := 1) dX6_weigh_44 am_CL_6 sh_60 rfl (Nat.le_of_ble_eq_true rfl) tw_206 (sn_iload (pc := 47) dX6_weigh_47 (sn_aload_n (pc := 49) (i := 2) dX6_weigh_49 rfl (sn_callV (pc := 50) (N := M_W_all) dX6_weigh_50 (cal_W_all G) sh_54 rfl tw_610 tw_373 tw_374 tw_10 tw_375 dsc_X10_all rfl (sn_sI (pc := 53) (h := 62) dX6_weigh_53 sh_62 (sn_lf (pc := 54) (ln_a (i := 0) (q := 60) (ln_a (i := 1) (q := 1) (ln_a (i := 2) (q := 54) (ln_l (i := 3) (fun z0 => (ln_i (i := 5) (fun z1 => (ln_end (o := fun τ => f_O_weigh_1_54 z0 z1 τ) (fun _ _ _ e h => s_O_weigh_1_54 G z0 z1 _ _ _ e h))))))))))))))))))))) _ _ _ _ _ ((eq_O_weigh_1_36 x3 x5 σ).symm.trans e) hr
noncomputable def g_O_weigh_1_141 (x3 : Int64) (x5 : Int32) (y1 : Int32) (y2 : Int64) (σ : am_St) : Option ((Int64 × Int32 × am_St) ⊕ (am_St)) :=
  if am_ix y1 7 = true then
    let s1 := am_sL σ 61 y1.toNatClampNeg y2
    if am_ix x5 7 = true then
      let s2 := am_sL s1 60 3 ((s1.2.1 60 3) + (s1.2.1 61 x5.toNatClampNeg))
      let v3 := x5 + 1
      some (.inl (x3, v3, s2))
    else none
  else none
noncomputable def f_O_weigh_1_141 (x3 : Int64) (x5 : Int32) (y1 : Int32) (y2 : Int64) (σ : am_St) : Option ((Int64 × Int32 × am_St) ⊕ (am_St)) := am_lk (g_O_weigh_1_141 x3 x5 y1 y2 σ)
theorem eq_O_weigh_1_141 (x3 : Int64) (x5 : Int32) (y1 : Int32) (y2 : Int64) (σ : am_St) : f_O_weigh_1_141 x3 x5 y1 y2 σ = g_O_weigh_1_141 x3 x5 y1 y2 σ := am_lk_eq _
set_option maxRecDepth 100000 in
set_option maxHeartbeats 4000000 in
theorem s_O_weigh_1_141 (G : am_G) (x3 : Int64) (x5 : Int32) (y1 : Int32) (y2 : Int64) (σ : am_St) (r : (Int64 × Int32 × am_St) ⊕ (am_St)) (Q : am_AQ) (e : f_O_weigh_1_141 x3 x5 y1 y2 σ = some r) (hr : (Pl_O_weigh_1_102 G) r Q) : am_AW G M_O_weigh 141 [(5, .int x5), (3, .long x3), (1, .ref 1), (0, .ref 60)] [.long y2, .int y1, .ref 61] σ Q :=
  (show am_Snd G M_O_weigh 141 (Pl_O_weigh_1_102 G) _ from (sn_sL (pc := 141) (h := 61) dX6_weigh_141 sh_61 (sn_aload_n (pc := 142) (i := 0) dX6_weigh_142 rfl (sn_dup (pc := 143) dX6_weigh_143 (sn_gL (pc := 144) (h := 60) (f := 3) dX6_weigh_144 am_CL_6 sh_60 rfl (Nat.le_of_ble_eq_true rfl) tw_208 (sn_aload_n (pc := 147) (i := 0) dX6_weigh_147 rfl (sn_gR (r0 := 61) (pc := 148) (h := 60) (f := 0) dX6_weigh_148 am_CL_6 sh_60 rfl (Nat.le_of_ble_eq_true rfl) tw_205 (sn_iload (pc := 151) dX6_weigh_151 (sn_aL (pc := 153) (h := 61) dX6_weigh_153 sh_61 (sn_ladd (pc := 154) dX6_weigh_154 (sn_pL (pc := 155) (h := 60) (f := 3) dX6_weigh_155 am_CL_6 sh_60 rfl (Nat.le_of_ble_eq_true rfl) tw_208 rfl rfl (sn_iinc (pc := 158) (v := 1) dX6_weigh_158 rfl (Nat.le_of_ble_eq_true rfl) (sn_goto (pc := 161) (tgt := 102) dX6_weigh_161 rfl (sn_lf (pc := 102) (ln_a (i := 0) (q := 60) (ln_a (i := 1) (q := 1) (ln_l (i := 3) (fun z0 => (ln_i (i := 5) (fun z1 => (ln_end (o := fun τ => (some (.inl (z0, z1, τ)) : Option ((Int64 × Int32 × am_St) ⊕ (am_St)))) (fun _ _ _ e h => by cases e; exact h)))))))))))))))))))))) _ _ _ _ _ ((eq_O_weigh_1_141 x3 x5 y1 y2 σ).symm.trans e) hr
noncomputable def b_O_weigh_1_102 (x3 : Int64) (x5 : Int32) (σ : am_St) : Option ((Int64 × Int32 × am_St) ⊕ (am_St)) :=
  if 7 ≤ x5 then
    some (.inr (σ))
  else
    if 4 ≤ x5 then
      (f_H_chanceOf_1 x5 σ).bind (fun p1 =>
        f_O_weigh_1_141 x3 x5 x5 (p1.1.toInt64 * x3) p1.2)
    else
      (f_O_weightOf_1 x5 x3 σ).bind (fun p2 =>
        f_O_weigh_1_141 x3 x5 x5 p2.1 p2.2)
noncomputable def f_O_weigh_1_102 (x3 : Int64) (x5 : Int32) (σ : am_St) : Option (am_St) := am_lp (fun s : Int64 × Int32 × am_St => b_O_weigh_1_102 s.1 s.2.1 s.2.2) (x3, x5, σ)
set_option maxRecDepth 100000 in
set_option maxHeartbeats 4000000 in
theorem sb_O_weigh_1_102 (G : am_G) (x3 : Int64) (x5 : Int32) (σ : am_St) (r : (Int64 × Int32 × am_St) ⊕ (am_St)) (Q : am_AQ) (e : b_O_weigh_1_102 x3 x5 σ = some r) (hr : Pl_O_weigh_1_102 G r Q) : am_AW G M_O_weigh 102 [(5, .int x5), (3, .long x3), (1, .ref 1), (0, .ref 60)] [] σ Q :=
  (show am_Snd G M_O_weigh 102 (Pl_O_weigh_1_102 G) _ from (sn_iload (pc := 102) dX6_weigh_102 (sn_bipush (pc := 104) (v := 7) dX6_weigh_104 rfl (sn_icmp_ge (pc := 106) (tgt := 164) dX6_weigh_106 rfl (sn_retv (pc := 164) (R := fun τ => (some (.inr (τ)) : Option ((Int64 × Int32 × am_St) ⊕ (am_St)))) dX6_weigh_164 rfl (fun _ _ _ e h => by cases e; exact h)) (sn_aload_n (pc := 109) (i := 0) dX6_weigh_109 rfl (sn_gR (r0 := 61) (pc := 110) (h := 60) (f := 0) dX6_weigh_110 am_CL_6 sh_60 rfl (Nat.le_of_ble_eq_true rfl) tw_205 (sn_iload (pc := 113) dX6_weigh_113 (sn_iload (pc := 115) dX6_weigh_115 (sn_iconst (pc := 117) (v := 4) dX6_weigh_117 rfl (sn_icmp_ge (pc := 118) (tgt := 132) dX6_weigh_118 rfl (sn_aload_n (pc := 132) (i := 1) dX6_weigh_132 rfl (sn_iload (pc := 133) dX6_weigh_133 (sn_callV (pc := 135) (N := M_H_chanceOf) dX6_weigh_135 (cal_H_chanceOf_1 G) sh_1 rfl tw_618 tw_567 tw_568 tw_2 tw_569 dsc_X3_chanceOf rfl (sn_i2l (pc := 138) dX6_weigh_138 (sn_lload_n (pc := 139) (i := 3) dX6_weigh_139 rfl (sn_lmul (pc := 140) dX6_weigh_140 (sn_lf (pc := 141) (ln_a (i := 0) (q := 60) (ln_a (i := 1) (q := 1) (ln_l (i := 3) (fun z0 => (ln_i (i := 5) (fun z1 => (ln_sl (fun w2 => (ln_si (fun w1 => (ln_sa (q := 61) (ln_end (o := fun τ => f_O_weigh_1_141 z0 z1 w1 w2 τ) (fun _ _ _ e h => s_O_weigh_1_141 G z0 z1 w1 w2 _ _ _ e h)))))))))))))))))))) (sn_aload_n (pc := 121) (i := 0) dX6_weigh_121 rfl (sn_aload_n (pc := 122) (i := 1) dX6_weigh_122 rfl (sn_iload (pc := 123) dX6_weigh_123 (sn_lload_n (pc := 125) (i := 3) dX6_weigh_125 rfl (sn_callV (pc := 126) (N := M_O_weightOf) dX6_weigh_126 (cal_O_weightOf_1 G) sh_60 rfl tw_613 tw_615 tp_18 tw_11 tw_616 dsc_X6_weightOf rfl (sn_goto (pc := 129) (tgt := 141) dX6_weigh_129 rfl (sn_lf (pc := 141) (ln_a (i := 0) (q := 60) (ln_a (i := 1) (q := 1) (ln_l (i := 3) (fun z0 => (ln_i (i := 5) (fun z1 => (ln_sl (fun w2 => (ln_si (fun w1 => (ln_sa (q := 61) (ln_end (o := fun τ => f_O_weigh_1_141 z0 z1 w1 w2 τ) (fun _ _ _ e h => s_O_weigh_1_141 G z0 z1 w1 w2 _ _ _ e h)))))))))))))))))))))))))))))) _ _ _ _ _ e hr
theorem s_O_weigh_1_102 (G : am_G) (x3 : Int64) (x5 : Int32) (σ : am_St) (r : am_St) (Q : am_AQ) (e : f_O_weigh_1_102 x3 x5 σ = some r) (hr : am_Pv r Q) : am_AW G M_O_weigh 102 [(5, .int x5), (3, .long x3), (1, .ref 1), (0, .ref 60)] [] σ Q :=
  am_loop (P := am_Pv) (L := fun s : Int64 × Int32 × am_St => [(5, .int s.2.1), (3, .long s.1), (1, .ref 1), (0, .ref 60)]) (g := fun s => s.2.2) (fun s o Q e hr => sb_O_weigh_1_102 G s.1 s.2.1 s.2.2 o Q e hr) (x3, x5, σ) r Q e hr
noncomputable def b_O_weigh_1_5 (x3 : Int64) (x5 : Int32) (σ : am_St) : Option ((Int64 × Int32 × am_St) ⊕ (am_St)) :=
  if 4 ≤ x5 then
    let s1 := am_sL σ 60 3 0
    (f_O_weigh_1_102 x3 0 s1).map (fun r => .inr r)
  else
    if am_ix x5 4 = true then
      let s2 := am_sI σ 62 x5.toNatClampNeg 0
      if am_ix x5 4 = true then
        let s3 := am_sI s2 63 x5.toNatClampNeg 0
        (f_H_hasChild_1 x5 s3).bind (fun p4 =>
          if p4.1 = 0 then
            f_O_weigh_1_73 x3 x5 p4.2
          else
            f_O_weigh_1_36 x3 x5 p4.2)
      else none
    else none
noncomputable def f_O_weigh_1_5 (x3 : Int64) (x5 : Int32) (σ : am_St) : Option (am_St) := am_lp (fun s : Int64 × Int32 × am_St => b_O_weigh_1_5 s.1 s.2.1 s.2.2) (x3, x5, σ)
set_option maxRecDepth 100000 in
set_option maxHeartbeats 4000000 in
theorem sb_O_weigh_1_5 (G : am_G) (x3 : Int64) (x5 : Int32) (σ : am_St) (r : (Int64 × Int32 × am_St) ⊕ (am_St)) (Q : am_AQ) (e : b_O_weigh_1_5 x3 x5 σ = some r) (hr : Pl_O_weigh_1_5 G r Q) : am_AW G M_O_weigh 5 [(5, .int x5), (3, .long x3), (2, .ref 54), (1, .ref 1), (0, .ref 60)] [] σ Q :=
  (show am_Snd G M_O_weigh 5 (Pl_O_weigh_1_5 G) _ from (sn_iload (pc := 5) dX6_weigh_5 (sn_iconst (pc := 7) (v := 4) dX6_weigh_7 rfl (sn_icmp_ge (pc := 8) (tgt := 94) dX6_weigh_8 rfl (sn_aload_n (pc := 94) (i := 0) dX6_weigh_94 rfl (sn_lconst (pc := 95) (v := 0) dX6_weigh_95 rfl (sn_pL (pc := 96) (h := 60) (f := 3) dX6_weigh_96 am_CL_6 sh_60 rfl (Nat.le_of_ble_eq_true rfl) tw_208 rfl rfl (sn_iconst (pc := 99) (v := 0) dX6_weigh_99 rfl (sn_istore (pc := 100) dX6_weigh_100 (Nat.le_of_ble_eq_true rfl) (sn_lf (pc := 102) (ln_a (i := 0) (q := 60) (ln_a (i := 1) (q := 1) (ln_l (i := 3) (fun z0 => (ln_i (i := 5) (fun z1 => (ln_end (o := fun τ => ((f_O_weigh_1_102 z0 z1 τ).map (fun r => .inr r) : Option ((Int64 × Int32 × am_St) ⊕ (am_St)))) (fun _ _ _ e h => by obtain ⟨r9, e9, rfl⟩ := am_map_some e; exact s_O_weigh_1_102 G z0 z1 _ _ _ e9 h)))))))))))))) (sn_aload_n (pc := 11) (i := 0) dX6_weigh_11 rfl (sn_gR (r0 := 62) (pc := 12) (h := 60) (f := 1) dX6_weigh_12 am_CL_6 sh_60 rfl (Nat.le_of_ble_eq_true rfl) tw_206 (sn_iload (pc := 15) dX6_weigh_15 (sn_iconst (pc := 17) (v := 0) dX6_weigh_17 rfl (sn_sI (pc := 18) (h := 62) dX6_weigh_18 sh_62 (sn_aload_n (pc := 19) (i := 0) dX6_weigh_19 rfl (sn_gR (r0 := 63) (pc := 20) (h := 60) (f := 2) dX6_weigh_20 am_CL_6 sh_60 rfl (Nat.le_of_ble_eq_true rfl) tw_207 (sn_iload (pc := 23) dX6_weigh_23 (sn_iconst (pc := 25) (v := 0) dX6_weigh_25 rfl (sn_sI (pc := 26) (h := 63) dX6_weigh_26 sh_63 (sn_aload_n (pc := 27) (i := 1) dX6_weigh_27 rfl (sn_iload (pc := 28) dX6_weigh_28 (sn_callV (pc := 30) (N := M_H_hasChild) dX6_weigh_30 (cal_H_hasChild_1 G) sh_1 rfl tw_608 tw_385 tw_386 tw_2 tw_387 dsc_X3_hasChild rfl (sn_if_eq (pc := 33) (tgt := 73) dX6_weigh_33 rfl (sn_lf (pc := 73) (ln_a (i := 0) (q := 60) (ln_a (i := 1) (q := 1) (ln_a (i := 2) (q := 54) (ln_l (i := 3) (fun z0 => (ln_i (i := 5) (fun z1 => (ln_end (o := fun τ => f_O_weigh_1_73 z0 z1 τ) (fun _ _ _ e h => s_O_weigh_1_73 G z0 z1 _ _ _ e h)))))))))) (sn_lf (pc := 36) (ln_a (i := 0) (q := 60) (ln_a (i := 1) (q := 1) (ln_a (i := 2) (q := 54) (ln_l (i := 3) (fun z0 => (ln_i (i := 5) (fun z1 => (ln_end (o := fun τ => f_O_weigh_1_36 z0 z1 τ) (fun _ _ _ e h => s_O_weigh_1_36 G z0 z1 _ _ _ e h)))))))))))))))))))))))))))) _ _ _ _ _ e hr
theorem s_O_weigh_1_5 (G : am_G) (x3 : Int64) (x5 : Int32) (σ : am_St) (r : am_St) (Q : am_AQ) (e : f_O_weigh_1_5 x3 x5 σ = some r) (hr : am_Pv r Q) : am_AW G M_O_weigh 5 [(5, .int x5), (3, .long x3), (2, .ref 54), (1, .ref 1), (0, .ref 60)] [] σ Q :=
  am_loop (P := am_Pv) (L := fun s : Int64 × Int32 × am_St => [(5, .int s.2.1), (3, .long s.1), (2, .ref 54), (1, .ref 1), (0, .ref 60)]) (g := fun s => s.2.2) (fun s o Q e hr => sb_O_weigh_1_5 G s.1 s.2.1 s.2.2 o Q e hr) (x3, x5, σ) r Q e hr
noncomputable def g_O_weigh_1 (σ : am_St) : Option (am_St) :=
  f_O_weigh_1_5 1 0 σ
noncomputable def f_O_weigh_1 (σ : am_St) : Option (am_St) := am_lk (g_O_weigh_1  σ)
theorem eq_O_weigh_1 (σ : am_St) : f_O_weigh_1  σ = g_O_weigh_1  σ := am_lk_eq _
set_option maxRecDepth 100000 in
set_option maxHeartbeats 4000000 in
theorem s_O_weigh_1 (G : am_G) (σ : am_St) (r : am_St) (Q : am_AQ) (e : f_O_weigh_1  σ = some r) (hr : am_Pv r Q) : am_AW G M_O_weigh 0 [(0, .ref 60), (1, .ref 1), (2, .ref 54)] [] σ Q :=
  (show am_Snd G M_O_weigh 0 am_Pv _ from (sn_lconst (pc := 0) (v := 1) dX6_weigh_0 rfl (sn_lstore_n (pc := 1) (i := 3) dX6_weigh_1 rfl (Nat.le_of_ble_eq_true rfl) (sn_iconst (pc := 2) (v := 0) dX6_weigh_2 rfl (sn_istore (pc := 3) dX6_weigh_3 (Nat.le_of_ble_eq_true rfl) (sn_lf (pc := 5) (ln_a (i := 0) (q := 60) (ln_a (i := 1) (q := 1) (ln_a (i := 2) (q := 54) (ln_l (i := 3) (fun z0 => (ln_i (i := 5) (fun z1 => (ln_end (o := fun τ => f_O_weigh_1_5 z0 z1 τ) (fun _ _ _ e h => s_O_weigh_1_5 G z0 z1 _ _ _ e h))))))))))))))) _ _ _ _ _ ((eq_O_weigh_1  σ).symm.trans e) hr
noncomputable def cF_O_weigh_1 : am_Fn := fun _ args σ K => match args with
  | [.ref q0, .ref q1, .ref q2] => match Nat.beq q0 60, Nat.beq q1 1, Nat.beq q2 54 with
    | true, true, true => (f_O_weigh_1 σ).bind (fun p => K none p)
    | _, _, _ => none
  | _ => none
theorem cal_O_weigh_1 (G : am_G) : am_Cal G M_O_weigh cF_O_weigh_1 := by
  intro ρ args σ K r e
  unfold cF_O_weigh_1 at e
  split at e
  · split at e
    · rename_i hq0 hq1 hq2
      obtain ⟨p, h1, h2⟩ := am_bind_some e
      rw [Nat.eq_of_beq_eq_true hq0]
      rw [Nat.eq_of_beq_eq_true hq1]
      rw [Nat.eq_of_beq_eq_true hq2]
      exact ⟨none, p, am_Met.of rfl (Nat.le_of_ble_eq_true rfl) (s_O_weigh_1 G  σ p _ h1 ⟨rfl, rfl⟩), h2⟩
    · cases e
  · cases e
abbrev M_O_inLeastTerms : am_MD := (yX6_inLeastTerms, cX6_inLeastTerms, 12, (some .long), 0, 0)
theorem dX6_inLeastTerms_0 : decode cX6_inLeastTerms 0 = .ok (.lload_n 2, 1) := by decide +kernel
theorem dX6_inLeastTerms_1 : decode cX6_inLeastTerms 1 = .ok (.lconst 0, 1) := by decide +kernel
theorem dX6_inLeastTerms_2 : decode cX6_inLeastTerms 2 = .ok (.lcmp, 1) := by decide +kernel
theorem dX6_inLeastTerms_3 : decode cX6_inLeastTerms 3 = .ok (.ifCond .ne 7, 3) := by decide +kernel
theorem dX6_inLeastTerms_6 : decode cX6_inLeastTerms 6 = .ok (.iload 4, 2) := by decide +kernel
theorem dX6_inLeastTerms_8 : decode cX6_inLeastTerms 8 = .ok (.i2l, 1) := by decide +kernel
theorem dX6_inLeastTerms_9 : decode cX6_inLeastTerms 9 = .ok (.lreturn, 1) := by decide +kernel
theorem dX6_inLeastTerms_10 : decode cX6_inLeastTerms 10 = .ok (.lload_n 0, 1) := by decide +kernel
theorem dX6_inLeastTerms_11 : decode cX6_inLeastTerms 11 = .ok (.lstore 5, 2) := by decide +kernel
theorem dX6_inLeastTerms_13 : decode cX6_inLeastTerms 13 = .ok (.lload_n 2, 1) := by decide +kernel
theorem dX6_inLeastTerms_14 : decode cX6_inLeastTerms 14 = .ok (.lstore 7, 2) := by decide +kernel
theorem dX6_inLeastTerms_16 : decode cX6_inLeastTerms 16 = .ok (.iconst 0, 1) := by decide +kernel
theorem dX6_inLeastTerms_17 : decode cX6_inLeastTerms 17 = .ok (.istore 9, 2) := by decide +kernel
theorem dX6_inLeastTerms_19 : decode cX6_inLeastTerms 19 = .ok (.iload 9, 2) := by decide +kernel
theorem dX6_inLeastTerms_21 : decode cX6_inLeastTerms 21 = .ok (.bipush 100, 2) := by decide +kernel
theorem dX6_inLeastTerms_23 : decode cX6_inLeastTerms 23 = .ok (.if_icmp .ge 31, 3) := by decide +kernel
theorem dX6_inLeastTerms_26 : decode cX6_inLeastTerms 26 = .ok (.lload 5, 2) := by decide +kernel
theorem dX6_inLeastTerms_28 : decode cX6_inLeastTerms 28 = .ok (.lconst 0, 1) := by decide +kernel
theorem dX6_inLeastTerms_29 : decode cX6_inLeastTerms 29 = .ok (.lcmp, 1) := by decide +kernel
theorem dX6_inLeastTerms_30 : decode cX6_inLeastTerms 30 = .ok (.ifCond .eq 24, 3) := by decide +kernel
theorem dX6_inLeastTerms_33 : decode cX6_inLeastTerms 33 = .ok (.lload 7, 2) := by decide +kernel
theorem dX6_inLeastTerms_35 : decode cX6_inLeastTerms 35 = .ok (.lload 5, 2) := by decide +kernel
theorem dX6_inLeastTerms_37 : decode cX6_inLeastTerms 37 = .ok (.lrem, 1) := by decide +kernel
theorem dX6_inLeastTerms_38 : decode cX6_inLeastTerms 38 = .ok (.lstore 10, 2) := by decide +kernel
theorem dX6_inLeastTerms_40 : decode cX6_inLeastTerms 40 = .ok (.lload 5, 2) := by decide +kernel
theorem dX6_inLeastTerms_42 : decode cX6_inLeastTerms 42 = .ok (.lstore 7, 2) := by decide +kernel
theorem dX6_inLeastTerms_44 : decode cX6_inLeastTerms 44 = .ok (.lload 10, 2) := by decide +kernel
theorem dX6_inLeastTerms_46 : decode cX6_inLeastTerms 46 = .ok (.lstore 5, 2) := by decide +kernel
theorem dX6_inLeastTerms_48 : decode cX6_inLeastTerms 48 = .ok (.iinc 9 1, 3) := by decide +kernel
theorem dX6_inLeastTerms_51 : decode cX6_inLeastTerms 51 = .ok (.goto (-32), 3) := by decide +kernel
theorem dX6_inLeastTerms_54 : decode cX6_inLeastTerms 54 = .ok (.lload 7, 2) := by decide +kernel
theorem dX6_inLeastTerms_56 : decode cX6_inLeastTerms 56 = .ok (.lconst 0, 1) := by decide +kernel
theorem dX6_inLeastTerms_57 : decode cX6_inLeastTerms 57 = .ok (.lcmp, 1) := by decide +kernel
theorem dX6_inLeastTerms_58 : decode cX6_inLeastTerms 58 = .ok (.ifCond .ne 7, 3) := by decide +kernel
theorem dX6_inLeastTerms_61 : decode cX6_inLeastTerms 61 = .ok (.iload 4, 2) := by decide +kernel
theorem dX6_inLeastTerms_63 : decode cX6_inLeastTerms 63 = .ok (.i2l, 1) := by decide +kernel
theorem dX6_inLeastTerms_64 : decode cX6_inLeastTerms 64 = .ok (.lreturn, 1) := by decide +kernel
theorem dX6_inLeastTerms_65 : decode cX6_inLeastTerms 65 = .ok (.iload 4, 2) := by decide +kernel
theorem dX6_inLeastTerms_67 : decode cX6_inLeastTerms 67 = .ok (.ifCond .ne 7, 3) := by decide +kernel
theorem dX6_inLeastTerms_70 : decode cX6_inLeastTerms 70 = .ok (.lload_n 0, 1) := by decide +kernel
theorem dX6_inLeastTerms_71 : decode cX6_inLeastTerms 71 = .ok (.goto 4, 3) := by decide +kernel
theorem dX6_inLeastTerms_74 : decode cX6_inLeastTerms 74 = .ok (.lload_n 2, 1) := by decide +kernel
theorem dX6_inLeastTerms_75 : decode cX6_inLeastTerms 75 = .ok (.lload 7, 2) := by decide +kernel
theorem dX6_inLeastTerms_77 : decode cX6_inLeastTerms 77 = .ok (.ldiv, 1) := by decide +kernel
theorem dX6_inLeastTerms_78 : decode cX6_inLeastTerms 78 = .ok (.lreturn, 1) := by decide +kernel
abbrev Pl_O_inLeastTerms_19 (G : am_G) : ((Int64 × Int64 × Int32 × Int64 × Int64 × Int32 × am_St) ⊕ (Int64 × am_St)) → am_AQ → Prop := am_PL G M_O_inLeastTerms 19 (fun s : Int64 × Int64 × Int32 × Int64 × Int64 × Int32 × am_St => [(9, .int s.2.2.2.2.2.1), (7, .long s.2.2.2.2.1), (5, .long s.2.2.2.1), (4, .int s.2.2.1), (2, .long s.2.1), (0, .long s.1)]) (fun s => s.2.2.2.2.2.2) am_Pl
noncomputable def g_O_inLeastTerms_75 (x7 : Int64) (y0 : Int64) (σ : am_St) : Option (Int64 × am_St) :=
  if x7 = 0 then none else
    some ((y0 / x7, σ))
noncomputable def f_O_inLeastTerms_75 (x7 : Int64) (y0 : Int64) (σ : am_St) : Option (Int64 × am_St) := am_lk (g_O_inLeastTerms_75 x7 y0 σ)
theorem eq_O_inLeastTerms_75 (x7 : Int64) (y0 : Int64) (σ : am_St) : f_O_inLeastTerms_75 x7 y0 σ = g_O_inLeastTerms_75 x7 y0 σ := am_lk_eq _
set_option maxRecDepth 100000 in
set_option maxHeartbeats 4000000 in
theorem s_O_inLeastTerms_75 (G : am_G) (x7 : Int64) (y0 : Int64) (σ : am_St) (r : Int64 × am_St) (Q : am_AQ) (e : f_O_inLeastTerms_75 x7 y0 σ = some r) (hr : am_Pl r Q) : am_AW G M_O_inLeastTerms 75 [(7, .long x7)] [.long y0] σ Q :=
  (show am_Snd G M_O_inLeastTerms 75 am_Pl _ from (sn_lload (pc := 75) dX6_inLeastTerms_75 (sn_ldiv (pc := 77) dX6_inLeastTerms_77 (sn_retl (pc := 78) (R := fun x τ => (some ((x, τ)))) dX6_inLeastTerms_78 rfl (fun _ _ _ _ e h => by cases e; exact h))))) _ _ _ _ _ ((eq_O_inLeastTerms_75 x7 y0 σ).symm.trans e) hr
noncomputable def g_O_inLeastTerms_54 (x0 : Int64) (x2 : Int64) (x4 : Int32) (x7 : Int64) (σ : am_St) : Option (Int64 × am_St) :=
  if (lg_cmp x7 0) = 0 then
    some ((x4.toInt64, σ))
  else
    if x4 = 0 then
      f_O_inLeastTerms_75 x7 x0 σ
    else
      f_O_inLeastTerms_75 x7 x2 σ
noncomputable def f_O_inLeastTerms_54 (x0 : Int64) (x2 : Int64) (x4 : Int32) (x7 : Int64) (σ : am_St) : Option (Int64 × am_St) := am_lk (g_O_inLeastTerms_54 x0 x2 x4 x7 σ)
theorem eq_O_inLeastTerms_54 (x0 : Int64) (x2 : Int64) (x4 : Int32) (x7 : Int64) (σ : am_St) : f_O_inLeastTerms_54 x0 x2 x4 x7 σ = g_O_inLeastTerms_54 x0 x2 x4 x7 σ := am_lk_eq _
set_option maxRecDepth 100000 in
set_option maxHeartbeats 4000000 in
theorem s_O_inLeastTerms_54 (G : am_G) (x0 : Int64) (x2 : Int64) (x4 : Int32) (x7 : Int64) (σ : am_St) (r : Int64 × am_St) (Q : am_AQ) (e : f_O_inLeastTerms_54 x0 x2 x4 x7 σ = some r) (hr : am_Pl r Q) : am_AW G M_O_inLeastTerms 54 [(7, .long x7), (4, .int x4), (2, .long x2), (0, .long x0)] [] σ Q :=
  (show am_Snd G M_O_inLeastTerms 54 am_Pl _ from (sn_lload (pc := 54) dX6_inLeastTerms_54 (sn_lconst (pc := 56) (v := 0) dX6_inLeastTerms_56 rfl (sn_lcmp (pc := 57) dX6_inLeastTerms_57 (sn_if_ne (pc := 58) (tgt := 65) dX6_inLeastTerms_58 rfl (sn_iload (pc := 65) dX6_inLeastTerms_65 (sn_if_ne (pc := 67) (tgt := 74) dX6_inLeastTerms_67 rfl (sn_lload_n (pc := 74) (i := 2) dX6_inLeastTerms_74 rfl (sn_lf (pc := 75) (ln_l (i := 7) (fun z0 => (ln_sl (fun w0 => (ln_end (o := fun τ => f_O_inLeastTerms_75 z0 w0 τ) (fun _ _ _ e h => s_O_inLeastTerms_75 G z0 w0 _ _ _ e h)))))))) (sn_lload_n (pc := 70) (i := 0) dX6_inLeastTerms_70 rfl (sn_goto (pc := 71) (tgt := 75) dX6_inLeastTerms_71 rfl (sn_lf (pc := 75) (ln_l (i := 7) (fun z0 => (ln_sl (fun w0 => (ln_end (o := fun τ => f_O_inLeastTerms_75 z0 w0 τ) (fun _ _ _ e h => s_O_inLeastTerms_75 G z0 w0 _ _ _ e h))))))))))) (sn_iload (pc := 61) dX6_inLeastTerms_61 (sn_i2l (pc := 63) dX6_inLeastTerms_63 (sn_retl (pc := 64) (R := fun x τ => (some ((x, τ)))) dX6_inLeastTerms_64 rfl (fun _ _ _ _ e h => by cases e; exact h))))))))) _ _ _ _ _ ((eq_O_inLeastTerms_54 x0 x2 x4 x7 σ).symm.trans e) hr
noncomputable def b_O_inLeastTerms_19 (x0 : Int64) (x2 : Int64) (x4 : Int32) (x5 : Int64) (x7 : Int64) (x9 : Int32) (σ : am_St) : Option ((Int64 × Int64 × Int32 × Int64 × Int64 × Int32 × am_St) ⊕ (Int64 × am_St)) :=
  if 100 ≤ x9 then
    (f_O_inLeastTerms_54 x0 x2 x4 x7 σ).map (fun r => .inr r)
  else
    if (lg_cmp x5 0) = 0 then
      (f_O_inLeastTerms_54 x0 x2 x4 x7 σ).map (fun r => .inr r)
    else
      if x5 = 0 then none else
        let v1 := am_lrem x7 x5
        let v2 := x9 + 1
        some (.inl (x0, x2, x4, v1, x5, v2, σ))
noncomputable def f_O_inLeastTerms_19 (x0 : Int64) (x2 : Int64) (x4 : Int32) (x5 : Int64) (x7 : Int64) (x9 : Int32) (σ : am_St) : Option (Int64 × am_St) := am_lp (fun s : Int64 × Int64 × Int32 × Int64 × Int64 × Int32 × am_St => b_O_inLeastTerms_19 s.1 s.2.1 s.2.2.1 s.2.2.2.1 s.2.2.2.2.1 s.2.2.2.2.2.1 s.2.2.2.2.2.2) (x0, x2, x4, x5, x7, x9, σ)
set_option maxRecDepth 100000 in
set_option maxHeartbeats 4000000 in
theorem sb_O_inLeastTerms_19 (G : am_G) (x0 : Int64) (x2 : Int64) (x4 : Int32) (x5 : Int64) (x7 : Int64) (x9 : Int32) (σ : am_St) (r : (Int64 × Int64 × Int32 × Int64 × Int64 × Int32 × am_St) ⊕ (Int64 × am_St)) (Q : am_AQ) (e : b_O_inLeastTerms_19 x0 x2 x4 x5 x7 x9 σ = some r) (hr : Pl_O_inLeastTerms_19 G r Q) : am_AW G M_O_inLeastTerms 19 [(9, .int x9), (7, .long x7), (5, .long x5), (4, .int x4), (2, .long x2), (0, .long x0)] [] σ Q :=
  (show am_Snd G M_O_inLeastTerms 19 (Pl_O_inLeastTerms_19 G) _ from (sn_iload (pc := 19) dX6_inLeastTerms_19 (sn_bipush (pc := 21) (v := 100) dX6_inLeastTerms_21 rfl (sn_icmp_ge (pc := 23) (tgt := 54) dX6_inLeastTerms_23 rfl (sn_lf (pc := 54) (ln_l (i := 0) (fun z0 => (ln_l (i := 2) (fun z1 => (ln_i (i := 4) (fun z2 => (ln_l (i := 7) (fun z3 => (ln_end (o := fun τ => ((f_O_inLeastTerms_54 z0 z1 z2 z3 τ).map (fun r => .inr r) : Option ((Int64 × Int64 × Int32 × Int64 × Int64 × Int32 × am_St) ⊕ (Int64 × am_St)))) (fun _ _ _ e h => by obtain ⟨r9, e9, rfl⟩ := am_map_some e; exact s_O_inLeastTerms_54 G z0 z1 z2 z3 _ _ _ e9 h))))))))))) (sn_lload (pc := 26) dX6_inLeastTerms_26 (sn_lconst (pc := 28) (v := 0) dX6_inLeastTerms_28 rfl (sn_lcmp (pc := 29) dX6_inLeastTerms_29 (sn_if_eq (pc := 30) (tgt := 54) dX6_inLeastTerms_30 rfl (sn_lf (pc := 54) (ln_l (i := 0) (fun z0 => (ln_l (i := 2) (fun z1 => (ln_i (i := 4) (fun z2 => (ln_l (i := 7) (fun z3 => (ln_end (o := fun τ => ((f_O_inLeastTerms_54 z0 z1 z2 z3 τ).map (fun r => .inr r) : Option ((Int64 × Int64 × Int32 × Int64 × Int64 × Int32 × am_St) ⊕ (Int64 × am_St)))) (fun _ _ _ e h => by obtain ⟨r9, e9, rfl⟩ := am_map_some e; exact s_O_inLeastTerms_54 G z0 z1 z2 z3 _ _ _ e9 h))))))))))) (sn_lload (pc := 33) dX6_inLeastTerms_33 (sn_lload (pc := 35) dX6_inLeastTerms_35 (sn_lrem (pc := 37) dX6_inLeastTerms_37 (sn_lstore (pc := 38) dX6_inLeastTerms_38 (Nat.le_of_ble_eq_true rfl) (sn_lload (pc := 40) dX6_inLeastTerms_40 (sn_lstore (pc := 42) dX6_inLeastTerms_42 (Nat.le_of_ble_eq_true rfl) (sn_lload (pc := 44) dX6_inLeastTerms_44 (sn_lstore (pc := 46) dX6_inLeastTerms_46 (Nat.le_of_ble_eq_true rfl) (sn_iinc (pc := 48) (v := 1) dX6_inLeastTerms_48 rfl (Nat.le_of_ble_eq_true rfl) (sn_goto (pc := 51) (tgt := 19) dX6_inLeastTerms_51 rfl (sn_lf (pc := 19) (ln_l (i := 0) (fun z0 => (ln_l (i := 2) (fun z1 => (ln_i (i := 4) (fun z2 => (ln_l (i := 5) (fun z3 => (ln_l (i := 7) (fun z4 => (ln_i (i := 9) (fun z5 => (ln_end (o := fun τ => (some (.inl (z0, z1, z2, z3, z4, z5, τ)) : Option ((Int64 × Int64 × Int32 × Int64 × Int64 × Int32 × am_St) ⊕ (Int64 × am_St)))) (fun _ _ _ e h => by cases e; exact h))))))))))))))))))))))))))))))))) _ _ _ _ _ e hr
theorem s_O_inLeastTerms_19 (G : am_G) (x0 : Int64) (x2 : Int64) (x4 : Int32) (x5 : Int64) (x7 : Int64) (x9 : Int32) (σ : am_St) (r : Int64 × am_St) (Q : am_AQ) (e : f_O_inLeastTerms_19 x0 x2 x4 x5 x7 x9 σ = some r) (hr : am_Pl r Q) : am_AW G M_O_inLeastTerms 19 [(9, .int x9), (7, .long x7), (5, .long x5), (4, .int x4), (2, .long x2), (0, .long x0)] [] σ Q :=
  am_loop (P := am_Pl) (L := fun s : Int64 × Int64 × Int32 × Int64 × Int64 × Int32 × am_St => [(9, .int s.2.2.2.2.2.1), (7, .long s.2.2.2.2.1), (5, .long s.2.2.2.1), (4, .int s.2.2.1), (2, .long s.2.1), (0, .long s.1)]) (g := fun s => s.2.2.2.2.2.2) (fun s o Q e hr => sb_O_inLeastTerms_19 G s.1 s.2.1 s.2.2.1 s.2.2.2.1 s.2.2.2.2.1 s.2.2.2.2.2.1 s.2.2.2.2.2.2 o Q e hr) (x0, x2, x4, x5, x7, x9, σ) r Q e hr
noncomputable def g_O_inLeastTerms (x0 : Int64) (x2 : Int64) (x4 : Int32) (σ : am_St) : Option (Int64 × am_St) :=
  if (lg_cmp x2 0) = 0 then
    some ((x4.toInt64, σ))
  else
    f_O_inLeastTerms_19 x0 x2 x4 x0 x2 0 σ
noncomputable def f_O_inLeastTerms (x0 : Int64) (x2 : Int64) (x4 : Int32) (σ : am_St) : Option (Int64 × am_St) := am_lk (g_O_inLeastTerms x0 x2 x4 σ)
theorem eq_O_inLeastTerms (x0 : Int64) (x2 : Int64) (x4 : Int32) (σ : am_St) : f_O_inLeastTerms x0 x2 x4 σ = g_O_inLeastTerms x0 x2 x4 σ := am_lk_eq _
set_option maxRecDepth 100000 in
set_option maxHeartbeats 4000000 in
theorem s_O_inLeastTerms (G : am_G) (x0 : Int64) (x2 : Int64) (x4 : Int32) (σ : am_St) (r : Int64 × am_St) (Q : am_AQ) (e : f_O_inLeastTerms x0 x2 x4 σ = some r) (hr : am_Pl r Q) : am_AW G M_O_inLeastTerms 0 [(0, .long x0), (2, .long x2), (4, .int x4)] [] σ Q :=
  (show am_Snd G M_O_inLeastTerms 0 am_Pl _ from (sn_lload_n (pc := 0) (i := 2) dX6_inLeastTerms_0 rfl (sn_lconst (pc := 1) (v := 0) dX6_inLeastTerms_1 rfl (sn_lcmp (pc := 2) dX6_inLeastTerms_2 (sn_if_ne (pc := 3) (tgt := 10) dX6_inLeastTerms_3 rfl (sn_lload_n (pc := 10) (i := 0) dX6_inLeastTerms_10 rfl (sn_lstore (pc := 11) dX6_inLeastTerms_11 (Nat.le_of_ble_eq_true rfl) (sn_lload_n (pc := 13) (i := 2) dX6_inLeastTerms_13 rfl (sn_lstore (pc := 14) dX6_inLeastTerms_14 (Nat.le_of_ble_eq_true rfl) (sn_iconst (pc := 16) (v := 0) dX6_inLeastTerms_16 rfl (sn_istore (pc := 17) dX6_inLeastTerms_17 (Nat.le_of_ble_eq_true rfl) (sn_lf (pc := 19) (ln_l (i := 0) (fun z0 => (ln_l (i := 2) (fun z1 => (ln_i (i := 4) (fun z2 => (ln_l (i := 5) (fun z3 => (ln_l (i := 7) (fun z4 => (ln_i (i := 9) (fun z5 => (ln_end (o := fun τ => f_O_inLeastTerms_19 z0 z1 z2 z3 z4 z5 τ) (fun _ _ _ e h => s_O_inLeastTerms_19 G z0 z1 z2 z3 z4 z5 _ _ _ e h))))))))))))))))))))) (sn_iload (pc := 6) dX6_inLeastTerms_6 (sn_i2l (pc := 8) dX6_inLeastTerms_8 (sn_retl (pc := 9) (R := fun x τ => (some ((x, τ)))) dX6_inLeastTerms_9 rfl (fun _ _ _ _ e h => by cases e; exact h))))))))) _ _ _ _ _ ((eq_O_inLeastTerms x0 x2 x4 σ).symm.trans e) hr
noncomputable def cF_O_inLeastTerms : am_Fn := fun _ args σ K => match args with
  | [.long z0, .long z1, .int z2] => (f_O_inLeastTerms z0 z1 z2 σ).bind (fun p => K (some (.long p.1)) p.2)
  | _ => none
theorem cal_O_inLeastTerms (G : am_G) : am_Cal G M_O_inLeastTerms cF_O_inLeastTerms := by
  intro ρ args σ K r e
  unfold cF_O_inLeastTerms at e
  split at e
  · obtain ⟨p, h1, h2⟩ := am_bind_some e
    exact ⟨some (.long p.1), p.2, am_Met.of rfl (Nat.le_of_ble_eq_true rfl) (s_O_inLeastTerms G _ _ _ σ p _ h1 ⟨rfl, rfl⟩), h2⟩
  · cases e
abbrev M_O_shareOf : am_MD := (yX6_shareOf, cX6_shareOf, 5, (some .long), 1, 31)
theorem dX6_shareOf_0 : decode cX6_shareOf 0 = .ok (.iload_n 1, 1) := by decide +kernel
theorem dX6_shareOf_1 : decode cX6_shareOf 1 = .ok (.ifCond .lt 18, 3) := by decide +kernel
theorem dX6_shareOf_4 : decode cX6_shareOf 4 = .ok (.iload_n 1, 1) := by decide +kernel
theorem dX6_shareOf_5 : decode cX6_shareOf 5 = .ok (.bipush 7, 2) := by decide +kernel
theorem dX6_shareOf_7 : decode cX6_shareOf 7 = .ok (.if_icmp .ge 12, 3) := by decide +kernel
theorem dX6_shareOf_10 : decode cX6_shareOf 10 = .ok (.aload_n 0, 1) := by decide +kernel
theorem dX6_shareOf_11 : decode cX6_shareOf 11 = .ok (.getfield 9, 3) := by decide +kernel
theorem dX6_shareOf_14 : decode cX6_shareOf 14 = .ok (.iload_n 1, 1) := by decide +kernel
theorem dX6_shareOf_15 : decode cX6_shareOf 15 = .ok (.laload, 1) := by decide +kernel
theorem dX6_shareOf_16 : decode cX6_shareOf 16 = .ok (.goto 4, 3) := by decide +kernel
theorem dX6_shareOf_19 : decode cX6_shareOf 19 = .ok (.lconst 0, 1) := by decide +kernel
theorem dX6_shareOf_20 : decode cX6_shareOf 20 = .ok (.lstore_n 3, 1) := by decide +kernel
theorem dX6_shareOf_21 : decode cX6_shareOf 21 = .ok (.lload_n 3, 1) := by decide +kernel
theorem dX6_shareOf_22 : decode cX6_shareOf 22 = .ok (.aload_n 0, 1) := by decide +kernel
theorem dX6_shareOf_23 : decode cX6_shareOf 23 = .ok (.getfield 53, 3) := by decide +kernel
theorem dX6_shareOf_26 : decode cX6_shareOf 26 = .ok (.iload_n 2, 1) := by decide +kernel
theorem dX6_shareOf_27 : decode cX6_shareOf 27 = .ok (.invokestatic 68, 3) := by decide +kernel
theorem dX6_shareOf_30 : decode cX6_shareOf 30 = .ok (.lreturn, 1) := by decide +kernel
noncomputable def g_O_shareOf_20 (x2 : Int32) (y0 : Int64) (σ : am_St) : Option (Int64 × am_St) :=
  (f_O_inLeastTerms y0 (σ.2.1 60 3) x2 σ).bind (fun p1 =>
    some ((p1.1, p1.2)))
noncomputable def f_O_shareOf_20 (x2 : Int32) (y0 : Int64) (σ : am_St) : Option (Int64 × am_St) := am_lk (g_O_shareOf_20 x2 y0 σ)
theorem eq_O_shareOf_20 (x2 : Int32) (y0 : Int64) (σ : am_St) : f_O_shareOf_20 x2 y0 σ = g_O_shareOf_20 x2 y0 σ := am_lk_eq _
set_option maxRecDepth 100000 in
set_option maxHeartbeats 4000000 in
theorem s_O_shareOf_20 (G : am_G) (x2 : Int32) (y0 : Int64) (σ : am_St) (r : Int64 × am_St) (Q : am_AQ) (e : f_O_shareOf_20 x2 y0 σ = some r) (hr : am_Pl r Q) : am_AW G M_O_shareOf 20 [(2, .int x2), (0, .ref 60)] [.long y0] σ Q :=
  (show am_Snd G M_O_shareOf 20 am_Pl _ from (sn_lstore_n (pc := 20) (i := 3) dX6_shareOf_20 rfl (Nat.le_of_ble_eq_true rfl) (sn_lload_n (pc := 21) (i := 3) dX6_shareOf_21 rfl (sn_aload_n (pc := 22) (i := 0) dX6_shareOf_22 rfl (sn_gL (pc := 23) (h := 60) (f := 3) dX6_shareOf_23 am_CL_6 sh_60 rfl (Nat.le_of_ble_eq_true rfl) tw_208 (sn_iload_n (pc := 26) (i := 2) dX6_shareOf_26 rfl (sn_callS (pc := 27) (N := M_O_inLeastTerms) dX6_shareOf_27 (cal_O_inLeastTerms G) tw_623 tw_624 tw_11 tw_625 dsc_X6_inLeastTerms rfl (sn_retl (pc := 30) (R := fun x τ => (some ((x, τ)))) dX6_shareOf_30 rfl (fun _ _ _ _ e h => by cases e; exact h))))))))) _ _ _ _ _ ((eq_O_shareOf_20 x2 y0 σ).symm.trans e) hr
noncomputable def g_O_shareOf_19 (x2 : Int32) (σ : am_St) : Option (Int64 × am_St) :=
  f_O_shareOf_20 x2 0 σ
noncomputable def f_O_shareOf_19 (x2 : Int32) (σ : am_St) : Option (Int64 × am_St) := am_lk (g_O_shareOf_19 x2 σ)
theorem eq_O_shareOf_19 (x2 : Int32) (σ : am_St) : f_O_shareOf_19 x2 σ = g_O_shareOf_19 x2 σ := am_lk_eq _
set_option maxRecDepth 100000 in
set_option maxHeartbeats 4000000 in
theorem s_O_shareOf_19 (G : am_G) (x2 : Int32) (σ : am_St) (r : Int64 × am_St) (Q : am_AQ) (e : f_O_shareOf_19 x2 σ = some r) (hr : am_Pl r Q) : am_AW G M_O_shareOf 19 [(2, .int x2), (0, .ref 60)] [] σ Q :=
  (show am_Snd G M_O_shareOf 19 am_Pl _ from (sn_lconst (pc := 19) (v := 0) dX6_shareOf_19 rfl (sn_lf (pc := 20) (ln_a (i := 0) (q := 60) (ln_i (i := 2) (fun z0 => (ln_sl (fun w0 => (ln_end (o := fun τ => f_O_shareOf_20 z0 w0 τ) (fun _ _ _ e h => s_O_shareOf_20 G z0 w0 _ _ _ e h)))))))))) _ _ _ _ _ ((eq_O_shareOf_19 x2 σ).symm.trans e) hr
noncomputable def g_O_shareOf (x1 : Int32) (x2 : Int32) (σ : am_St) : Option (Int64 × am_St) :=
  if x1 < 0 then
    f_O_shareOf_19 x2 σ
  else
    if 7 ≤ x1 then
      f_O_shareOf_19 x2 σ
    else
      if am_ix x1 7 = true then
        f_O_shareOf_20 x2 (σ.2.1 61 x1.toNatClampNeg) σ
      else none
noncomputable def f_O_shareOf (x1 : Int32) (x2 : Int32) (σ : am_St) : Option (Int64 × am_St) := am_lk (g_O_shareOf x1 x2 σ)
theorem eq_O_shareOf (x1 : Int32) (x2 : Int32) (σ : am_St) : f_O_shareOf x1 x2 σ = g_O_shareOf x1 x2 σ := am_lk_eq _
set_option maxRecDepth 100000 in
set_option maxHeartbeats 4000000 in
theorem s_O_shareOf (G : am_G) (x1 : Int32) (x2 : Int32) (σ : am_St) (r : Int64 × am_St) (Q : am_AQ) (e : f_O_shareOf x1 x2 σ = some r) (hr : am_Pl r Q) : am_AW G M_O_shareOf 0 [(0, .ref 60), (1, .int x1), (2, .int x2)] [] σ Q :=
  (show am_Snd G M_O_shareOf 0 am_Pl _ from (sn_iload_n (pc := 0) (i := 1) dX6_shareOf_0 rfl (sn_if_lt (pc := 1) (tgt := 19) dX6_shareOf_1 rfl (sn_lf (pc := 19) (ln_a (i := 0) (q := 60) (ln_i (i := 2) (fun z0 => (ln_end (o := fun τ => f_O_shareOf_19 z0 τ) (fun _ _ _ e h => s_O_shareOf_19 G z0 _ _ _ e h)))))) (sn_iload_n (pc := 4) (i := 1) dX6_shareOf_4 rfl (sn_bipush (pc := 5) (v := 7) dX6_shareOf_5 rfl (sn_icmp_ge (pc := 7) (tgt := 19) dX6_shareOf_7 rfl (sn_lf (pc := 19) (ln_a (i := 0) (q := 60) (ln_i (i := 2) (fun z0 => (ln_end (o := fun τ => f_O_shareOf_19 z0 τ) (fun _ _ _ e h => s_O_shareOf_19 G z0 _ _ _ e h)))))) (sn_aload_n (pc := 10) (i := 0) dX6_shareOf_10 rfl (sn_gR (r0 := 61) (pc := 11) (h := 60) (f := 0) dX6_shareOf_11 am_CL_6 sh_60 rfl (Nat.le_of_ble_eq_true rfl) tw_205 (sn_iload_n (pc := 14) (i := 1) dX6_shareOf_14 rfl (sn_aL (pc := 15) (h := 61) dX6_shareOf_15 sh_61 (sn_goto (pc := 16) (tgt := 20) dX6_shareOf_16 rfl (sn_lf (pc := 20) (ln_a (i := 0) (q := 60) (ln_i (i := 2) (fun z0 => (ln_sl (fun w0 => (ln_end (o := fun τ => f_O_shareOf_20 z0 w0 τ) (fun _ _ _ e h => s_O_shareOf_20 G z0 w0 _ _ _ e h))))))))))))))))))) _ _ _ _ _ ((eq_O_shareOf x1 x2 σ).symm.trans e) hr
noncomputable def cF_O_shareOf : am_Fn := fun _ args σ K => match args with
  | [.ref q0, .int z1, .int z2] => match Nat.beq q0 60 with
    | true => (f_O_shareOf z1 z2 σ).bind (fun p => K (some (.long p.1)) p.2)
    | _ => none
  | _ => none
theorem cal_O_shareOf (G : am_G) : am_Cal G M_O_shareOf cF_O_shareOf := by
  intro ρ args σ K r e
  unfold cF_O_shareOf at e
  split at e
  · split at e
    · rename_i hq0
      obtain ⟨p, h1, h2⟩ := am_bind_some e
      rw [Nat.eq_of_beq_eq_true hq0]
      exact ⟨some (.long p.1), p.2, am_Met.of rfl (Nat.le_of_ble_eq_true rfl) (s_O_shareOf G _ _ σ p _ h1 ⟨rfl, rfl⟩), h2⟩
    · cases e
  · cases e
abbrev M_X_who : am_MD := (yX11_who, cX11_who, 3, (some .long), 5, 113)
theorem dX11_who_0 : decode cX11_who 0 = .ok (.aload_n 0, 1) := by decide +kernel
theorem dX11_who_1 : decode cX11_who 1 = .ok (.getfield 10, 3) := by decide +kernel
theorem dX11_who_4 : decode cX11_who 4 = .ok (.iload_n 1, 1) := by decide +kernel
theorem dX11_who_5 : decode cX11_who 5 = .ok (.invokevirtual 81, 3) := by decide +kernel
theorem dX11_who_8 : decode cX11_who 8 = .ok (.ifCond .ne 20, 3) := by decide +kernel
theorem dX11_who_11 : decode cX11_who 11 = .ok (.iload_n 1, 1) := by decide +kernel
theorem dX11_who_12 : decode cX11_who 12 = .ok (.iconst 4, 1) := by decide +kernel
theorem dX11_who_13 : decode cX11_who 13 = .ok (.if_icmp .lt 9, 3) := by decide +kernel
theorem dX11_who_16 : decode cX11_who 16 = .ok (.iload_n 1, 1) := by decide +kernel
theorem dX11_who_17 : decode cX11_who 17 = .ok (.bipush 7, 2) := by decide +kernel
theorem dX11_who_19 : decode cX11_who 19 = .ok (.if_icmp .lt 9, 3) := by decide +kernel
theorem dX11_who_22 : decode cX11_who 22 = .ok (.aload_n 0, 1) := by decide +kernel
theorem dX11_who_23 : decode cX11_who 23 = .ok (.iconst (-1), 1) := by decide +kernel
theorem dX11_who_24 : decode cX11_who 24 = .ok (.invokevirtual 177, 3) := by decide +kernel
theorem dX11_who_27 : decode cX11_who 27 = .ok (.lreturn, 1) := by decide +kernel
theorem dX11_who_28 : decode cX11_who 28 = .ok (.iload_n 2, 1) := by decide +kernel
theorem dX11_who_29 : decode cX11_who 29 = .ok (.invokestatic 132, 3) := by decide +kernel
theorem dX11_who_32 : decode cX11_who 32 = .ok (.ifCond .ne 10, 3) := by decide +kernel
theorem dX11_who_35 : decode cX11_who 35 = .ok (.aload_n 0, 1) := by decide +kernel
theorem dX11_who_36 : decode cX11_who 36 = .ok (.bipush (-2), 2) := by decide +kernel
theorem dX11_who_38 : decode cX11_who 38 = .ok (.invokevirtual 177, 3) := by decide +kernel
theorem dX11_who_41 : decode cX11_who 41 = .ok (.lreturn, 1) := by decide +kernel
theorem dX11_who_42 : decode cX11_who 42 = .ok (.aload_n 0, 1) := by decide +kernel
theorem dX11_who_43 : decode cX11_who 43 = .ok (.getfield 40, 3) := by decide +kernel
theorem dX11_who_46 : decode cX11_who 46 = .ok (.aload_n 0, 1) := by decide +kernel
theorem dX11_who_47 : decode cX11_who 47 = .ok (.getfield 10, 3) := by decide +kernel
theorem dX11_who_50 : decode cX11_who 50 = .ok (.aload_n 0, 1) := by decide +kernel
theorem dX11_who_51 : decode cX11_who 51 = .ok (.getfield 33, 3) := by decide +kernel
theorem dX11_who_54 : decode cX11_who 54 = .ok (.invokevirtual 181, 3) := by decide +kernel
theorem dX11_who_57 : decode cX11_who 57 = .ok (.aload_n 0, 1) := by decide +kernel
theorem dX11_who_58 : decode cX11_who 58 = .ok (.getfield 40, 3) := by decide +kernel
theorem dX11_who_61 : decode cX11_who 61 = .ok (.iload_n 1, 1) := by decide +kernel
theorem dX11_who_62 : decode cX11_who 62 = .ok (.iload_n 2, 1) := by decide +kernel
theorem dX11_who_63 : decode cX11_who 63 = .ok (.invokevirtual 185, 3) := by decide +kernel
theorem dX11_who_66 : decode cX11_who 66 = .ok (.lreturn, 1) := by decide +kernel
noncomputable def g_X_who_22 (σ : am_St) : Option (Int64 × am_St) :=
  (f_X_refuseLong (-1) σ).bind (fun p1 =>
    some ((p1.1, p1.2)))
noncomputable def f_X_who_22 (σ : am_St) : Option (Int64 × am_St) := am_lk (g_X_who_22  σ)
theorem eq_X_who_22 (σ : am_St) : f_X_who_22  σ = g_X_who_22  σ := am_lk_eq _
set_option maxRecDepth 100000 in
set_option maxHeartbeats 4000000 in
theorem s_X_who_22 (G : am_G) (σ : am_St) (r : Int64 × am_St) (Q : am_AQ) (e : f_X_who_22  σ = some r) (hr : am_Pl r Q) : am_AW G M_X_who 22 [(0, .ref 0)] [] σ Q :=
  (show am_Snd G M_X_who 22 am_Pl _ from (sn_aload_n (pc := 22) (i := 0) dX11_who_22 rfl (sn_iconst (pc := 23) (v := (-1)) dX11_who_23 (show Int32.ofInt (-1) = (-1) by decide) (sn_callV (pc := 24) (N := M_X_refuseLong) dX11_who_24 (cal_X_refuseLong G) sh_0 rfl tw_599 tw_601 tp_17 tw_1 tw_602 dsc_X11_refuseLong rfl (sn_retl (pc := 27) (R := fun x τ => (some ((x, τ)))) dX11_who_27 rfl (fun _ _ _ _ e h => by cases e; exact h)))))) _ _ _ _ _ ((eq_X_who_22  σ).symm.trans e) hr
noncomputable def g_X_who_28 (x1 : Int32) (x2 : Int32) (σ : am_St) : Option (Int64 × am_St) :=
  (f_X_isZeroOrOne x2 σ).bind (fun p1 =>
    if p1.1 = 0 then
      (f_X_refuseLong (-2) p1.2).bind (fun p4 =>
        some ((p4.1, p4.2)))
    else
      (f_O_weigh_1 p1.2).bind (fun p2 =>
        (f_O_shareOf x1 x2 p2).bind (fun p3 =>
          some ((p3.1, p3.2)))))
noncomputable def f_X_who_28 (x1 : Int32) (x2 : Int32) (σ : am_St) : Option (Int64 × am_St) := am_lk (g_X_who_28 x1 x2 σ)
theorem eq_X_who_28 (x1 : Int32) (x2 : Int32) (σ : am_St) : f_X_who_28 x1 x2 σ = g_X_who_28 x1 x2 σ := am_lk_eq _
set_option maxRecDepth 100000 in
set_option maxHeartbeats 4000000 in
theorem s_X_who_28 (G : am_G) (x1 : Int32) (x2 : Int32) (σ : am_St) (r : Int64 × am_St) (Q : am_AQ) (e : f_X_who_28 x1 x2 σ = some r) (hr : am_Pl r Q) : am_AW G M_X_who 28 [(2, .int x2), (1, .int x1), (0, .ref 0)] [] σ Q :=
  (show am_Snd G M_X_who 28 am_Pl _ from (sn_iload_n (pc := 28) (i := 2) dX11_who_28 rfl (sn_callS (pc := 29) (N := M_X_isZeroOrOne) dX11_who_29 (cal_X_isZeroOrOne G) tw_549 tw_550 tw_1 tw_551 dsc_X11_isZeroOrOne rfl (sn_if_ne (pc := 32) (tgt := 42) dX11_who_32 rfl (sn_aload_n (pc := 42) (i := 0) dX11_who_42 rfl (sn_gR (r0 := 60) (pc := 43) (h := 0) (f := 5) dX11_who_43 am_CL_10 sh_0 rfl (Nat.le_of_ble_eq_true rfl) tw_224 (sn_aload_n (pc := 46) (i := 0) dX11_who_46 rfl (sn_gR (r0 := 1) (pc := 47) (h := 0) (f := 0) dX11_who_47 am_CL_10 sh_0 rfl (Nat.le_of_ble_eq_true rfl) tw_219 (sn_aload_n (pc := 50) (i := 0) dX11_who_50 rfl (sn_gR (r0 := 54) (pc := 51) (h := 0) (f := 4) dX11_who_51 am_CL_10 sh_0 rfl (Nat.le_of_ble_eq_true rfl) tw_223 (sn_callV (pc := 54) (N := M_O_weigh) dX11_who_54 (cal_O_weigh_1 G) sh_60 rfl tw_604 tw_605 tw_606 tw_11 tw_607 dsc_X6_weigh rfl (sn_aload_n (pc := 57) (i := 0) dX11_who_57 rfl (sn_gR (r0 := 60) (pc := 58) (h := 0) (f := 5) dX11_who_58 am_CL_10 sh_0 rfl (Nat.le_of_ble_eq_true rfl) tw_224 (sn_iload_n (pc := 61) (i := 1) dX11_who_61 rfl (sn_iload_n (pc := 62) (i := 2) dX11_who_62 rfl (sn_callV (pc := 63) (N := M_O_shareOf) dX11_who_63 (cal_O_shareOf G) sh_60 rfl tw_619 tw_620 tw_621 tw_11 tw_622 dsc_X6_shareOf rfl (sn_retl (pc := 66) (R := fun x τ => (some ((x, τ)))) dX11_who_66 rfl (fun _ _ _ _ e h => by cases e; exact h)))))))))))))) (sn_aload_n (pc := 35) (i := 0) dX11_who_35 rfl (sn_bipush (pc := 36) (v := (-2)) dX11_who_36 (show (Int8.ofInt (-2)).toInt32 = (-2) by decide) (sn_callV (pc := 38) (N := M_X_refuseLong) dX11_who_38 (cal_X_refuseLong G) sh_0 rfl tw_599 tw_601 tp_17 tw_1 tw_602 dsc_X11_refuseLong rfl (sn_retl (pc := 41) (R := fun x τ => (some ((x, τ)))) dX11_who_41 rfl (fun _ _ _ _ e h => by cases e; exact h))))))))) _ _ _ _ _ ((eq_X_who_28 x1 x2 σ).symm.trans e) hr
noncomputable def g_X_who (x1 : Int32) (x2 : Int32) (σ : am_St) : Option (Int64 × am_St) :=
  (f_H_hasChild_1 x1 σ).bind (fun p1 =>
    if p1.1 = 0 then
      if x1 < 4 then
        f_X_who_22 p1.2
      else
        if x1 < 7 then
          f_X_who_28 x1 x2 p1.2
        else
          f_X_who_22 p1.2
    else
      f_X_who_28 x1 x2 p1.2)
noncomputable def f_X_who (x1 : Int32) (x2 : Int32) (σ : am_St) : Option (Int64 × am_St) := am_lk (g_X_who x1 x2 σ)
theorem eq_X_who (x1 : Int32) (x2 : Int32) (σ : am_St) : f_X_who x1 x2 σ = g_X_who x1 x2 σ := am_lk_eq _
set_option maxRecDepth 100000 in
set_option maxHeartbeats 4000000 in
theorem s_X_who (G : am_G) (x1 : Int32) (x2 : Int32) (σ : am_St) (r : Int64 × am_St) (Q : am_AQ) (e : f_X_who x1 x2 σ = some r) (hr : am_Pl r Q) : am_AW G M_X_who 0 [(0, .ref 0), (1, .int x1), (2, .int x2)] [] σ Q :=
  (show am_Snd G M_X_who 0 am_Pl _ from (sn_aload_n (pc := 0) (i := 0) dX11_who_0 rfl (sn_gR (r0 := 1) (pc := 1) (h := 0) (f := 0) dX11_who_1 am_CL_10 sh_0 rfl (Nat.le_of_ble_eq_true rfl) tw_219 (sn_iload_n (pc := 4) (i := 1) dX11_who_4 rfl (sn_callV (pc := 5) (N := M_H_hasChild) dX11_who_5 (cal_H_hasChild_1 G) sh_1 rfl tw_434 tw_385 tw_386 tw_2 tw_387 dsc_X3_hasChild rfl (sn_if_ne (pc := 8) (tgt := 28) dX11_who_8 rfl (sn_lf (pc := 28) (ln_a (i := 0) (q := 0) (ln_i (i := 1) (fun z0 => (ln_i (i := 2) (fun z1 => (ln_end (o := fun τ => f_X_who_28 z0 z1 τ) (fun _ _ _ e h => s_X_who_28 G z0 z1 _ _ _ e h)))))))) (sn_iload_n (pc := 11) (i := 1) dX11_who_11 rfl (sn_iconst (pc := 12) (v := 4) dX11_who_12 rfl (sn_icmp_lt (pc := 13) (tgt := 22) dX11_who_13 rfl (sn_lf (pc := 22) (ln_a (i := 0) (q := 0) (ln_end (o := fun τ => f_X_who_22 τ) (fun _ _ _ e h => s_X_who_22 G  _ _ _ e h)))) (sn_iload_n (pc := 16) (i := 1) dX11_who_16 rfl (sn_bipush (pc := 17) (v := 7) dX11_who_17 rfl (sn_icmp_lt (pc := 19) (tgt := 28) dX11_who_19 rfl (sn_lf (pc := 28) (ln_a (i := 0) (q := 0) (ln_i (i := 1) (fun z0 => (ln_i (i := 2) (fun z1 => (ln_end (o := fun τ => f_X_who_28 z0 z1 τ) (fun _ _ _ e h => s_X_who_28 G z0 z1 _ _ _ e h)))))))) (sn_lf (pc := 22) (ln_a (i := 0) (q := 0) (ln_end (o := fun τ => f_X_who_22 τ) (fun _ _ _ e h => s_X_who_22 G  _ _ _ e h)))))))))))))))) _ _ _ _ _ ((eq_X_who x1 x2 σ).symm.trans e) hr
noncomputable def cF_X_who : am_Fn := fun _ args σ K => match args with
  | [.ref q0, .int z1, .int z2] => match Nat.beq q0 0 with
    | true => (f_X_who z1 z2 σ).bind (fun p => K (some (.long p.1)) p.2)
    | _ => none
  | _ => none
theorem cal_X_who (G : am_G) : am_Cal G M_X_who cF_X_who := by
  intro ρ args σ K r e
  unfold cF_X_who at e
  split at e
  · split at e
    · rename_i hq0
      obtain ⟨p, h1, h2⟩ := am_bind_some e
      rw [Nat.eq_of_beq_eq_true hq0]
      exact ⟨some (.long p.1), p.2, am_Met.of rfl (Nat.le_of_ble_eq_true rfl) (s_X_who G _ _ σ p _ h1 ⟨rfl, rfl⟩), h2⟩
    · cases e
  · cases e
abbrev M_O_heaviest : am_MD := (yX6_heaviest, cX6_heaviest, 5, (some .int), 0, 0)
theorem dX6_heaviest_0 : decode cX6_heaviest 0 = .ok (.bipush (-9), 2) := by decide +kernel
theorem dX6_heaviest_2 : decode cX6_heaviest 2 = .ok (.istore_n 1, 1) := by decide +kernel
theorem dX6_heaviest_3 : decode cX6_heaviest 3 = .ok (.lconst 0, 1) := by decide +kernel
theorem dX6_heaviest_4 : decode cX6_heaviest 4 = .ok (.lstore_n 2, 1) := by decide +kernel
theorem dX6_heaviest_5 : decode cX6_heaviest 5 = .ok (.iconst 0, 1) := by decide +kernel
theorem dX6_heaviest_6 : decode cX6_heaviest 6 = .ok (.istore 4, 2) := by decide +kernel
theorem dX6_heaviest_8 : decode cX6_heaviest 8 = .ok (.iload 4, 2) := by decide +kernel
theorem dX6_heaviest_10 : decode cX6_heaviest 10 = .ok (.bipush 7, 2) := by decide +kernel
theorem dX6_heaviest_12 : decode cX6_heaviest 12 = .ok (.if_icmp .ge 32, 3) := by decide +kernel
theorem dX6_heaviest_15 : decode cX6_heaviest 15 = .ok (.aload_n 0, 1) := by decide +kernel
theorem dX6_heaviest_16 : decode cX6_heaviest 16 = .ok (.getfield 9, 3) := by decide +kernel
theorem dX6_heaviest_19 : decode cX6_heaviest 19 = .ok (.iload 4, 2) := by decide +kernel
theorem dX6_heaviest_21 : decode cX6_heaviest 21 = .ok (.laload, 1) := by decide +kernel
theorem dX6_heaviest_22 : decode cX6_heaviest 22 = .ok (.lload_n 2, 1) := by decide +kernel
theorem dX6_heaviest_23 : decode cX6_heaviest 23 = .ok (.lcmp, 1) := by decide +kernel
theorem dX6_heaviest_24 : decode cX6_heaviest 24 = .ok (.ifCond .le 14, 3) := by decide +kernel
theorem dX6_heaviest_27 : decode cX6_heaviest 27 = .ok (.aload_n 0, 1) := by decide +kernel
theorem dX6_heaviest_28 : decode cX6_heaviest 28 = .ok (.getfield 9, 3) := by decide +kernel
theorem dX6_heaviest_31 : decode cX6_heaviest 31 = .ok (.iload 4, 2) := by decide +kernel
theorem dX6_heaviest_33 : decode cX6_heaviest 33 = .ok (.laload, 1) := by decide +kernel
theorem dX6_heaviest_34 : decode cX6_heaviest 34 = .ok (.lstore_n 2, 1) := by decide +kernel
theorem dX6_heaviest_35 : decode cX6_heaviest 35 = .ok (.iload 4, 2) := by decide +kernel
theorem dX6_heaviest_37 : decode cX6_heaviest 37 = .ok (.istore_n 1, 1) := by decide +kernel
theorem dX6_heaviest_38 : decode cX6_heaviest 38 = .ok (.iinc 4 1, 3) := by decide +kernel
theorem dX6_heaviest_41 : decode cX6_heaviest 41 = .ok (.goto (-33), 3) := by decide +kernel
theorem dX6_heaviest_44 : decode cX6_heaviest 44 = .ok (.iload_n 1, 1) := by decide +kernel
theorem dX6_heaviest_45 : decode cX6_heaviest 45 = .ok (.ireturn, 1) := by decide +kernel
abbrev Pl_O_heaviest_8 (G : am_G) : ((Int32 × Int64 × Int32 × am_St) ⊕ (Int32 × am_St)) → am_AQ → Prop := am_PL G M_O_heaviest 8 (fun s : Int32 × Int64 × Int32 × am_St => [(4, .int s.2.2.1), (2, .long s.2.1), (1, .int s.1), (0, .ref 60)]) (fun s => s.2.2.2) am_Pi
noncomputable def g_O_heaviest_38 (x1 : Int32) (x2 : Int64) (x4 : Int32) (σ : am_St) : Option ((Int32 × Int64 × Int32 × am_St) ⊕ (Int32 × am_St)) :=
  let v1 := x4 + 1
  some (.inl (x1, x2, v1, σ))
noncomputable def f_O_heaviest_38 (x1 : Int32) (x2 : Int64) (x4 : Int32) (σ : am_St) : Option ((Int32 × Int64 × Int32 × am_St) ⊕ (Int32 × am_St)) := am_lk (g_O_heaviest_38 x1 x2 x4 σ)
theorem eq_O_heaviest_38 (x1 : Int32) (x2 : Int64) (x4 : Int32) (σ : am_St) : f_O_heaviest_38 x1 x2 x4 σ = g_O_heaviest_38 x1 x2 x4 σ := am_lk_eq _
set_option maxRecDepth 100000 in
set_option maxHeartbeats 4000000 in
theorem s_O_heaviest_38 (G : am_G) (x1 : Int32) (x2 : Int64) (x4 : Int32) (σ : am_St) (r : (Int32 × Int64 × Int32 × am_St) ⊕ (Int32 × am_St)) (Q : am_AQ) (e : f_O_heaviest_38 x1 x2 x4 σ = some r) (hr : (Pl_O_heaviest_8 G) r Q) : am_AW G M_O_heaviest 38 [(4, .int x4), (2, .long x2), (1, .int x1), (0, .ref 60)] [] σ Q :=
  (show am_Snd G M_O_heaviest 38 (Pl_O_heaviest_8 G) _ from (sn_iinc (pc := 38) (v := 1) dX6_heaviest_38 rfl (Nat.le_of_ble_eq_true rfl) (sn_goto (pc := 41) (tgt := 8) dX6_heaviest_41 rfl (sn_lf (pc := 8) (ln_a (i := 0) (q := 60) (ln_i (i := 1) (fun z0 => (ln_l (i := 2) (fun z1 => (ln_i (i := 4) (fun z2 => (ln_end (o := fun τ => (some (.inl (z0, z1, z2, τ)) : Option ((Int32 × Int64 × Int32 × am_St) ⊕ (Int32 × am_St)))) (fun _ _ _ e h => by cases e; exact h))))))))))))) _ _ _ _ _ ((eq_O_heaviest_38 x1 x2 x4 σ).symm.trans e) hr
noncomputable def b_O_heaviest_8 (x1 : Int32) (x2 : Int64) (x4 : Int32) (σ : am_St) : Option ((Int32 × Int64 × Int32 × am_St) ⊕ (Int32 × am_St)) :=
  if 7 ≤ x4 then
    some (.inr ((x1, σ)))
  else
    if am_ix x4 7 = true then
      if (lg_cmp (σ.2.1 61 x4.toNatClampNeg) x2) ≤ 0 then
        f_O_heaviest_38 x1 x2 x4 σ
      else
        if am_ix x4 7 = true then
          let v1 := σ.2.1 61 x4.toNatClampNeg
          f_O_heaviest_38 x4 v1 x4 σ
        else none
    else none
noncomputable def f_O_heaviest_8 (x1 : Int32) (x2 : Int64) (x4 : Int32) (σ : am_St) : Option (Int32 × am_St) := am_lp (fun s : Int32 × Int64 × Int32 × am_St => b_O_heaviest_8 s.1 s.2.1 s.2.2.1 s.2.2.2) (x1, x2, x4, σ)
set_option maxRecDepth 100000 in
set_option maxHeartbeats 4000000 in
theorem sb_O_heaviest_8 (G : am_G) (x1 : Int32) (x2 : Int64) (x4 : Int32) (σ : am_St) (r : (Int32 × Int64 × Int32 × am_St) ⊕ (Int32 × am_St)) (Q : am_AQ) (e : b_O_heaviest_8 x1 x2 x4 σ = some r) (hr : Pl_O_heaviest_8 G r Q) : am_AW G M_O_heaviest 8 [(4, .int x4), (2, .long x2), (1, .int x1), (0, .ref 60)] [] σ Q :=
  (show am_Snd G M_O_heaviest 8 (Pl_O_heaviest_8 G) _ from (sn_iload (pc := 8) dX6_heaviest_8 (sn_bipush (pc := 10) (v := 7) dX6_heaviest_10 rfl (sn_icmp_ge (pc := 12) (tgt := 44) dX6_heaviest_12 rfl (sn_iload_n (pc := 44) (i := 1) dX6_heaviest_44 rfl (sn_reti (pc := 45) (R := fun x τ => (some (.inr ((x, τ))) : Option ((Int32 × Int64 × Int32 × am_St) ⊕ (Int32 × am_St)))) dX6_heaviest_45 rfl (fun _ _ _ _ e h => by cases e; exact h))) (sn_aload_n (pc := 15) (i := 0) dX6_heaviest_15 rfl (sn_gR (r0 := 61) (pc := 16) (h := 60) (f := 0) dX6_heaviest_16 am_CL_6 sh_60 rfl (Nat.le_of_ble_eq_true rfl) tw_205 (sn_iload (pc := 19) dX6_heaviest_19 (sn_aL (pc := 21) (h := 61) dX6_heaviest_21 sh_61 (sn_lload_n (pc := 22) (i := 2) dX6_heaviest_22 rfl (sn_lcmp (pc := 23) dX6_heaviest_23 (sn_if_le (pc := 24) (tgt := 38) dX6_heaviest_24 rfl (sn_lf (pc := 38) (ln_a (i := 0) (q := 60) (ln_i (i := 1) (fun z0 => (ln_l (i := 2) (fun z1 => (ln_i (i := 4) (fun z2 => (ln_end (o := fun τ => f_O_heaviest_38 z0 z1 z2 τ) (fun _ _ _ e h => s_O_heaviest_38 G z0 z1 z2 _ _ _ e h)))))))))) (sn_aload_n (pc := 27) (i := 0) dX6_heaviest_27 rfl (sn_gR (r0 := 61) (pc := 28) (h := 60) (f := 0) dX6_heaviest_28 am_CL_6 sh_60 rfl (Nat.le_of_ble_eq_true rfl) tw_205 (sn_iload (pc := 31) dX6_heaviest_31 (sn_aL (pc := 33) (h := 61) dX6_heaviest_33 sh_61 (sn_lstore_n (pc := 34) (i := 2) dX6_heaviest_34 rfl (Nat.le_of_ble_eq_true rfl) (sn_iload (pc := 35) dX6_heaviest_35 (sn_istore_n (pc := 37) (i := 1) dX6_heaviest_37 rfl (Nat.le_of_ble_eq_true rfl) (sn_lf (pc := 38) (ln_a (i := 0) (q := 60) (ln_i (i := 1) (fun z0 => (ln_l (i := 2) (fun z1 => (ln_i (i := 4) (fun z2 => (ln_end (o := fun τ => f_O_heaviest_38 z0 z1 z2 τ) (fun _ _ _ e h => s_O_heaviest_38 G z0 z1 z2 _ _ _ e h)))))))))))))))))))))))))))) _ _ _ _ _ e hr
theorem s_O_heaviest_8 (G : am_G) (x1 : Int32) (x2 : Int64) (x4 : Int32) (σ : am_St) (r : Int32 × am_St) (Q : am_AQ) (e : f_O_heaviest_8 x1 x2 x4 σ = some r) (hr : am_Pi r Q) : am_AW G M_O_heaviest 8 [(4, .int x4), (2, .long x2), (1, .int x1), (0, .ref 60)] [] σ Q :=
  am_loop (P := am_Pi) (L := fun s : Int32 × Int64 × Int32 × am_St => [(4, .int s.2.2.1), (2, .long s.2.1), (1, .int s.1), (0, .ref 60)]) (g := fun s => s.2.2.2) (fun s o Q e hr => sb_O_heaviest_8 G s.1 s.2.1 s.2.2.1 s.2.2.2 o Q e hr) (x1, x2, x4, σ) r Q e hr
noncomputable def g_O_heaviest (σ : am_St) : Option (Int32 × am_St) :=
  f_O_heaviest_8 ((-9)) 0 0 σ
noncomputable def f_O_heaviest (σ : am_St) : Option (Int32 × am_St) := am_lk (g_O_heaviest  σ)
theorem eq_O_heaviest (σ : am_St) : f_O_heaviest  σ = g_O_heaviest  σ := am_lk_eq _
set_option maxRecDepth 100000 in
set_option maxHeartbeats 4000000 in
theorem s_O_heaviest (G : am_G) (σ : am_St) (r : Int32 × am_St) (Q : am_AQ) (e : f_O_heaviest  σ = some r) (hr : am_Pi r Q) : am_AW G M_O_heaviest 0 [(0, .ref 60)] [] σ Q :=
  (show am_Snd G M_O_heaviest 0 am_Pi _ from (sn_bipush (pc := 0) (v := (-9)) dX6_heaviest_0 (show (Int8.ofInt (-9)).toInt32 = (-9) by decide) (sn_istore_n (pc := 2) (i := 1) dX6_heaviest_2 rfl (Nat.le_of_ble_eq_true rfl) (sn_lconst (pc := 3) (v := 0) dX6_heaviest_3 rfl (sn_lstore_n (pc := 4) (i := 2) dX6_heaviest_4 rfl (Nat.le_of_ble_eq_true rfl) (sn_iconst (pc := 5) (v := 0) dX6_heaviest_5 rfl (sn_istore (pc := 6) dX6_heaviest_6 (Nat.le_of_ble_eq_true rfl) (sn_lf (pc := 8) (ln_a (i := 0) (q := 60) (ln_i (i := 1) (fun z0 => (ln_l (i := 2) (fun z1 => (ln_i (i := 4) (fun z2 => (ln_end (o := fun τ => f_O_heaviest_8 z0 z1 z2 τ) (fun _ _ _ e h => s_O_heaviest_8 G z0 z1 z2 _ _ _ e h))))))))))))))))) _ _ _ _ _ ((eq_O_heaviest  σ).symm.trans e) hr
noncomputable def cF_O_heaviest : am_Fn := fun _ args σ K => match args with
  | [.ref q0] => match Nat.beq q0 60 with
    | true => (f_O_heaviest σ).bind (fun p => K (some (.int p.1)) p.2)
    | _ => none
  | _ => none
theorem cal_O_heaviest (G : am_G) : am_Cal G M_O_heaviest cF_O_heaviest := by
  intro ρ args σ K r e
  unfold cF_O_heaviest at e
  split at e
  · split at e
    · rename_i hq0
      obtain ⟨p, h1, h2⟩ := am_bind_some e
      rw [Nat.eq_of_beq_eq_true hq0]
      exact ⟨some (.int p.1), p.2, am_Met.of rfl (Nat.le_of_ble_eq_true rfl) (s_O_heaviest G  σ p _ h1 ⟨rfl, rfl⟩), h2⟩
    · cases e
  · cases e
abbrev M_X_likeliest : am_MD := (yX11_likeliest, cX11_likeliest, 1, (some .int), 5, 113)
theorem dX11_likeliest_0 : decode cX11_likeliest 0 = .ok (.aload_n 0, 1) := by decide +kernel
theorem dX11_likeliest_1 : decode cX11_likeliest 1 = .ok (.getfield 40, 3) := by decide +kernel
theorem dX11_likeliest_4 : decode cX11_likeliest 4 = .ok (.aload_n 0, 1) := by decide +kernel
theorem dX11_likeliest_5 : decode cX11_likeliest 5 = .ok (.getfield 10, 3) := by decide +kernel
theorem dX11_likeliest_8 : decode cX11_likeliest 8 = .ok (.aload_n 0, 1) := by decide +kernel
theorem dX11_likeliest_9 : decode cX11_likeliest 9 = .ok (.getfield 33, 3) := by decide +kernel
theorem dX11_likeliest_12 : decode cX11_likeliest 12 = .ok (.invokevirtual 181, 3) := by decide +kernel
theorem dX11_likeliest_15 : decode cX11_likeliest 15 = .ok (.aload_n 0, 1) := by decide +kernel
theorem dX11_likeliest_16 : decode cX11_likeliest 16 = .ok (.getfield 40, 3) := by decide +kernel
theorem dX11_likeliest_19 : decode cX11_likeliest 19 = .ok (.invokevirtual 189, 3) := by decide +kernel
theorem dX11_likeliest_22 : decode cX11_likeliest 22 = .ok (.ireturn, 1) := by decide +kernel
noncomputable def g_X_likeliest (σ : am_St) : Option (Int32 × am_St) :=
  (f_O_weigh_1 σ).bind (fun p1 =>
    (f_O_heaviest p1).bind (fun p2 =>
      some ((p2.1, p2.2))))
noncomputable def f_X_likeliest (σ : am_St) : Option (Int32 × am_St) := am_lk (g_X_likeliest  σ)
theorem eq_X_likeliest (σ : am_St) : f_X_likeliest  σ = g_X_likeliest  σ := am_lk_eq _
set_option maxRecDepth 100000 in
set_option maxHeartbeats 4000000 in
theorem s_X_likeliest (G : am_G) (σ : am_St) (r : Int32 × am_St) (Q : am_AQ) (e : f_X_likeliest  σ = some r) (hr : am_Pi r Q) : am_AW G M_X_likeliest 0 [(0, .ref 0)] [] σ Q :=
  (show am_Snd G M_X_likeliest 0 am_Pi _ from (sn_aload_n (pc := 0) (i := 0) dX11_likeliest_0 rfl (sn_gR (r0 := 60) (pc := 1) (h := 0) (f := 5) dX11_likeliest_1 am_CL_10 sh_0 rfl (Nat.le_of_ble_eq_true rfl) tw_224 (sn_aload_n (pc := 4) (i := 0) dX11_likeliest_4 rfl (sn_gR (r0 := 1) (pc := 5) (h := 0) (f := 0) dX11_likeliest_5 am_CL_10 sh_0 rfl (Nat.le_of_ble_eq_true rfl) tw_219 (sn_aload_n (pc := 8) (i := 0) dX11_likeliest_8 rfl (sn_gR (r0 := 54) (pc := 9) (h := 0) (f := 4) dX11_likeliest_9 am_CL_10 sh_0 rfl (Nat.le_of_ble_eq_true rfl) tw_223 (sn_callV (pc := 12) (N := M_O_weigh) dX11_likeliest_12 (cal_O_weigh_1 G) sh_60 rfl tw_604 tw_605 tw_606 tw_11 tw_607 dsc_X6_weigh rfl (sn_aload_n (pc := 15) (i := 0) dX11_likeliest_15 rfl (sn_gR (r0 := 60) (pc := 16) (h := 0) (f := 5) dX11_likeliest_16 am_CL_10 sh_0 rfl (Nat.le_of_ble_eq_true rfl) tw_224 (sn_callV (pc := 19) (N := M_O_heaviest) dX11_likeliest_19 (cal_O_heaviest G) sh_60 rfl tw_630 tw_631 tw_632 tw_11 tw_633 dsc_X6_heaviest rfl (sn_reti (pc := 22) (R := fun x τ => (some ((x, τ)))) dX11_likeliest_22 rfl (fun _ _ _ _ e h => by cases e; exact h))))))))))))) _ _ _ _ _ ((eq_X_likeliest  σ).symm.trans e) hr
noncomputable def cF_X_likeliest : am_Fn := fun _ args σ K => match args with
  | [.ref q0] => match Nat.beq q0 0 with
    | true => (f_X_likeliest σ).bind (fun p => K (some (.int p.1)) p.2)
    | _ => none
  | _ => none
theorem cal_X_likeliest (G : am_G) : am_Cal G M_X_likeliest cF_X_likeliest := by
  intro ρ args σ K r e
  unfold cF_X_likeliest at e
  split at e
  · split at e
    · rename_i hq0
      obtain ⟨p, h1, h2⟩ := am_bind_some e
      rw [Nat.eq_of_beq_eq_true hq0]
      exact ⟨some (.int p.1), p.2, am_Met.of rfl (Nat.le_of_ble_eq_true rfl) (s_X_likeliest G  σ p _ h1 ⟨rfl, rfl⟩), h2⟩
    · cases e
  · cases e
abbrev M_H_addSaying : am_MD := (yX3_addSaying, cX3_addSaying, 5, none, 1, 23)
theorem dX3_addSaying_0 : decode cX3_addSaying 0 = .ok (.aload_n 0, 1) := by decide +kernel
theorem dX3_addSaying_1 : decode cX3_addSaying 1 = .ok (.getfield 80, 3) := by decide +kernel
theorem dX3_addSaying_4 : decode cX3_addSaying 4 = .ok (.ifCond .lt 39, 3) := by decide +kernel
theorem dX3_addSaying_7 : decode cX3_addSaying 7 = .ok (.aload_n 0, 1) := by decide +kernel
theorem dX3_addSaying_8 : decode cX3_addSaying 8 = .ok (.getfield 80, 3) := by decide +kernel
theorem dX3_addSaying_11 : decode cX3_addSaying 11 = .ok (.bipush 8, 2) := by decide +kernel
theorem dX3_addSaying_13 : decode cX3_addSaying 13 = .ok (.if_icmp .ge 30, 3) := by decide +kernel
theorem dX3_addSaying_16 : decode cX3_addSaying 16 = .ok (.aload_n 0, 1) := by decide +kernel
theorem dX3_addSaying_17 : decode cX3_addSaying 17 = .ok (.getfield 43, 3) := by decide +kernel
theorem dX3_addSaying_20 : decode cX3_addSaying 20 = .ok (.aload_n 0, 1) := by decide +kernel
theorem dX3_addSaying_21 : decode cX3_addSaying 21 = .ok (.getfield 80, 3) := by decide +kernel
theorem dX3_addSaying_24 : decode cX3_addSaying 24 = .ok (.iload_n 2, 1) := by decide +kernel
theorem dX3_addSaying_25 : decode cX3_addSaying 25 = .ok (.iload_n 3, 1) := by decide +kernel
theorem dX3_addSaying_26 : decode cX3_addSaying 26 = .ok (.iload 4, 2) := by decide +kernel
theorem dX3_addSaying_28 : decode cX3_addSaying 28 = .ok (.iload_n 1, 1) := by decide +kernel
theorem dX3_addSaying_29 : decode cX3_addSaying 29 = .ok (.invokestatic 153, 3) := by decide +kernel
theorem dX3_addSaying_32 : decode cX3_addSaying 32 = .ok (.iastore, 1) := by decide +kernel
theorem dX3_addSaying_33 : decode cX3_addSaying 33 = .ok (.aload_n 0, 1) := by decide +kernel
theorem dX3_addSaying_34 : decode cX3_addSaying 34 = .ok (.dup, 1) := by decide +kernel
theorem dX3_addSaying_35 : decode cX3_addSaying 35 = .ok (.getfield 80, 3) := by decide +kernel
theorem dX3_addSaying_38 : decode cX3_addSaying 38 = .ok (.iconst 1, 1) := by decide +kernel
theorem dX3_addSaying_39 : decode cX3_addSaying 39 = .ok (.iadd, 1) := by decide +kernel
theorem dX3_addSaying_40 : decode cX3_addSaying 40 = .ok (.putfield 80, 3) := by decide +kernel
theorem dX3_addSaying_43 : decode cX3_addSaying 43 = .ok (.return_, 1) := by decide +kernel
noncomputable def g_H_addSaying_1 (x1 : Int32) (x2 : Int32) (x3 : Int32) (x4 : Int32) (σ : am_St) : Option (am_St) :=
  if (σ.1 1 6) < 0 then
    some (σ)
  else
    if 8 ≤ (σ.1 1 6) then
      some (σ)
    else
      (f_H_mark x2 x3 x4 x1 σ).bind (fun p1 =>
        if am_ix (σ.1 1 6) 8 = true then
          let s2 := am_sI p1.2 10 (σ.1 1 6).toNatClampNeg p1.1
          let s3 := am_sI s2 1 6 ((s2.1 1 6) + 1)
          some (s3)
        else none)
noncomputable def f_H_addSaying_1 (x1 : Int32) (x2 : Int32) (x3 : Int32) (x4 : Int32) (σ : am_St) : Option (am_St) := am_lk (g_H_addSaying_1 x1 x2 x3 x4 σ)
theorem eq_H_addSaying_1 (x1 : Int32) (x2 : Int32) (x3 : Int32) (x4 : Int32) (σ : am_St) : f_H_addSaying_1 x1 x2 x3 x4 σ = g_H_addSaying_1 x1 x2 x3 x4 σ := am_lk_eq _
set_option maxRecDepth 100000 in
set_option maxHeartbeats 4000000 in
theorem s_H_addSaying_1 (G : am_G) (x1 : Int32) (x2 : Int32) (x3 : Int32) (x4 : Int32) (σ : am_St) (r : am_St) (Q : am_AQ) (e : f_H_addSaying_1 x1 x2 x3 x4 σ = some r) (hr : am_Pv r Q) : am_AW G M_H_addSaying 0 [(0, .ref 1), (1, .int x1), (2, .int x2), (3, .int x3), (4, .int x4)] [] σ Q :=
  (show am_Snd G M_H_addSaying 0 am_Pv _ from (sn_aload_n (pc := 0) (i := 0) dX3_addSaying_0 rfl (sn_gI (pc := 1) (h := 1) (f := 6) dX3_addSaying_1 am_CL_3 sh_1 rfl (Nat.le_of_ble_eq_true rfl) tw_103 (sn_if_lt (pc := 4) (tgt := 43) dX3_addSaying_4 rfl (sn_retv (pc := 43) (R := fun τ => (some (τ))) dX3_addSaying_43 rfl (fun _ _ _ e h => by cases e; exact h)) (sn_aload_n (pc := 7) (i := 0) dX3_addSaying_7 rfl (sn_gI (pc := 8) (h := 1) (f := 6) dX3_addSaying_8 am_CL_3 sh_1 rfl (Nat.le_of_ble_eq_true rfl) tw_103 (sn_bipush (pc := 11) (v := 8) dX3_addSaying_11 rfl (sn_icmp_ge (pc := 13) (tgt := 43) dX3_addSaying_13 rfl (sn_retv (pc := 43) (R := fun τ => (some (τ))) dX3_addSaying_43 rfl (fun _ _ _ e h => by cases e; exact h)) (sn_aload_n (pc := 16) (i := 0) dX3_addSaying_16 rfl (sn_gR (r0 := 10) (pc := 17) (h := 1) (f := 15) dX3_addSaying_17 am_CL_3 sh_1 rfl (Nat.le_of_ble_eq_true rfl) tw_115 (sn_aload_n (pc := 20) (i := 0) dX3_addSaying_20 rfl (sn_gI (pc := 21) (h := 1) (f := 6) dX3_addSaying_21 am_CL_3 sh_1 rfl (Nat.le_of_ble_eq_true rfl) tw_103 (sn_iload_n (pc := 24) (i := 2) dX3_addSaying_24 rfl (sn_iload_n (pc := 25) (i := 3) dX3_addSaying_25 rfl (sn_iload (pc := 26) dX3_addSaying_26 (sn_iload_n (pc := 28) (i := 1) dX3_addSaying_28 rfl (sn_callS (pc := 29) (N := M_H_mark) dX3_addSaying_29 (cal_H_mark G) tw_418 tw_419 tw_2 tw_420 dsc_X3_mark rfl (sn_sI (pc := 32) (h := 10) dX3_addSaying_32 sh_10 (sn_aload_n (pc := 33) (i := 0) dX3_addSaying_33 rfl (sn_dup (pc := 34) dX3_addSaying_34 (sn_gI (pc := 35) (h := 1) (f := 6) dX3_addSaying_35 am_CL_3 sh_1 rfl (Nat.le_of_ble_eq_true rfl) tw_103 (sn_iconst (pc := 38) (v := 1) dX3_addSaying_38 rfl (sn_iadd (pc := 39) dX3_addSaying_39 (sn_pI (pc := 40) (h := 1) (f := 6) dX3_addSaying_40 am_CL_3 sh_1 rfl (Nat.le_of_ble_eq_true rfl) tw_103 rfl rfl (sn_retv (pc := 43) (R := fun τ => (some (τ))) dX3_addSaying_43 rfl (fun _ _ _ e h => by cases e; exact h)))))))))))))))))))))))))) _ _ _ _ _ ((eq_H_addSaying_1 x1 x2 x3 x4 σ).symm.trans e) hr
noncomputable def cF_H_addSaying_1 : am_Fn := fun _ args σ K => match args with
  | [.ref q0, .int z1, .int z2, .int z3, .int z4] => match Nat.beq q0 1 with
    | true => (f_H_addSaying_1 z1 z2 z3 z4 σ).bind (fun p => K none p)
    | _ => none
  | _ => none
theorem cal_H_addSaying_1 (G : am_G) : am_Cal G M_H_addSaying cF_H_addSaying_1 := by
  intro ρ args σ K r e
  unfold cF_H_addSaying_1 at e
  split at e
  · split at e
    · rename_i hq0
      obtain ⟨p, h1, h2⟩ := am_bind_some e
      rw [Nat.eq_of_beq_eq_true hq0]
      exact ⟨none, p, am_Met.of rfl (Nat.le_of_ble_eq_true rfl) (s_H_addSaying_1 G _ _ _ _ σ p _ h1 ⟨rfl, rfl⟩), h2⟩
    · cases e
  · cases e
abbrev M_X_says : am_MD := (yX11_says, cX11_says, 5, (some .int), 2, 47)
theorem dX11_says_0 : decode cX11_says 0 = .ok (.aload_n 0, 1) := by decide +kernel
theorem dX11_says_1 : decode cX11_says 1 = .ok (.getfield 10, 3) := by decide +kernel
theorem dX11_says_4 : decode cX11_says 4 = .ok (.iload_n 1, 1) := by decide +kernel
theorem dX11_says_5 : decode cX11_says 5 = .ok (.invokevirtual 81, 3) := by decide +kernel
theorem dX11_says_8 : decode cX11_says 8 = .ok (.ifCond .eq 24, 3) := by decide +kernel
theorem dX11_says_11 : decode cX11_says 11 = .ok (.aload_n 0, 1) := by decide +kernel
theorem dX11_says_12 : decode cX11_says 12 = .ok (.iload_n 2, 1) := by decide +kernel
theorem dX11_says_13 : decode cX11_says 13 = .ok (.iload_n 3, 1) := by decide +kernel
theorem dX11_says_14 : decode cX11_says 14 = .ok (.invokevirtual 129, 3) := by decide +kernel
theorem dX11_says_17 : decode cX11_says 17 = .ok (.ifCond .eq 15, 3) := by decide +kernel
theorem dX11_says_20 : decode cX11_says 20 = .ok (.aload_n 0, 1) := by decide +kernel
theorem dX11_says_21 : decode cX11_says 21 = .ok (.getfield 10, 3) := by decide +kernel
theorem dX11_says_24 : decode cX11_says 24 = .ok (.iload 4, 2) := by decide +kernel
theorem dX11_says_26 : decode cX11_says 26 = .ok (.invokevirtual 110, 3) := by decide +kernel
theorem dX11_says_29 : decode cX11_says 29 = .ok (.ifCond .ne 9, 3) := by decide +kernel
theorem dX11_says_32 : decode cX11_says 32 = .ok (.aload_n 0, 1) := by decide +kernel
theorem dX11_says_33 : decode cX11_says 33 = .ok (.iconst (-1), 1) := by decide +kernel
theorem dX11_says_34 : decode cX11_says 34 = .ok (.invokevirtual 55, 3) := by decide +kernel
theorem dX11_says_37 : decode cX11_says 37 = .ok (.ireturn, 1) := by decide +kernel
theorem dX11_says_38 : decode cX11_says 38 = .ok (.aload_n 0, 1) := by decide +kernel
theorem dX11_says_39 : decode cX11_says 39 = .ok (.getfield 10, 3) := by decide +kernel
theorem dX11_says_42 : decode cX11_says 42 = .ok (.getfield 192, 3) := by decide +kernel
theorem dX11_says_45 : decode cX11_says 45 = .ok (.bipush 8, 2) := by decide +kernel
theorem dX11_says_47 : decode cX11_says 47 = .ok (.if_icmp .lt 10, 3) := by decide +kernel
theorem dX11_says_50 : decode cX11_says 50 = .ok (.aload_n 0, 1) := by decide +kernel
theorem dX11_says_51 : decode cX11_says 51 = .ok (.bipush (-6), 2) := by decide +kernel
theorem dX11_says_53 : decode cX11_says 53 = .ok (.invokevirtual 55, 3) := by decide +kernel
theorem dX11_says_56 : decode cX11_says 56 = .ok (.ireturn, 1) := by decide +kernel
theorem dX11_says_57 : decode cX11_says 57 = .ok (.aload_n 0, 1) := by decide +kernel
theorem dX11_says_58 : decode cX11_says 58 = .ok (.getfield 10, 3) := by decide +kernel
theorem dX11_says_61 : decode cX11_says 61 = .ok (.iload_n 1, 1) := by decide +kernel
theorem dX11_says_62 : decode cX11_says 62 = .ok (.iload_n 2, 1) := by decide +kernel
theorem dX11_says_63 : decode cX11_says 63 = .ok (.iload_n 3, 1) := by decide +kernel
theorem dX11_says_64 : decode cX11_says 64 = .ok (.iload 4, 2) := by decide +kernel
theorem dX11_says_66 : decode cX11_says 66 = .ok (.invokevirtual 195, 3) := by decide +kernel
theorem dX11_says_69 : decode cX11_says 69 = .ok (.aload_n 0, 1) := by decide +kernel
theorem dX11_says_70 : decode cX11_says 70 = .ok (.getfield 10, 3) := by decide +kernel
theorem dX11_says_73 : decode cX11_says 73 = .ok (.getfield 192, 3) := by decide +kernel
theorem dX11_says_76 : decode cX11_says 76 = .ok (.iconst 1, 1) := by decide +kernel
theorem dX11_says_77 : decode cX11_says 77 = .ok (.isub, 1) := by decide +kernel
theorem dX11_says_78 : decode cX11_says 78 = .ok (.ireturn, 1) := by decide +kernel
noncomputable def g_X_says_32 (σ : am_St) : Option (Int32 × am_St) :=
  (f_X_refuse (-1) σ).bind (fun p1 =>
    some ((p1.1, p1.2)))
noncomputable def f_X_says_32 (σ : am_St) : Option (Int32 × am_St) := am_lk (g_X_says_32  σ)
theorem eq_X_says_32 (σ : am_St) : f_X_says_32  σ = g_X_says_32  σ := am_lk_eq _
set_option maxRecDepth 100000 in
set_option maxHeartbeats 4000000 in
theorem s_X_says_32 (G : am_G) (σ : am_St) (r : Int32 × am_St) (Q : am_AQ) (e : f_X_says_32  σ = some r) (hr : am_Pi r Q) : am_AW G M_X_says 32 [(0, .ref 0)] [] σ Q :=
  (show am_Snd G M_X_says 32 am_Pi _ from (sn_aload_n (pc := 32) (i := 0) dX11_says_32 rfl (sn_iconst (pc := 33) (v := (-1)) dX11_says_33 (show Int32.ofInt (-1) = (-1) by decide) (sn_callV (pc := 34) (N := M_X_refuse) dX11_says_34 (cal_X_refuse G) sh_0 rfl tw_251 tw_253 tp_0 tw_1 tw_254 dsc_X11_refuse rfl (sn_reti (pc := 37) (R := fun x τ => (some ((x, τ)))) dX11_says_37 rfl (fun _ _ _ _ e h => by cases e; exact h)))))) _ _ _ _ _ ((eq_X_says_32  σ).symm.trans e) hr
noncomputable def g_X_says_38 (x1 : Int32) (x2 : Int32) (x3 : Int32) (x4 : Int32) (σ : am_St) : Option (Int32 × am_St) :=
  if (σ.1 1 6) < 8 then
    (f_H_addSaying_1 x1 x2 x3 x4 σ).bind (fun p1 =>
      some (((p1.1 1 6) - 1, p1)))
  else
    (f_X_refuse (-6) σ).bind (fun p2 =>
      some ((p2.1, p2.2)))
noncomputable def f_X_says_38 (x1 : Int32) (x2 : Int32) (x3 : Int32) (x4 : Int32) (σ : am_St) : Option (Int32 × am_St) := am_lk (g_X_says_38 x1 x2 x3 x4 σ)
theorem eq_X_says_38 (x1 : Int32) (x2 : Int32) (x3 : Int32) (x4 : Int32) (σ : am_St) : f_X_says_38 x1 x2 x3 x4 σ = g_X_says_38 x1 x2 x3 x4 σ := am_lk_eq _
set_option maxRecDepth 100000 in
set_option maxHeartbeats 4000000 in
theorem s_X_says_38 (G : am_G) (x1 : Int32) (x2 : Int32) (x3 : Int32) (x4 : Int32) (σ : am_St) (r : Int32 × am_St) (Q : am_AQ) (e : f_X_says_38 x1 x2 x3 x4 σ = some r) (hr : am_Pi r Q) : am_AW G M_X_says 38 [(4, .int x4), (3, .int x3), (2, .int x2), (1, .int x1), (0, .ref 0)] [] σ Q :=
  (show am_Snd G M_X_says 38 am_Pi _ from (sn_aload_n (pc := 38) (i := 0) dX11_says_38 rfl (sn_gR (r0 := 1) (pc := 39) (h := 0) (f := 0) dX11_says_39 am_CL_10 sh_0 rfl (Nat.le_of_ble_eq_true rfl) tw_219 (sn_gI (pc := 42) (h := 1) (f := 6) dX11_says_42 am_CL_3 sh_1 rfl (Nat.le_of_ble_eq_true rfl) tw_106 (sn_bipush (pc := 45) (v := 8) dX11_says_45 rfl (sn_icmp_lt (pc := 47) (tgt := 57) dX11_says_47 rfl (sn_aload_n (pc := 57) (i := 0) dX11_says_57 rfl (sn_gR (r0 := 1) (pc := 58) (h := 0) (f := 0) dX11_says_58 am_CL_10 sh_0 rfl (Nat.le_of_ble_eq_true rfl) tw_219 (sn_iload_n (pc := 61) (i := 1) dX11_says_61 rfl (sn_iload_n (pc := 62) (i := 2) dX11_says_62 rfl (sn_iload_n (pc := 63) (i := 3) dX11_says_63 rfl (sn_iload (pc := 64) dX11_says_64 (sn_callV (pc := 66) (N := M_H_addSaying) dX11_says_66 (cal_H_addSaying_1 G) sh_1 rfl tw_638 tw_639 tw_640 tw_2 tw_641 dsc_X3_addSaying rfl (sn_aload_n (pc := 69) (i := 0) dX11_says_69 rfl (sn_gR (r0 := 1) (pc := 70) (h := 0) (f := 0) dX11_says_70 am_CL_10 sh_0 rfl (Nat.le_of_ble_eq_true rfl) tw_219 (sn_gI (pc := 73) (h := 1) (f := 6) dX11_says_73 am_CL_3 sh_1 rfl (Nat.le_of_ble_eq_true rfl) tw_106 (sn_iconst (pc := 76) (v := 1) dX11_says_76 rfl (sn_isub (pc := 77) dX11_says_77 (sn_reti (pc := 78) (R := fun x τ => (some ((x, τ)))) dX11_says_78 rfl (fun _ _ _ _ e h => by cases e; exact h)))))))))))))) (sn_aload_n (pc := 50) (i := 0) dX11_says_50 rfl (sn_bipush (pc := 51) (v := (-6)) dX11_says_51 (show (Int8.ofInt (-6)).toInt32 = (-6) by decide) (sn_callV (pc := 53) (N := M_X_refuse) dX11_says_53 (cal_X_refuse G) sh_0 rfl tw_251 tw_253 tp_0 tw_1 tw_254 dsc_X11_refuse rfl (sn_reti (pc := 56) (R := fun x τ => (some ((x, τ)))) dX11_says_56 rfl (fun _ _ _ _ e h => by cases e; exact h))))))))))) _ _ _ _ _ ((eq_X_says_38 x1 x2 x3 x4 σ).symm.trans e) hr
noncomputable def g_X_says (x1 : Int32) (x2 : Int32) (x3 : Int32) (x4 : Int32) (σ : am_St) : Option (Int32 × am_St) :=
  (f_H_hasChild_1 x1 σ).bind (fun p1 =>
    if p1.1 = 0 then
      f_X_says_32 p1.2
    else
      (f_X_isPoint x2 x3 p1.2).bind (fun p2 =>
        if p2.1 = 0 then
          f_X_says_32 p2.2
        else
          (f_H_hasRoom_1 x4 p2.2).bind (fun p3 =>
            if p3.1 = 0 then
              f_X_says_32 p3.2
            else
              f_X_says_38 x1 x2 x3 x4 p3.2)))
noncomputable def f_X_says (x1 : Int32) (x2 : Int32) (x3 : Int32) (x4 : Int32) (σ : am_St) : Option (Int32 × am_St) := am_lk (g_X_says x1 x2 x3 x4 σ)
theorem eq_X_says (x1 : Int32) (x2 : Int32) (x3 : Int32) (x4 : Int32) (σ : am_St) : f_X_says x1 x2 x3 x4 σ = g_X_says x1 x2 x3 x4 σ := am_lk_eq _
set_option maxRecDepth 100000 in
set_option maxHeartbeats 4000000 in
theorem s_X_says (G : am_G) (x1 : Int32) (x2 : Int32) (x3 : Int32) (x4 : Int32) (σ : am_St) (r : Int32 × am_St) (Q : am_AQ) (e : f_X_says x1 x2 x3 x4 σ = some r) (hr : am_Pi r Q) : am_AW G M_X_says 0 [(0, .ref 0), (1, .int x1), (2, .int x2), (3, .int x3), (4, .int x4)] [] σ Q :=
  (show am_Snd G M_X_says 0 am_Pi _ from (sn_aload_n (pc := 0) (i := 0) dX11_says_0 rfl (sn_gR (r0 := 1) (pc := 1) (h := 0) (f := 0) dX11_says_1 am_CL_10 sh_0 rfl (Nat.le_of_ble_eq_true rfl) tw_219 (sn_iload_n (pc := 4) (i := 1) dX11_says_4 rfl (sn_callV (pc := 5) (N := M_H_hasChild) dX11_says_5 (cal_H_hasChild_1 G) sh_1 rfl tw_434 tw_385 tw_386 tw_2 tw_387 dsc_X3_hasChild rfl (sn_if_eq (pc := 8) (tgt := 32) dX11_says_8 rfl (sn_lf (pc := 32) (ln_a (i := 0) (q := 0) (ln_end (o := fun τ => f_X_says_32 τ) (fun _ _ _ e h => s_X_says_32 G  _ _ _ e h)))) (sn_aload_n (pc := 11) (i := 0) dX11_says_11 rfl (sn_iload_n (pc := 12) (i := 2) dX11_says_12 rfl (sn_iload_n (pc := 13) (i := 3) dX11_says_13 rfl (sn_callV (pc := 14) (N := M_X_isPoint) dX11_says_14 (cal_X_isPoint G) sh_0 rfl tw_545 tw_547 tp_16 tw_1 tw_548 dsc_X11_isPoint rfl (sn_if_eq (pc := 17) (tgt := 32) dX11_says_17 rfl (sn_lf (pc := 32) (ln_a (i := 0) (q := 0) (ln_end (o := fun τ => f_X_says_32 τ) (fun _ _ _ e h => s_X_says_32 G  _ _ _ e h)))) (sn_aload_n (pc := 20) (i := 0) dX11_says_20 rfl (sn_gR (r0 := 1) (pc := 21) (h := 0) (f := 0) dX11_says_21 am_CL_10 sh_0 rfl (Nat.le_of_ble_eq_true rfl) tw_219 (sn_iload (pc := 24) dX11_says_24 (sn_callV (pc := 26) (N := M_H_hasRoom) dX11_says_26 (cal_H_hasRoom_1 G) sh_1 rfl tw_529 tw_324 tw_325 tw_2 tw_326 dsc_X3_hasRoom rfl (sn_if_ne (pc := 29) (tgt := 38) dX11_says_29 rfl (sn_lf (pc := 38) (ln_a (i := 0) (q := 0) (ln_i (i := 1) (fun z0 => (ln_i (i := 2) (fun z1 => (ln_i (i := 3) (fun z2 => (ln_i (i := 4) (fun z3 => (ln_end (o := fun τ => f_X_says_38 z0 z1 z2 z3 τ) (fun _ _ _ e h => s_X_says_38 G z0 z1 z2 z3 _ _ _ e h)))))))))))) (sn_lf (pc := 32) (ln_a (i := 0) (q := 0) (ln_end (o := fun τ => f_X_says_32 τ) (fun _ _ _ e h => s_X_says_32 G  _ _ _ e h)))))))))))))))))))) _ _ _ _ _ ((eq_X_says x1 x2 x3 x4 σ).symm.trans e) hr
noncomputable def cF_X_says : am_Fn := fun _ args σ K => match args with
  | [.ref q0, .int z1, .int z2, .int z3, .int z4] => match Nat.beq q0 0 with
    | true => (f_X_says z1 z2 z3 z4 σ).bind (fun p => K (some (.int p.1)) p.2)
    | _ => none
  | _ => none
theorem cal_X_says (G : am_G) : am_Cal G M_X_says cF_X_says := by
  intro ρ args σ K r e
  unfold cF_X_says at e
  split at e
  · split at e
    · rename_i hq0
      obtain ⟨p, h1, h2⟩ := am_bind_some e
      rw [Nat.eq_of_beq_eq_true hq0]
      exact ⟨some (.int p.1), p.2, am_Met.of rfl (Nat.le_of_ble_eq_true rfl) (s_X_says G _ _ _ _ σ p _ h1 ⟨rfl, rfl⟩), h2⟩
    · cases e
  · cases e
abbrev M_X_hush : am_MD := (yX11_hush, cX11_hush, 2, (some .int), 0, 0)
theorem dX11_hush_0 : decode cX11_hush 0 = .ok (.aload_n 0, 1) := by decide +kernel
theorem dX11_hush_1 : decode cX11_hush 1 = .ok (.getfield 10, 3) := by decide +kernel
theorem dX11_hush_4 : decode cX11_hush 4 = .ok (.getfield 192, 3) := by decide +kernel
theorem dX11_hush_7 : decode cX11_hush 7 = .ok (.istore_n 1, 1) := by decide +kernel
theorem dX11_hush_8 : decode cX11_hush 8 = .ok (.aload_n 0, 1) := by decide +kernel
theorem dX11_hush_9 : decode cX11_hush 9 = .ok (.getfield 10, 3) := by decide +kernel
theorem dX11_hush_12 : decode cX11_hush 12 = .ok (.iconst 0, 1) := by decide +kernel
theorem dX11_hush_13 : decode cX11_hush 13 = .ok (.putfield 192, 3) := by decide +kernel
theorem dX11_hush_16 : decode cX11_hush 16 = .ok (.iload_n 1, 1) := by decide +kernel
theorem dX11_hush_17 : decode cX11_hush 17 = .ok (.ireturn, 1) := by decide +kernel
noncomputable def g_X_hush (σ : am_St) : Option (Int32 × am_St) :=
  let v1 := σ.1 1 6
  let s2 := am_sI σ 1 6 0
  some ((v1, s2))
noncomputable def f_X_hush (σ : am_St) : Option (Int32 × am_St) := am_lk (g_X_hush  σ)
theorem eq_X_hush (σ : am_St) : f_X_hush  σ = g_X_hush  σ := am_lk_eq _
set_option maxRecDepth 100000 in
set_option maxHeartbeats 4000000 in
theorem s_X_hush (G : am_G) (σ : am_St) (r : Int32 × am_St) (Q : am_AQ) (e : f_X_hush  σ = some r) (hr : am_Pi r Q) : am_AW G M_X_hush 0 [(0, .ref 0)] [] σ Q :=
  (show am_Snd G M_X_hush 0 am_Pi _ from (sn_aload_n (pc := 0) (i := 0) dX11_hush_0 rfl (sn_gR (r0 := 1) (pc := 1) (h := 0) (f := 0) dX11_hush_1 am_CL_10 sh_0 rfl (Nat.le_of_ble_eq_true rfl) tw_219 (sn_gI (pc := 4) (h := 1) (f := 6) dX11_hush_4 am_CL_3 sh_1 rfl (Nat.le_of_ble_eq_true rfl) tw_106 (sn_istore_n (pc := 7) (i := 1) dX11_hush_7 rfl (Nat.le_of_ble_eq_true rfl) (sn_aload_n (pc := 8) (i := 0) dX11_hush_8 rfl (sn_gR (r0 := 1) (pc := 9) (h := 0) (f := 0) dX11_hush_9 am_CL_10 sh_0 rfl (Nat.le_of_ble_eq_true rfl) tw_219 (sn_iconst (pc := 12) (v := 0) dX11_hush_12 rfl (sn_pI (pc := 13) (h := 1) (f := 6) dX11_hush_13 am_CL_3 sh_1 rfl (Nat.le_of_ble_eq_true rfl) tw_106 rfl rfl (sn_iload_n (pc := 16) (i := 1) dX11_hush_16 rfl (sn_reti (pc := 17) (R := fun x τ => (some ((x, τ)))) dX11_hush_17 rfl (fun _ _ _ _ e h => by cases e; exact h)))))))))))) _ _ _ _ _ ((eq_X_hush  σ).symm.trans e) hr
noncomputable def cF_X_hush : am_Fn := fun _ args σ K => match args with
  | [.ref q0] => match Nat.beq q0 0 with
    | true => (f_X_hush σ).bind (fun p => K (some (.int p.1)) p.2)
    | _ => none
  | _ => none
theorem cal_X_hush (G : am_G) : am_Cal G M_X_hush cF_X_hush := by
  intro ρ args σ K r e
  unfold cF_X_hush at e
  split at e
  · split at e
    · rename_i hq0
      obtain ⟨p, h1, h2⟩ := am_bind_some e
      rw [Nat.eq_of_beq_eq_true hq0]
      exact ⟨some (.int p.1), p.2, am_Met.of rfl (Nat.le_of_ble_eq_true rfl) (s_X_hush G  σ p _ h1 ⟨rfl, rfl⟩), h2⟩
    · cases e
  · cases e
abbrev M_H_sayingAt : am_MD := (yX3_sayingAt, cX3_sayingAt, 2, (some .int), 0, 0)
theorem dX3_sayingAt_0 : decode cX3_sayingAt 0 = .ok (.iload_n 1, 1) := by decide +kernel
theorem dX3_sayingAt_1 : decode cX3_sayingAt 1 = .ok (.ifCond .lt 20, 3) := by decide +kernel
theorem dX3_sayingAt_4 : decode cX3_sayingAt 4 = .ok (.iload_n 1, 1) := by decide +kernel
theorem dX3_sayingAt_5 : decode cX3_sayingAt 5 = .ok (.aload_n 0, 1) := by decide +kernel
theorem dX3_sayingAt_6 : decode cX3_sayingAt 6 = .ok (.getfield 80, 3) := by decide +kernel
theorem dX3_sayingAt_9 : decode cX3_sayingAt 9 = .ok (.if_icmp .ge 12, 3) := by decide +kernel
theorem dX3_sayingAt_12 : decode cX3_sayingAt 12 = .ok (.aload_n 0, 1) := by decide +kernel
theorem dX3_sayingAt_13 : decode cX3_sayingAt 13 = .ok (.getfield 43, 3) := by decide +kernel
theorem dX3_sayingAt_16 : decode cX3_sayingAt 16 = .ok (.iload_n 1, 1) := by decide +kernel
theorem dX3_sayingAt_17 : decode cX3_sayingAt 17 = .ok (.iaload, 1) := by decide +kernel
theorem dX3_sayingAt_18 : decode cX3_sayingAt 18 = .ok (.goto 4, 3) := by decide +kernel
theorem dX3_sayingAt_21 : decode cX3_sayingAt 21 = .ok (.iconst 0, 1) := by decide +kernel
theorem dX3_sayingAt_22 : decode cX3_sayingAt 22 = .ok (.ireturn, 1) := by decide +kernel
noncomputable def g_H_sayingAt_1 (x1 : Int32) (σ : am_St) : Option (Int32 × am_St) :=
  if x1 < 0 then
    some ((0, σ))
  else
    if (σ.1 1 6) ≤ x1 then
      some ((0, σ))
    else
      if am_ix x1 8 = true then
        some ((σ.1 10 x1.toNatClampNeg, σ))
      else none
noncomputable def f_H_sayingAt_1 (x1 : Int32) (σ : am_St) : Option (Int32 × am_St) := am_lk (g_H_sayingAt_1 x1 σ)
theorem eq_H_sayingAt_1 (x1 : Int32) (σ : am_St) : f_H_sayingAt_1 x1 σ = g_H_sayingAt_1 x1 σ := am_lk_eq _
set_option maxRecDepth 100000 in
set_option maxHeartbeats 4000000 in
theorem s_H_sayingAt_1 (G : am_G) (x1 : Int32) (σ : am_St) (r : Int32 × am_St) (Q : am_AQ) (e : f_H_sayingAt_1 x1 σ = some r) (hr : am_Pi r Q) : am_AW G M_H_sayingAt 0 [(0, .ref 1), (1, .int x1)] [] σ Q :=
  (show am_Snd G M_H_sayingAt 0 am_Pi _ from (sn_iload_n (pc := 0) (i := 1) dX3_sayingAt_0 rfl (sn_if_lt (pc := 1) (tgt := 21) dX3_sayingAt_1 rfl (sn_iconst (pc := 21) (v := 0) dX3_sayingAt_21 rfl (sn_reti (pc := 22) (R := fun x τ => (some ((x, τ)))) dX3_sayingAt_22 rfl (fun _ _ _ _ e h => by cases e; exact h))) (sn_iload_n (pc := 4) (i := 1) dX3_sayingAt_4 rfl (sn_aload_n (pc := 5) (i := 0) dX3_sayingAt_5 rfl (sn_gI (pc := 6) (h := 1) (f := 6) dX3_sayingAt_6 am_CL_3 sh_1 rfl (Nat.le_of_ble_eq_true rfl) tw_103 (sn_icmp_ge (pc := 9) (tgt := 21) dX3_sayingAt_9 rfl (sn_iconst (pc := 21) (v := 0) dX3_sayingAt_21 rfl (sn_reti (pc := 22) (R := fun x τ => (some ((x, τ)))) dX3_sayingAt_22 rfl (fun _ _ _ _ e h => by cases e; exact h))) (sn_aload_n (pc := 12) (i := 0) dX3_sayingAt_12 rfl (sn_gR (r0 := 10) (pc := 13) (h := 1) (f := 15) dX3_sayingAt_13 am_CL_3 sh_1 rfl (Nat.le_of_ble_eq_true rfl) tw_115 (sn_iload_n (pc := 16) (i := 1) dX3_sayingAt_16 rfl (sn_aI (pc := 17) (h := 10) dX3_sayingAt_17 sh_10 (sn_goto (pc := 18) (tgt := 22) dX3_sayingAt_18 rfl (sn_reti (pc := 22) (R := fun x τ => (some ((x, τ)))) dX3_sayingAt_22 rfl (fun _ _ _ _ e h => by cases e; exact h)))))))))))))) _ _ _ _ _ ((eq_H_sayingAt_1 x1 σ).symm.trans e) hr
noncomputable def cF_H_sayingAt_1 : am_Fn := fun _ args σ K => match args with
  | [.ref q0, .int z1] => match Nat.beq q0 1 with
    | true => (f_H_sayingAt_1 z1 σ).bind (fun p => K (some (.int p.1)) p.2)
    | _ => none
  | _ => none
theorem cal_H_sayingAt_1 (G : am_G) : am_Cal G M_H_sayingAt cF_H_sayingAt_1 := by
  intro ρ args σ K r e
  unfold cF_H_sayingAt_1 at e
  split at e
  · split at e
    · rename_i hq0
      obtain ⟨p, h1, h2⟩ := am_bind_some e
      rw [Nat.eq_of_beq_eq_true hq0]
      exact ⟨some (.int p.1), p.2, am_Met.of rfl (Nat.le_of_ble_eq_true rfl) (s_H_sayingAt_1 G _ σ p _ h1 ⟨rfl, rfl⟩), h2⟩
    · cases e
  · cases e
abbrev M_W_leftBy : am_MD := (yX10_leftBy, cX10_leftBy, 4, (some .int), 3, 76)
theorem dX10_leftBy_0 : decode cX10_leftBy 0 = .ok (.aload_n 1, 1) := by decide +kernel
theorem dX10_leftBy_1 : decode cX10_leftBy 1 = .ok (.iload_n 2, 1) := by decide +kernel
theorem dX10_leftBy_2 : decode cX10_leftBy 2 = .ok (.invokevirtual 80, 3) := by decide +kernel
theorem dX10_leftBy_5 : decode cX10_leftBy 5 = .ok (.istore_n 3, 1) := by decide +kernel
theorem dX10_leftBy_6 : decode cX10_leftBy 6 = .ok (.aload_n 0, 1) := by decide +kernel
theorem dX10_leftBy_7 : decode cX10_leftBy 7 = .ok (.aload_n 1, 1) := by decide +kernel
theorem dX10_leftBy_8 : decode cX10_leftBy 8 = .ok (.iload_n 3, 1) := by decide +kernel
theorem dX10_leftBy_9 : decode cX10_leftBy 9 = .ok (.invokestatic 61, 3) := by decide +kernel
theorem dX10_leftBy_12 : decode cX10_leftBy 12 = .ok (.invokevirtual 96, 3) := by decide +kernel
theorem dX10_leftBy_15 : decode cX10_leftBy 15 = .ok (.aload_n 0, 1) := by decide +kernel
theorem dX10_leftBy_16 : decode cX10_leftBy 16 = .ok (.iload_n 3, 1) := by decide +kernel
theorem dX10_leftBy_17 : decode cX10_leftBy 17 = .ok (.invokestatic 67, 3) := by decide +kernel
theorem dX10_leftBy_20 : decode cX10_leftBy 20 = .ok (.iload_n 3, 1) := by decide +kernel
theorem dX10_leftBy_21 : decode cX10_leftBy 21 = .ok (.invokestatic 64, 3) := by decide +kernel
theorem dX10_leftBy_24 : decode cX10_leftBy 24 = .ok (.invokevirtual 87, 3) := by decide +kernel
theorem dX10_leftBy_27 : decode cX10_leftBy 27 = .ok (.ireturn, 1) := by decide +kernel
noncomputable def g_W_leftBy_1_15 (x3 : Int32) (σ : am_St) : Option (Int32 × am_St) :=
  (f_H_minuteIn x3 σ).bind (fun p1 =>
    (f_H_roomIn x3 p1.2).bind (fun p2 =>
      (f_W_through p1.1 p2.1 p2.2).bind (fun p3 =>
        some ((p3.1, p3.2)))))
noncomputable def f_W_leftBy_1_15 (x3 : Int32) (σ : am_St) : Option (Int32 × am_St) := am_lk (g_W_leftBy_1_15 x3 σ)
theorem eq_W_leftBy_1_15 (x3 : Int32) (σ : am_St) : f_W_leftBy_1_15 x3 σ = g_W_leftBy_1_15 x3 σ := am_lk_eq _
set_option maxRecDepth 100000 in
set_option maxHeartbeats 4000000 in
theorem s_W_leftBy_1_15 (G : am_G) (x3 : Int32) (σ : am_St) (r : Int32 × am_St) (Q : am_AQ) (e : f_W_leftBy_1_15 x3 σ = some r) (hr : am_Pi r Q) : am_AW G M_W_leftBy 15 [(3, .int x3), (0, .ref 54)] [] σ Q :=
  (show am_Snd G M_W_leftBy 15 am_Pi _ from (sn_aload_n (pc := 15) (i := 0) dX10_leftBy_15 rfl (sn_iload_n (pc := 16) (i := 3) dX10_leftBy_16 rfl (sn_callS (pc := 17) (N := M_H_minuteIn) dX10_leftBy_17 (cal_H_minuteIn G) tw_354 tw_355 tw_2 tw_356 dsc_X3_minuteIn rfl (sn_iload_n (pc := 20) (i := 3) dX10_leftBy_20 rfl (sn_callS (pc := 21) (N := M_H_roomIn) dX10_leftBy_21 (cal_H_roomIn G) tw_351 tw_352 tw_2 tw_353 dsc_X3_roomIn rfl (sn_callV (pc := 24) (N := M_W_through) dX10_leftBy_24 (cal_W_through G) sh_54 rfl tw_659 tw_584 tw_585 tw_10 tw_586 dsc_X10_through rfl (sn_reti (pc := 27) (R := fun x τ => (some ((x, τ)))) dX10_leftBy_27 rfl (fun _ _ _ _ e h => by cases e; exact h))))))))) _ _ _ _ _ ((eq_W_leftBy_1_15 x3 σ).symm.trans e) hr
noncomputable def g_W_leftBy_1 (x2 : Int32) (σ : am_St) : Option (Int32 × am_St) :=
  (f_H_sayingAt_1 x2 σ).bind (fun p1 =>
    (f_H_childIn p1.1 p1.2).bind (fun p2 =>
      (f_W_look_1 p2.1 p2.2).bind (fun p3 =>
        f_W_leftBy_1_15 p1.1 p3)))
noncomputable def f_W_leftBy_1 (x2 : Int32) (σ : am_St) : Option (Int32 × am_St) := am_lk (g_W_leftBy_1 x2 σ)
theorem eq_W_leftBy_1 (x2 : Int32) (σ : am_St) : f_W_leftBy_1 x2 σ = g_W_leftBy_1 x2 σ := am_lk_eq _
set_option maxRecDepth 100000 in
set_option maxHeartbeats 4000000 in
theorem s_W_leftBy_1 (G : am_G) (x2 : Int32) (σ : am_St) (r : Int32 × am_St) (Q : am_AQ) (e : f_W_leftBy_1 x2 σ = some r) (hr : am_Pi r Q) : am_AW G M_W_leftBy 0 [(0, .ref 54), (1, .ref 1), (2, .int x2)] [] σ Q :=
  (show am_Snd G M_W_leftBy 0 am_Pi _ from (sn_aload_n (pc := 0) (i := 1) dX10_leftBy_0 rfl (sn_iload_n (pc := 1) (i := 2) dX10_leftBy_1 rfl (sn_callV (pc := 2) (N := M_H_sayingAt) dX10_leftBy_2 (cal_H_sayingAt_1 G) sh_1 rfl tw_654 tw_655 tw_656 tw_2 tw_657 dsc_X3_sayingAt rfl (sn_istore_n (pc := 5) (i := 3) dX10_leftBy_5 rfl (Nat.le_of_ble_eq_true rfl) (sn_aload_n (pc := 6) (i := 0) dX10_leftBy_6 rfl (sn_aload_n (pc := 7) (i := 1) dX10_leftBy_7 rfl (sn_iload_n (pc := 8) (i := 3) dX10_leftBy_8 rfl (sn_callS (pc := 9) (N := M_H_childIn) dX10_leftBy_9 (cal_H_childIn G) tw_348 tw_349 tw_2 tw_350 dsc_X3_childIn rfl (sn_callV (pc := 12) (N := M_W_look) dX10_leftBy_12 (cal_W_look_1 G) sh_54 rfl tw_658 tw_579 tw_580 tw_10 tw_581 dsc_X10_look rfl (sn_lf (pc := 15) (ln_a (i := 0) (q := 54) (ln_i (i := 3) (fun z0 => (ln_end (o := fun τ => f_W_leftBy_1_15 z0 τ) (fun _ _ _ e h => s_W_leftBy_1_15 G z0 _ _ _ e h)))))))))))))))) _ _ _ _ _ ((eq_W_leftBy_1 x2 σ).symm.trans e) hr
noncomputable def cF_W_leftBy_1 : am_Fn := fun _ args σ K => match args with
  | [.ref q0, .ref q1, .int z2] => match Nat.beq q0 54, Nat.beq q1 1 with
    | true, true => (f_W_leftBy_1 z2 σ).bind (fun p => K (some (.int p.1)) p.2)
    | _, _ => none
  | _ => none
theorem cal_W_leftBy_1 (G : am_G) : am_Cal G M_W_leftBy cF_W_leftBy_1 := by
  intro ρ args σ K r e
  unfold cF_W_leftBy_1 at e
  split at e
  · split at e
    · rename_i hq0 hq1
      obtain ⟨p, h1, h2⟩ := am_bind_some e
      rw [Nat.eq_of_beq_eq_true hq0]
      rw [Nat.eq_of_beq_eq_true hq1]
      exact ⟨some (.int p.1), p.2, am_Met.of rfl (Nat.le_of_ble_eq_true rfl) (s_W_leftBy_1 G _ σ p _ h1 ⟨rfl, rfl⟩), h2⟩
    · cases e
  · cases e
