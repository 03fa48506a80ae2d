abbrev M_P_unbroken : am_MD := (yX7_unbroken, cX7_unbroken, 9, (some .long), 4, 85)
theorem dX7_unbroken_0 : decode cX7_unbroken 0 = .ok (.lconst 1, 1) := by decide +kernel
theorem dX7_unbroken_1 : decode cX7_unbroken 1 = .ok (.lstore_n 3, 1) := by decide +kernel
theorem dX7_unbroken_2 : decode cX7_unbroken 2 = .ok (.lconst 1, 1) := by decide +kernel
theorem dX7_unbroken_3 : decode cX7_unbroken 3 = .ok (.lstore 5, 2) := by decide +kernel
theorem dX7_unbroken_5 : decode cX7_unbroken 5 = .ok (.iconst 0, 1) := by decide +kernel
theorem dX7_unbroken_6 : decode cX7_unbroken 6 = .ok (.istore 7, 2) := by decide +kernel
theorem dX7_unbroken_8 : decode cX7_unbroken 8 = .ok (.iload 7, 2) := by decide +kernel
theorem dX7_unbroken_10 : decode cX7_unbroken 10 = .ok (.aload_n 0, 1) := by decide +kernel
theorem dX7_unbroken_11 : decode cX7_unbroken 11 = .ok (.getfield 18, 3) := by decide +kernel
theorem dX7_unbroken_14 : decode cX7_unbroken 14 = .ok (.if_icmp .ge 45, 3) := by decide +kernel
theorem dX7_unbroken_17 : decode cX7_unbroken 17 = .ok (.iconst 0, 1) := by decide +kernel
theorem dX7_unbroken_18 : decode cX7_unbroken 18 = .ok (.istore 8, 2) := by decide +kernel
theorem dX7_unbroken_20 : decode cX7_unbroken 20 = .ok (.iload 8, 2) := by decide +kernel
theorem dX7_unbroken_22 : decode cX7_unbroken 22 = .ok (.iload_n 1, 1) := by decide +kernel
theorem dX7_unbroken_23 : decode cX7_unbroken 23 = .ok (.if_icmp .ge 30, 3) := by decide +kernel
theorem dX7_unbroken_26 : decode cX7_unbroken 26 = .ok (.lload_n 3, 1) := by decide +kernel
theorem dX7_unbroken_27 : decode cX7_unbroken 27 = .ok (.bipush 10, 2) := by decide +kernel
theorem dX7_unbroken_29 : decode cX7_unbroken 29 = .ok (.aload_n 0, 1) := by decide +kernel
theorem dX7_unbroken_30 : decode cX7_unbroken 30 = .ok (.iload 7, 2) := by decide +kernel
theorem dX7_unbroken_32 : decode cX7_unbroken 32 = .ok (.invokevirtual 21, 3) := by decide +kernel
theorem dX7_unbroken_35 : decode cX7_unbroken 35 = .ok (.isub, 1) := by decide +kernel
theorem dX7_unbroken_36 : decode cX7_unbroken 36 = .ok (.i2l, 1) := by decide +kernel
theorem dX7_unbroken_37 : decode cX7_unbroken 37 = .ok (.lmul, 1) := by decide +kernel
theorem dX7_unbroken_38 : decode cX7_unbroken 38 = .ok (.lstore_n 3, 1) := by decide +kernel
theorem dX7_unbroken_39 : decode cX7_unbroken 39 = .ok (.lload 5, 2) := by decide +kernel
theorem dX7_unbroken_41 : decode cX7_unbroken 41 = .ok (.ldc2_w 25, 3) := by decide +kernel
theorem dX7_unbroken_44 : decode cX7_unbroken 44 = .ok (.lmul, 1) := by decide +kernel
theorem dX7_unbroken_45 : decode cX7_unbroken 45 = .ok (.lstore 5, 2) := by decide +kernel
theorem dX7_unbroken_47 : decode cX7_unbroken 47 = .ok (.iinc 8 1, 3) := by decide +kernel
theorem dX7_unbroken_50 : decode cX7_unbroken 50 = .ok (.goto (-30), 3) := by decide +kernel
theorem dX7_unbroken_53 : decode cX7_unbroken 53 = .ok (.iinc 7 1, 3) := by decide +kernel
theorem dX7_unbroken_56 : decode cX7_unbroken 56 = .ok (.goto (-48), 3) := by decide +kernel
theorem dX7_unbroken_59 : decode cX7_unbroken 59 = .ok (.lload_n 3, 1) := by decide +kernel
theorem dX7_unbroken_60 : decode cX7_unbroken 60 = .ok (.lload 5, 2) := by decide +kernel
theorem dX7_unbroken_62 : decode cX7_unbroken 62 = .ok (.iload_n 2, 1) := by decide +kernel
theorem dX7_unbroken_63 : decode cX7_unbroken 63 = .ok (.invokestatic 27, 3) := by decide +kernel
theorem dX7_unbroken_66 : decode cX7_unbroken 66 = .ok (.lreturn, 1) := by decide +kernel
abbrev Pl_P_unbroken_1_8 (G : am_G) : ((Int32 × Int32 × Int64 × Int64 × Int32 × am_St) ⊕ (Int64 × am_St)) → am_AQ → Prop := am_PL G M_P_unbroken 8 (fun s : Int32 × Int32 × Int64 × Int64 × Int32 × am_St => [(7, .int s.2.2.2.2.1), (5, .long s.2.2.2.1), (3, .long s.2.2.1), (2, .int s.2.1), (1, .int s.1), (0, .ref 1)]) (fun s => s.2.2.2.2.2) am_Pl
abbrev Pl_P_unbroken_1_20 (G : am_G) : ((Int32 × Int32 × Int64 × Int64 × Int32 × Int32 × am_St) ⊕ ((Int32 × Int32 × Int64 × Int64 × Int32 × am_St) ⊕ (Int64 × am_St))) → am_AQ → Prop := am_PL G M_P_unbroken 20 (fun s : Int32 × Int32 × Int64 × Int64 × Int32 × Int32 × am_St => [(8, .int s.2.2.2.2.2.1), (7, .int s.2.2.2.2.1), (5, .long s.2.2.2.1), (3, .long s.2.2.1), (2, .int s.2.1), (1, .int s.1), (0, .ref 1)]) (fun s => s.2.2.2.2.2.2) (Pl_P_unbroken_1_8 G)
noncomputable def b_P_unbroken_1_20 (x1 : Int32) (x2 : Int32) (x3 : Int64) (x5 : Int64) (x7 : Int32) (x8 : Int32) (σ : am_St) : Option ((Int32 × Int32 × Int64 × Int64 × Int32 × Int32 × am_St) ⊕ ((Int32 × Int32 × Int64 × Int64 × Int32 × am_St) ⊕ (Int64 × am_St))) :=
  if x1 ≤ x8 then
    let v1 := x7 + 1
    some (.inr (.inl (x1, x2, x3, x5, v1, σ)))
  else
    (f_H_slipsOf_1 x7 σ).bind (fun p2 =>
      let v3 := x3 * ((10 - p2.1).toInt64)
      let v4 := x5 * 10
      let v5 := x8 + 1
      some (.inl (x1, x2, v3, v4, x7, v5, p2.2)))
noncomputable def f_P_unbroken_1_20 (x1 : Int32) (x2 : Int32) (x3 : Int64) (x5 : Int64) (x7 : Int32) (x8 : Int32) (σ : am_St) : Option ((Int32 × Int32 × Int64 × Int64 × Int32 × am_St) ⊕ (Int64 × am_St)) := am_lp (fun s : Int32 × Int32 × Int64 × Int64 × Int32 × Int32 × am_St => b_P_unbroken_1_20 s.1 s.2.1 s.2.2.1 s.2.2.2.1 s.2.2.2.2.1 s.2.2.2.2.2.1 s.2.2.2.2.2.2) (x1, x2, x3, x5, x7, x8, σ)
set_option maxRecDepth 100000 in
set_option maxHeartbeats 4000000 in
theorem sb_P_unbroken_1_20 (G : am_G) (x1 : Int32) (x2 : Int32) (x3 : Int64) (x5 : Int64) (x7 : Int32) (x8 : Int32) (σ : am_St) (r : (Int32 × Int32 × Int64 × Int64 × Int32 × Int32 × am_St) ⊕ ((Int32 × Int32 × Int64 × Int64 × Int32 × am_St) ⊕ (Int64 × am_St))) (Q : am_AQ) (e : b_P_unbroken_1_20 x1 x2 x3 x5 x7 x8 σ = some r) (hr : Pl_P_unbroken_1_20 G r Q) : am_AW G M_P_unbroken 20 [(8, .int x8), (7, .int x7), (5, .long x5), (3, .long x3), (2, .int x2), (1, .int x1), (0, .ref 1)] [] σ Q :=
  (show am_Snd G M_P_unbroken 20 (Pl_P_unbroken_1_20 G) _ from (sn_iload (pc := 20) dX7_unbroken_20 (sn_iload_n (pc := 22) (i := 1) dX7_unbroken_22 rfl (sn_icmp_ge (pc := 23) (tgt := 53) dX7_unbroken_23 rfl (sn_iinc (pc := 53) (v := 1) dX7_unbroken_53 rfl (Nat.le_of_ble_eq_true rfl) (sn_goto (pc := 56) (tgt := 8) dX7_unbroken_56 rfl (sn_lf (pc := 8) (ln_a (i := 0) (q := 1) (ln_i (i := 1) (fun z0 => (ln_i (i := 2) (fun z1 => (ln_l (i := 3) (fun z2 => (ln_l (i := 5) (fun z3 => (ln_i (i := 7) (fun z4 => (ln_end (o := fun τ => (some (.inr (.inl (z0, z1, z2, z3, z4, τ))) : Option ((Int32 × Int32 × Int64 × Int64 × Int32 × Int32 × am_St) ⊕ ((Int32 × Int32 × Int64 × Int64 × Int32 × am_St) ⊕ (Int64 × am_St))))) (fun _ _ _ e h => by cases e; exact h)))))))))))))))) (sn_lload_n (pc := 26) (i := 3) dX7_unbroken_26 rfl (sn_bipush (pc := 27) (v := 10) dX7_unbroken_27 rfl (sn_aload_n (pc := 29) (i := 0) dX7_unbroken_29 rfl (sn_iload (pc := 30) dX7_unbroken_30 (sn_callV (pc := 32) (N := M_H_slipsOf) dX7_unbroken_32 (cal_H_slipsOf_1 G) sh_1 rfl tw_795 tw_480 tw_481 tw_2 tw_482 dsc_X3_slipsOf rfl (sn_isub (pc := 35) dX7_unbroken_35 (sn_i2l (pc := 36) dX7_unbroken_36 (sn_lmul (pc := 37) dX7_unbroken_37 (sn_lstore_n (pc := 38) (i := 3) dX7_unbroken_38 rfl (Nat.le_of_ble_eq_true rfl) (sn_lload (pc := 39) dX7_unbroken_39 (sn_ldc2 (pc := 41) dX7_unbroken_41 tw_796 (sn_lmul (pc := 44) dX7_unbroken_44 (sn_lstore (pc := 45) dX7_unbroken_45 (Nat.le_of_ble_eq_true rfl) (sn_iinc (pc := 47) (v := 1) dX7_unbroken_47 rfl (Nat.le_of_ble_eq_true rfl) (sn_goto (pc := 50) (tgt := 20) dX7_unbroken_50 rfl (sn_lf (pc := 20) (ln_a (i := 0) (q := 1) (ln_i (i := 1) (fun z0 => (ln_i (i := 2) (fun z1 => (ln_l (i := 3) (fun z2 => (ln_l (i := 5) (fun z3 => (ln_i (i := 7) (fun z4 => (ln_i (i := 8) (fun z5 => (ln_end (o := fun τ => (some (.inl (z0, z1, z2, z3, z4, z5, τ)) : Option ((Int32 × Int32 × Int64 × Int64 × Int32 × Int32 × am_St) ⊕ ((Int32 × Int32 × Int64 × Int64 × Int32 × am_St) ⊕ (Int64 × am_St))))) (fun _ _ _ e h => by cases e; exact h))))))))))))))))))))))))))))))))))) _ _ _ _ _ e hr
theorem s_P_unbroken_1_20 (G : am_G) (x1 : Int32) (x2 : Int32) (x3 : Int64) (x5 : Int64) (x7 : Int32) (x8 : Int32) (σ : am_St) (r : (Int32 × Int32 × Int64 × Int64 × Int32 × am_St) ⊕ (Int64 × am_St)) (Q : am_AQ) (e : f_P_unbroken_1_20 x1 x2 x3 x5 x7 x8 σ = some r) (hr : (Pl_P_unbroken_1_8 G) r Q) : am_AW G M_P_unbroken 20 [(8, .int x8), (7, .int x7), (5, .long x5), (3, .long x3), (2, .int x2), (1, .int x1), (0, .ref 1)] [] σ Q :=
  am_loop (P := (Pl_P_unbroken_1_8 G)) (L := fun s : Int32 × Int32 × Int64 × Int64 × Int32 × Int32 × am_St => [(8, .int s.2.2.2.2.2.1), (7, .int s.2.2.2.2.1), (5, .long s.2.2.2.1), (3, .long s.2.2.1), (2, .int s.2.1), (1, .int s.1), (0, .ref 1)]) (g := fun s => s.2.2.2.2.2.2) (fun s o Q e hr => sb_P_unbroken_1_20 G s.1 s.2.1 s.2.2.1 s.2.2.2.1 s.2.2.2.2.1 s.2.2.2.2.2.1 s.2.2.2.2.2.2 o Q e hr) (x1, x2, x3, x5, x7, x8, σ) r Q e hr
noncomputable def b_P_unbroken_1_8 (x1 : Int32) (x2 : Int32) (x3 : Int64) (x5 : Int64) (x7 : Int32) (σ : am_St) : Option ((Int32 × Int32 × Int64 × Int64 × Int32 × am_St) ⊕ (Int64 × am_St)) :=
  if (σ.1 1 2) ≤ x7 then
    (f_O_inLeastTerms x3 x5 x2 σ).bind (fun p1 =>
      some (.inr ((p1.1, p1.2))))
  else
    f_P_unbroken_1_20 x1 x2 x3 x5 x7 0 σ
noncomputable def f_P_unbroken_1_8 (x1 : Int32) (x2 : Int32) (x3 : Int64) (x5 : Int64) (x7 : Int32) (σ : am_St) : Option (Int64 × am_St) := am_lp (fun s : Int32 × Int32 × Int64 × Int64 × Int32 × am_St => b_P_unbroken_1_8 s.1 s.2.1 s.2.2.1 s.2.2.2.1 s.2.2.2.2.1 s.2.2.2.2.2) (x1, x2, x3, x5, x7, σ)
set_option maxRecDepth 100000 in
set_option maxHeartbeats 4000000 in
theorem sb_P_unbroken_1_8 (G : am_G) (x1 : Int32) (x2 : Int32) (x3 : Int64) (x5 : Int64) (x7 : Int32) (σ : am_St) (r : (Int32 × Int32 × Int64 × Int64 × Int32 × am_St) ⊕ (Int64 × am_St)) (Q : am_AQ) (e : b_P_unbroken_1_8 x1 x2 x3 x5 x7 σ = some r) (hr : Pl_P_unbroken_1_8 G r Q) : am_AW G M_P_unbroken 8 [(7, .int x7), (5, .long x5), (3, .long x3), (2, .int x2), (1, .int x1), (0, .ref 1)] [] σ Q :=
  (show am_Snd G M_P_unbroken 8 (Pl_P_unbroken_1_8 G) _ from (sn_iload (pc := 8) dX7_unbroken_8 (sn_aload_n (pc := 10) (i := 0) dX7_unbroken_10 rfl (sn_gI (pc := 11) (h := 1) (f := 2) dX7_unbroken_11 am_CL_3 sh_1 rfl (Nat.le_of_ble_eq_true rfl) tw_84 (sn_icmp_ge (pc := 14) (tgt := 59) dX7_unbroken_14 rfl (sn_lload_n (pc := 59) (i := 3) dX7_unbroken_59 rfl (sn_lload (pc := 60) dX7_unbroken_60 (sn_iload_n (pc := 62) (i := 2) dX7_unbroken_62 rfl (sn_callS (pc := 63) (N := M_O_inLeastTerms) dX7_unbroken_63 (cal_O_inLeastTerms G) tw_797 tw_624 tw_11 tw_625 dsc_X6_inLeastTerms rfl (sn_retl (pc := 66) (R := fun x τ => (some (.inr ((x, τ))) : Option ((Int32 × Int32 × Int64 × Int64 × Int32 × am_St) ⊕ (Int64 × am_St)))) dX7_unbroken_66 rfl (fun _ _ _ _ e h => by cases e; exact h)))))) (sn_iconst (pc := 17) (v := 0) dX7_unbroken_17 rfl (sn_istore (pc := 18) dX7_unbroken_18 (Nat.le_of_ble_eq_true rfl) (sn_lf (pc := 20) (ln_a (i := 0) (q := 1) (ln_i (i := 1) (fun z0 => (ln_i (i := 2) (fun z1 => (ln_l (i := 3) (fun z2 => (ln_l (i := 5) (fun z3 => (ln_i (i := 7) (fun z4 => (ln_i (i := 8) (fun z5 => (ln_end (o := fun τ => f_P_unbroken_1_20 z0 z1 z2 z3 z4 z5 τ) (fun _ _ _ e h => s_P_unbroken_1_20 G z0 z1 z2 z3 z4 z5 _ _ _ e h))))))))))))))))))))))) _ _ _ _ _ e hr
theorem s_P_unbroken_1_8 (G : am_G) (x1 : Int32) (x2 : Int32) (x3 : Int64) (x5 : Int64) (x7 : Int32) (σ : am_St) (r : Int64 × am_St) (Q : am_AQ) (e : f_P_unbroken_1_8 x1 x2 x3 x5 x7 σ = some r) (hr : am_Pl r Q) : am_AW G M_P_unbroken 8 [(7, .int x7), (5, .long x5), (3, .long x3), (2, .int x2), (1, .int x1), (0, .ref 1)] [] σ Q :=
  am_loop (P := am_Pl) (L := fun s : Int32 × Int32 × Int64 × Int64 × Int32 × am_St => [(7, .int s.2.2.2.2.1), (5, .long s.2.2.2.1), (3, .long s.2.2.1), (2, .int s.2.1), (1, .int s.1), (0, .ref 1)]) (g := fun s => s.2.2.2.2.2) (fun s o Q e hr => sb_P_unbroken_1_8 G s.1 s.2.1 s.2.2.1 s.2.2.2.1 s.2.2.2.2.1 s.2.2.2.2.2 o Q e hr) (x1, x2, x3, x5, x7, σ) r Q e hr
noncomputable def g_P_unbroken_1 (x1 : Int32) (x2 : Int32) (σ : am_St) : Option (Int64 × am_St) :=
  f_P_unbroken_1_8 x1 x2 1 1 0 σ
noncomputable def f_P_unbroken_1 (x1 : Int32) (x2 : Int32) (σ : am_St) : Option (Int64 × am_St) := am_lk (g_P_unbroken_1 x1 x2 σ)
theorem eq_P_unbroken_1 (x1 : Int32) (x2 : Int32) (σ : am_St) : f_P_unbroken_1 x1 x2 σ = g_P_unbroken_1 x1 x2 σ := am_lk_eq _
set_option maxRecDepth 100000 in
set_option maxHeartbeats 4000000 in
theorem s_P_unbroken_1 (G : am_G) (x1 : Int32) (x2 : Int32) (σ : am_St) (r : Int64 × am_St) (Q : am_AQ) (e : f_P_unbroken_1 x1 x2 σ = some r) (hr : am_Pl r Q) : am_AW G M_P_unbroken 0 [(0, .ref 1), (1, .int x1), (2, .int x2)] [] σ Q :=
  (show am_Snd G M_P_unbroken 0 am_Pl _ from (sn_lconst (pc := 0) (v := 1) dX7_unbroken_0 rfl (sn_lstore_n (pc := 1) (i := 3) dX7_unbroken_1 rfl (Nat.le_of_ble_eq_true rfl) (sn_lconst (pc := 2) (v := 1) dX7_unbroken_2 rfl (sn_lstore (pc := 3) dX7_unbroken_3 (Nat.le_of_ble_eq_true rfl) (sn_iconst (pc := 5) (v := 0) dX7_unbroken_5 rfl (sn_istore (pc := 6) dX7_unbroken_6 (Nat.le_of_ble_eq_true rfl) (sn_lf (pc := 8) (ln_a (i := 0) (q := 1) (ln_i (i := 1) (fun z0 => (ln_i (i := 2) (fun z1 => (ln_l (i := 3) (fun z2 => (ln_l (i := 5) (fun z3 => (ln_i (i := 7) (fun z4 => (ln_end (o := fun τ => f_P_unbroken_1_8 z0 z1 z2 z3 z4 τ) (fun _ _ _ e h => s_P_unbroken_1_8 G z0 z1 z2 z3 z4 _ _ _ e h))))))))))))))))))))) _ _ _ _ _ ((eq_P_unbroken_1 x1 x2 σ).symm.trans e) hr
noncomputable def cF_P_unbroken_1 : am_Fn := fun _ args σ K => match args with
  | [.ref q0, .int z1, .int z2] => match Nat.beq q0 1 with
    | true => (f_P_unbroken_1 z1 z2 σ).bind (fun p => K (some (.long p.1)) p.2)
    | _ => none
  | _ => none
theorem cal_P_unbroken_1 (G : am_G) : am_Cal G M_P_unbroken cF_P_unbroken_1 := by
  intro ρ args σ K r e
  unfold cF_P_unbroken_1 at e
  split at e
  · split at e
    · rename_i hq0
      obtain ⟨p, h1, h2⟩ := am_bind_some e
      rw [Nat.eq_of_beq_eq_true hq0]
      exact ⟨some (.long p.1), p.2, am_Met.of rfl (Nat.le_of_ble_eq_true rfl) (s_P_unbroken_1 G _ _ σ p _ h1 ⟨rfl, rfl⟩), h2⟩
    · cases e
  · cases e
abbrev M_X_lasts : am_MD := (yX11_lasts, cX11_lasts, 3, (some .long), 5, 113)
theorem dX11_lasts_0 : decode cX11_lasts 0 = .ok (.iload_n 1, 1) := by decide +kernel
theorem dX11_lasts_1 : decode cX11_lasts 1 = .ok (.ifCond .ge 10, 3) := by decide +kernel
theorem dX11_lasts_4 : decode cX11_lasts 4 = .ok (.aload_n 0, 1) := by decide +kernel
theorem dX11_lasts_5 : decode cX11_lasts 5 = .ok (.bipush (-4), 2) := by decide +kernel
theorem dX11_lasts_7 : decode cX11_lasts 7 = .ok (.invokevirtual 177, 3) := by decide +kernel
theorem dX11_lasts_10 : decode cX11_lasts 10 = .ok (.lreturn, 1) := by decide +kernel
theorem dX11_lasts_11 : decode cX11_lasts 11 = .ok (.iload_n 1, 1) := by decide +kernel
theorem dX11_lasts_12 : decode cX11_lasts 12 = .ok (.iconst 4, 1) := by decide +kernel
theorem dX11_lasts_13 : decode cX11_lasts 13 = .ok (.if_icmp .le 10, 3) := by decide +kernel
theorem dX11_lasts_16 : decode cX11_lasts 16 = .ok (.aload_n 0, 1) := by decide +kernel
theorem dX11_lasts_17 : decode cX11_lasts 17 = .ok (.bipush (-6), 2) := by decide +kernel
theorem dX11_lasts_19 : decode cX11_lasts 19 = .ok (.invokevirtual 177, 3) := by decide +kernel
theorem dX11_lasts_22 : decode cX11_lasts 22 = .ok (.lreturn, 1) := by decide +kernel
theorem dX11_lasts_23 : decode cX11_lasts 23 = .ok (.iload_n 2, 1) := by decide +kernel
theorem dX11_lasts_24 : decode cX11_lasts 24 = .ok (.invokestatic 132, 3) := by decide +kernel
theorem dX11_lasts_27 : decode cX11_lasts 27 = .ok (.ifCond .ne 10, 3) := by decide +kernel
theorem dX11_lasts_30 : decode cX11_lasts 30 = .ok (.aload_n 0, 1) := by decide +kernel
theorem dX11_lasts_31 : decode cX11_lasts 31 = .ok (.bipush (-2), 2) := by decide +kernel
theorem dX11_lasts_33 : decode cX11_lasts 33 = .ok (.invokevirtual 177, 3) := by decide +kernel
theorem dX11_lasts_36 : decode cX11_lasts 36 = .ok (.lreturn, 1) := by decide +kernel
theorem dX11_lasts_37 : decode cX11_lasts 37 = .ok (.aload_n 0, 1) := by decide +kernel
theorem dX11_lasts_38 : decode cX11_lasts 38 = .ok (.getfield 10, 3) := by decide +kernel
theorem dX11_lasts_41 : decode cX11_lasts 41 = .ok (.iload_n 1, 1) := by decide +kernel
theorem dX11_lasts_42 : decode cX11_lasts 42 = .ok (.iload_n 2, 1) := by decide +kernel
theorem dX11_lasts_43 : decode cX11_lasts 43 = .ok (.invokestatic 237, 3) := by decide +kernel
theorem dX11_lasts_46 : decode cX11_lasts 46 = .ok (.lreturn, 1) := by decide +kernel
noncomputable def g_X_lasts (x1 : Int32) (x2 : Int32) (σ : am_St) : Option (Int64 × am_St) :=
  if 0 ≤ x1 then
    if x1 ≤ 4 then
      (f_X_isZeroOrOne x2 σ).bind (fun p1 =>
        if p1.1 = 0 then
          (f_X_refuseLong (-2) p1.2).bind (fun p3 =>
            some ((p3.1, p3.2)))
        else
          (f_P_unbroken_1 x1 x2 p1.2).bind (fun p2 =>
            some ((p2.1, p2.2))))
    else
      (f_X_refuseLong (-6) σ).bind (fun p4 =>
        some ((p4.1, p4.2)))
  else
    (f_X_refuseLong (-4) σ).bind (fun p5 =>
      some ((p5.1, p5.2)))
noncomputable def f_X_lasts (x1 : Int32) (x2 : Int32) (σ : am_St) : Option (Int64 × am_St) := am_lk (g_X_lasts x1 x2 σ)
theorem eq_X_lasts (x1 : Int32) (x2 : Int32) (σ : am_St) : f_X_lasts x1 x2 σ = g_X_lasts x1 x2 σ := am_lk_eq _
set_option maxRecDepth 100000 in
set_option maxHeartbeats 4000000 in
theorem s_X_lasts (G : am_G) (x1 : Int32) (x2 : Int32) (σ : am_St) (r : Int64 × am_St) (Q : am_AQ) (e : f_X_lasts x1 x2 σ = some r) (hr : am_Pl r Q) : am_AW G M_X_lasts 0 [(0, .ref 0), (1, .int x1), (2, .int x2)] [] σ Q :=
  (show am_Snd G M_X_lasts 0 am_Pl _ from (sn_iload_n (pc := 0) (i := 1) dX11_lasts_0 rfl (sn_if_ge (pc := 1) (tgt := 11) dX11_lasts_1 rfl (sn_iload_n (pc := 11) (i := 1) dX11_lasts_11 rfl (sn_iconst (pc := 12) (v := 4) dX11_lasts_12 rfl (sn_icmp_le (pc := 13) (tgt := 23) dX11_lasts_13 rfl (sn_iload_n (pc := 23) (i := 2) dX11_lasts_23 rfl (sn_callS (pc := 24) (N := M_X_isZeroOrOne) dX11_lasts_24 (cal_X_isZeroOrOne G) tw_549 tw_550 tw_1 tw_551 dsc_X11_isZeroOrOne rfl (sn_if_ne (pc := 27) (tgt := 37) dX11_lasts_27 rfl (sn_aload_n (pc := 37) (i := 0) dX11_lasts_37 rfl (sn_gR (r0 := 1) (pc := 38) (h := 0) (f := 0) dX11_lasts_38 am_CL_10 sh_0 rfl (Nat.le_of_ble_eq_true rfl) tw_219 (sn_iload_n (pc := 41) (i := 1) dX11_lasts_41 rfl (sn_iload_n (pc := 42) (i := 2) dX11_lasts_42 rfl (sn_callS (pc := 43) (N := M_P_unbroken) dX11_lasts_43 (cal_P_unbroken_1 G) tw_792 tw_793 tw_16 tw_794 dsc_X7_unbroken rfl (sn_retl (pc := 46) (R := fun x τ => (some ((x, τ)))) dX11_lasts_46 rfl (fun _ _ _ _ e h => by cases e; exact h))))))) (sn_aload_n (pc := 30) (i := 0) dX11_lasts_30 rfl (sn_bipush (pc := 31) (v := (-2)) dX11_lasts_31 (show (Int8.ofInt (-2)).toInt32 = (-2) by decide) (sn_callV (pc := 33) (N := M_X_refuseLong) dX11_lasts_33 (cal_X_refuseLong G) sh_0 rfl tw_599 tw_601 tp_17 tw_1 tw_602 dsc_X11_refuseLong rfl (sn_retl (pc := 36) (R := fun x τ => (some ((x, τ)))) dX11_lasts_36 rfl (fun _ _ _ _ e h => by cases e; exact h)))))))) (sn_aload_n (pc := 16) (i := 0) dX11_lasts_16 rfl (sn_bipush (pc := 17) (v := (-6)) dX11_lasts_17 (show (Int8.ofInt (-6)).toInt32 = (-6) by decide) (sn_callV (pc := 19) (N := M_X_refuseLong) dX11_lasts_19 (cal_X_refuseLong G) sh_0 rfl tw_599 tw_601 tp_17 tw_1 tw_602 dsc_X11_refuseLong rfl (sn_retl (pc := 22) (R := fun x τ => (some ((x, τ)))) dX11_lasts_22 rfl (fun _ _ _ _ e h => by cases e; exact h)))))))) (sn_aload_n (pc := 4) (i := 0) dX11_lasts_4 rfl (sn_bipush (pc := 5) (v := (-4)) dX11_lasts_5 (show (Int8.ofInt (-4)).toInt32 = (-4) by decide) (sn_callV (pc := 7) (N := M_X_refuseLong) dX11_lasts_7 (cal_X_refuseLong G) sh_0 rfl tw_599 tw_601 tp_17 tw_1 tw_602 dsc_X11_refuseLong rfl (sn_retl (pc := 10) (R := fun x τ => (some ((x, τ)))) dX11_lasts_10 rfl (fun _ _ _ _ e h => by cases e; exact h)))))))) _ _ _ _ _ ((eq_X_lasts x1 x2 σ).symm.trans e) hr
noncomputable def cF_X_lasts : am_Fn := fun _ args σ K => match args with
  | [.ref q0, .int z1, .int z2] => match Nat.beq q0 0 with
    | true => (f_X_lasts z1 z2 σ).bind (fun p => K (some (.long p.1)) p.2)
    | _ => none
  | _ => none
theorem cal_X_lasts (G : am_G) : am_Cal G M_X_lasts cF_X_lasts := by
  intro ρ args σ K r e
  unfold cF_X_lasts at e
  split at e
  · split at e
    · rename_i hq0
      obtain ⟨p, h1, h2⟩ := am_bind_some e
      rw [Nat.eq_of_beq_eq_true hq0]
      exact ⟨some (.long p.1), p.2, am_Met.of rfl (Nat.le_of_ble_eq_true rfl) (s_X_lasts G _ _ σ p _ h1 ⟨rfl, rfl⟩), h2⟩
    · cases e
  · cases e
abbrev M_P_weeksToHalf : am_MD := (yX7_weeksToHalf, cX7_weeksToHalf, 4, (some .int), 4, 85)
theorem dX7_weeksToHalf_0 : decode cX7_weeksToHalf 0 = .ok (.sipush 10000, 3) := by decide +kernel
theorem dX7_weeksToHalf_3 : decode cX7_weeksToHalf 3 = .ok (.istore_n 1, 1) := by decide +kernel
theorem dX7_weeksToHalf_4 : decode cX7_weeksToHalf 4 = .ok (.iconst 1, 1) := by decide +kernel
theorem dX7_weeksToHalf_5 : decode cX7_weeksToHalf 5 = .ok (.istore_n 2, 1) := by decide +kernel
theorem dX7_weeksToHalf_6 : decode cX7_weeksToHalf 6 = .ok (.iload_n 2, 1) := by decide +kernel
theorem dX7_weeksToHalf_7 : decode cX7_weeksToHalf 7 = .ok (.bipush 99, 2) := by decide +kernel
theorem dX7_weeksToHalf_9 : decode cX7_weeksToHalf 9 = .ok (.if_icmp .gt 48, 3) := by decide +kernel
theorem dX7_weeksToHalf_12 : decode cX7_weeksToHalf 12 = .ok (.iconst 0, 1) := by decide +kernel
theorem dX7_weeksToHalf_13 : decode cX7_weeksToHalf 13 = .ok (.istore_n 3, 1) := by decide +kernel
theorem dX7_weeksToHalf_14 : decode cX7_weeksToHalf 14 = .ok (.iload_n 3, 1) := by decide +kernel
theorem dX7_weeksToHalf_15 : decode cX7_weeksToHalf 15 = .ok (.aload_n 0, 1) := by decide +kernel
theorem dX7_weeksToHalf_16 : decode cX7_weeksToHalf 16 = .ok (.getfield 18, 3) := by decide +kernel
theorem dX7_weeksToHalf_19 : decode cX7_weeksToHalf 19 = .ok (.if_icmp .ge 23, 3) := by decide +kernel
theorem dX7_weeksToHalf_22 : decode cX7_weeksToHalf 22 = .ok (.iload_n 1, 1) := by decide +kernel
theorem dX7_weeksToHalf_23 : decode cX7_weeksToHalf 23 = .ok (.bipush 10, 2) := by decide +kernel
theorem dX7_weeksToHalf_25 : decode cX7_weeksToHalf 25 = .ok (.aload_n 0, 1) := by decide +kernel
theorem dX7_weeksToHalf_26 : decode cX7_weeksToHalf 26 = .ok (.iload_n 3, 1) := by decide +kernel
theorem dX7_weeksToHalf_27 : decode cX7_weeksToHalf 27 = .ok (.invokevirtual 21, 3) := by decide +kernel
theorem dX7_weeksToHalf_30 : decode cX7_weeksToHalf 30 = .ok (.isub, 1) := by decide +kernel
theorem dX7_weeksToHalf_31 : decode cX7_weeksToHalf 31 = .ok (.imul, 1) := by decide +kernel
theorem dX7_weeksToHalf_32 : decode cX7_weeksToHalf 32 = .ok (.bipush 10, 2) := by decide +kernel
theorem dX7_weeksToHalf_34 : decode cX7_weeksToHalf 34 = .ok (.idiv, 1) := by decide +kernel
theorem dX7_weeksToHalf_35 : decode cX7_weeksToHalf 35 = .ok (.istore_n 1, 1) := by decide +kernel
theorem dX7_weeksToHalf_36 : decode cX7_weeksToHalf 36 = .ok (.iinc 3 1, 3) := by decide +kernel
theorem dX7_weeksToHalf_39 : decode cX7_weeksToHalf 39 = .ok (.goto (-25), 3) := by decide +kernel
theorem dX7_weeksToHalf_42 : decode cX7_weeksToHalf 42 = .ok (.iload_n 1, 1) := by decide +kernel
theorem dX7_weeksToHalf_43 : decode cX7_weeksToHalf 43 = .ok (.sipush 5000, 3) := by decide +kernel
theorem dX7_weeksToHalf_46 : decode cX7_weeksToHalf 46 = .ok (.if_icmp .ge 5, 3) := by decide +kernel
theorem dX7_weeksToHalf_49 : decode cX7_weeksToHalf 49 = .ok (.iload_n 2, 1) := by decide +kernel
theorem dX7_weeksToHalf_50 : decode cX7_weeksToHalf 50 = .ok (.ireturn, 1) := by decide +kernel
theorem dX7_weeksToHalf_51 : decode cX7_weeksToHalf 51 = .ok (.iinc 2 1, 3) := by decide +kernel
theorem dX7_weeksToHalf_54 : decode cX7_weeksToHalf 54 = .ok (.goto (-48), 3) := by decide +kernel
theorem dX7_weeksToHalf_57 : decode cX7_weeksToHalf 57 = .ok (.bipush (-9), 2) := by decide +kernel
theorem dX7_weeksToHalf_59 : decode cX7_weeksToHalf 59 = .ok (.ireturn, 1) := by decide +kernel
abbrev Pl_P_weeksToHalf_1_6 (G : am_G) : ((Int32 × Int32 × am_St) ⊕ (Int32 × am_St)) → am_AQ → Prop := am_PL G M_P_weeksToHalf 6 (fun s : Int32 × Int32 × am_St => [(2, .int s.2.1), (1, .int s.1), (0, .ref 1)]) (fun s => s.2.2) am_Pi
abbrev Pl_P_weeksToHalf_1_14 (G : am_G) : ((Int32 × Int32 × Int32 × am_St) ⊕ ((Int32 × Int32 × am_St) ⊕ (Int32 × am_St))) → am_AQ → Prop := am_PL G M_P_weeksToHalf 14 (fun s : Int32 × Int32 × Int32 × am_St => [(3, .int s.2.2.1), (2, .int s.2.1), (1, .int s.1), (0, .ref 1)]) (fun s => s.2.2.2) (Pl_P_weeksToHalf_1_6 G)
noncomputable def b_P_weeksToHalf_1_14 (x1 : Int32) (x2 : Int32) (x3 : Int32) (σ : am_St) : Option ((Int32 × Int32 × Int32 × am_St) ⊕ ((Int32 × Int32 × am_St) ⊕ (Int32 × am_St))) :=
  if (σ.1 1 2) ≤ x3 then
    if 5000 ≤ x1 then
      let v1 := x2 + 1
      some (.inr (.inl (x1, v1, σ)))
    else
      some (.inr (.inr ((x2, σ))))
  else
    (f_H_slipsOf_1 x3 σ).bind (fun p2 =>
      let v3 := (x1 * (10 - p2.1)) / 10
      let v4 := x3 + 1
      some (.inl (v3, x2, v4, p2.2)))
noncomputable def f_P_weeksToHalf_1_14 (x1 : Int32) (x2 : Int32) (x3 : Int32) (σ : am_St) : Option ((Int32 × Int32 × am_St) ⊕ (Int32 × am_St)) := am_lp (fun s : Int32 × Int32 × Int32 × am_St => b_P_weeksToHalf_1_14 s.1 s.2.1 s.2.2.1 s.2.2.2) (x1, x2, x3, σ)
set_option maxRecDepth 100000 in
set_option maxHeartbeats 4000000 in
theorem sb_P_weeksToHalf_1_14 (G : am_G) (x1 : Int32) (x2 : Int32) (x3 : Int32) (σ : am_St) (r : (Int32 × Int32 × Int32 × am_St) ⊕ ((Int32 × Int32 × am_St) ⊕ (Int32 × am_St))) (Q : am_AQ) (e : b_P_weeksToHalf_1_14 x1 x2 x3 σ = some r) (hr : Pl_P_weeksToHalf_1_14 G r Q) : am_AW G M_P_weeksToHalf 14 [(3, .int x3), (2, .int x2), (1, .int x1), (0, .ref 1)] [] σ Q :=
  (show am_Snd G M_P_weeksToHalf 14 (Pl_P_weeksToHalf_1_14 G) _ from (sn_iload_n (pc := 14) (i := 3) dX7_weeksToHalf_14 rfl (sn_aload_n (pc := 15) (i := 0) dX7_weeksToHalf_15 rfl (sn_gI (pc := 16) (h := 1) (f := 2) dX7_weeksToHalf_16 am_CL_3 sh_1 rfl (Nat.le_of_ble_eq_true rfl) tw_84 (sn_icmp_ge (pc := 19) (tgt := 42) dX7_weeksToHalf_19 rfl (sn_iload_n (pc := 42) (i := 1) dX7_weeksToHalf_42 rfl (sn_sipush (pc := 43) (v := 5000) dX7_weeksToHalf_43 rfl (sn_icmp_ge (pc := 46) (tgt := 51) dX7_weeksToHalf_46 rfl (sn_iinc (pc := 51) (v := 1) dX7_weeksToHalf_51 rfl (Nat.le_of_ble_eq_true rfl) (sn_goto (pc := 54) (tgt := 6) dX7_weeksToHalf_54 rfl (sn_lf (pc := 6) (ln_a (i := 0) (q := 1) (ln_i (i := 1) (fun z0 => (ln_i (i := 2) (fun z1 => (ln_end (o := fun τ => (some (.inr (.inl (z0, z1, τ))) : Option ((Int32 × Int32 × Int32 × am_St) ⊕ ((Int32 × Int32 × am_St) ⊕ (Int32 × am_St))))) (fun _ _ _ e h => by cases e; exact h)))))))))) (sn_iload_n (pc := 49) (i := 2) dX7_weeksToHalf_49 rfl (sn_reti (pc := 50) (R := fun x τ => (some (.inr (.inr ((x, τ)))) : Option ((Int32 × Int32 × Int32 × am_St) ⊕ ((Int32 × Int32 × am_St) ⊕ (Int32 × am_St))))) dX7_weeksToHalf_50 rfl (fun _ _ _ _ e h => by cases e; exact h)))))) (sn_iload_n (pc := 22) (i := 1) dX7_weeksToHalf_22 rfl (sn_bipush (pc := 23) (v := 10) dX7_weeksToHalf_23 rfl (sn_aload_n (pc := 25) (i := 0) dX7_weeksToHalf_25 rfl (sn_iload_n (pc := 26) (i := 3) dX7_weeksToHalf_26 rfl (sn_callV (pc := 27) (N := M_H_slipsOf) dX7_weeksToHalf_27 (cal_H_slipsOf_1 G) sh_1 rfl tw_795 tw_480 tw_481 tw_2 tw_482 dsc_X3_slipsOf rfl (sn_isub (pc := 30) dX7_weeksToHalf_30 (sn_imul (pc := 31) dX7_weeksToHalf_31 (sn_bipush (pc := 32) (v := 10) dX7_weeksToHalf_32 rfl (sn_idiv (pc := 34) dX7_weeksToHalf_34 (sn_istore_n (pc := 35) (i := 1) dX7_weeksToHalf_35 rfl (Nat.le_of_ble_eq_true rfl) (sn_iinc (pc := 36) (v := 1) dX7_weeksToHalf_36 rfl (Nat.le_of_ble_eq_true rfl) (sn_goto (pc := 39) (tgt := 14) dX7_weeksToHalf_39 rfl (sn_lf (pc := 14) (ln_a (i := 0) (q := 1) (ln_i (i := 1) (fun z0 => (ln_i (i := 2) (fun z1 => (ln_i (i := 3) (fun z2 => (ln_end (o := fun τ => (some (.inl (z0, z1, z2, τ)) : Option ((Int32 × Int32 × Int32 × am_St) ⊕ ((Int32 × Int32 × am_St) ⊕ (Int32 × am_St))))) (fun _ _ _ e h => by cases e; exact h))))))))))))))))))))))))))) _ _ _ _ _ e hr
theorem s_P_weeksToHalf_1_14 (G : am_G) (x1 : Int32) (x2 : Int32) (x3 : Int32) (σ : am_St) (r : (Int32 × Int32 × am_St) ⊕ (Int32 × am_St)) (Q : am_AQ) (e : f_P_weeksToHalf_1_14 x1 x2 x3 σ = some r) (hr : (Pl_P_weeksToHalf_1_6 G) r Q) : am_AW G M_P_weeksToHalf 14 [(3, .int x3), (2, .int x2), (1, .int x1), (0, .ref 1)] [] σ Q :=
  am_loop (P := (Pl_P_weeksToHalf_1_6 G)) (L := fun s : Int32 × Int32 × Int32 × am_St => [(3, .int s.2.2.1), (2, .int s.2.1), (1, .int s.1), (0, .ref 1)]) (g := fun s => s.2.2.2) (fun s o Q e hr => sb_P_weeksToHalf_1_14 G s.1 s.2.1 s.2.2.1 s.2.2.2 o Q e hr) (x1, x2, x3, σ) r Q e hr
noncomputable def b_P_weeksToHalf_1_6 (x1 : Int32) (x2 : Int32) (σ : am_St) : Option ((Int32 × Int32 × am_St) ⊕ (Int32 × am_St)) :=
  if 99 < x2 then
    some (.inr (((-9), σ)))
  else
    f_P_weeksToHalf_1_14 x1 x2 0 σ
noncomputable def f_P_weeksToHalf_1_6 (x1 : Int32) (x2 : Int32) (σ : am_St) : Option (Int32 × am_St) := am_lp (fun s : Int32 × Int32 × am_St => b_P_weeksToHalf_1_6 s.1 s.2.1 s.2.2) (x1, x2, σ)
set_option maxRecDepth 100000 in
set_option maxHeartbeats 4000000 in
theorem sb_P_weeksToHalf_1_6 (G : am_G) (x1 : Int32) (x2 : Int32) (σ : am_St) (r : (Int32 × Int32 × am_St) ⊕ (Int32 × am_St)) (Q : am_AQ) (e : b_P_weeksToHalf_1_6 x1 x2 σ = some r) (hr : Pl_P_weeksToHalf_1_6 G r Q) : am_AW G M_P_weeksToHalf 6 [(2, .int x2), (1, .int x1), (0, .ref 1)] [] σ Q :=
  (show am_Snd G M_P_weeksToHalf 6 (Pl_P_weeksToHalf_1_6 G) _ from (sn_iload_n (pc := 6) (i := 2) dX7_weeksToHalf_6 rfl (sn_bipush (pc := 7) (v := 99) dX7_weeksToHalf_7 rfl (sn_icmp_gt (pc := 9) (tgt := 57) dX7_weeksToHalf_9 rfl (sn_bipush (pc := 57) (v := (-9)) dX7_weeksToHalf_57 (show (Int8.ofInt (-9)).toInt32 = (-9) by decide) (sn_reti (pc := 59) (R := fun x τ => (some (.inr ((x, τ))) : Option ((Int32 × Int32 × am_St) ⊕ (Int32 × am_St)))) dX7_weeksToHalf_59 rfl (fun _ _ _ _ e h => by cases e; exact h))) (sn_iconst (pc := 12) (v := 0) dX7_weeksToHalf_12 rfl (sn_istore_n (pc := 13) (i := 3) dX7_weeksToHalf_13 rfl (Nat.le_of_ble_eq_true rfl) (sn_lf (pc := 14) (ln_a (i := 0) (q := 1) (ln_i (i := 1) (fun z0 => (ln_i (i := 2) (fun z1 => (ln_i (i := 3) (fun z2 => (ln_end (o := fun τ => f_P_weeksToHalf_1_14 z0 z1 z2 τ) (fun _ _ _ e h => s_P_weeksToHalf_1_14 G z0 z1 z2 _ _ _ e h)))))))))))))))) _ _ _ _ _ e hr
theorem s_P_weeksToHalf_1_6 (G : am_G) (x1 : Int32) (x2 : Int32) (σ : am_St) (r : Int32 × am_St) (Q : am_AQ) (e : f_P_weeksToHalf_1_6 x1 x2 σ = some r) (hr : am_Pi r Q) : am_AW G M_P_weeksToHalf 6 [(2, .int x2), (1, .int x1), (0, .ref 1)] [] σ Q :=
  am_loop (P := am_Pi) (L := fun s : Int32 × Int32 × am_St => [(2, .int s.2.1), (1, .int s.1), (0, .ref 1)]) (g := fun s => s.2.2) (fun s o Q e hr => sb_P_weeksToHalf_1_6 G s.1 s.2.1 s.2.2 o Q e hr) (x1, x2, σ) r Q e hr
noncomputable def g_P_weeksToHalf_1 (σ : am_St) : Option (Int32 × am_St) :=
  f_P_weeksToHalf_1_6 10000 1 σ
noncomputable def f_P_weeksToHalf_1 (σ : am_St) : Option (Int32 × am_St) := am_lk (g_P_weeksToHalf_1  σ)
theorem eq_P_weeksToHalf_1 (σ : am_St) : f_P_weeksToHalf_1  σ = g_P_weeksToHalf_1  σ := am_lk_eq _
set_option maxRecDepth 100000 in
set_option maxHeartbeats 4000000 in
theorem s_P_weeksToHalf_1 (G : am_G) (σ : am_St) (r : Int32 × am_St) (Q : am_AQ) (e : f_P_weeksToHalf_1  σ = some r) (hr : am_Pi r Q) : am_AW G M_P_weeksToHalf 0 [(0, .ref 1)] [] σ Q :=
  (show am_Snd G M_P_weeksToHalf 0 am_Pi _ from (sn_sipush (pc := 0) (v := 10000) dX7_weeksToHalf_0 rfl (sn_istore_n (pc := 3) (i := 1) dX7_weeksToHalf_3 rfl (Nat.le_of_ble_eq_true rfl) (sn_iconst (pc := 4) (v := 1) dX7_weeksToHalf_4 rfl (sn_istore_n (pc := 5) (i := 2) dX7_weeksToHalf_5 rfl (Nat.le_of_ble_eq_true rfl) (sn_lf (pc := 6) (ln_a (i := 0) (q := 1) (ln_i (i := 1) (fun z0 => (ln_i (i := 2) (fun z1 => (ln_end (o := fun τ => f_P_weeksToHalf_1_6 z0 z1 τ) (fun _ _ _ e h => s_P_weeksToHalf_1_6 G z0 z1 _ _ _ e h))))))))))))) _ _ _ _ _ ((eq_P_weeksToHalf_1  σ).symm.trans e) hr
noncomputable def cF_P_weeksToHalf_1 : am_Fn := fun _ args σ K => match args with
  | [.ref q0] => match Nat.beq q0 1 with
    | true => (f_P_weeksToHalf_1 σ).bind (fun p => K (some (.int p.1)) p.2)
    | _ => none
  | _ => none
theorem cal_P_weeksToHalf_1 (G : am_G) : am_Cal G M_P_weeksToHalf cF_P_weeksToHalf_1 := by
  intro ρ args σ K r e
  unfold cF_P_weeksToHalf_1 at e
  split at e
  · split at e
    · rename_i hq0
      obtain ⟨p, h1, h2⟩ := am_bind_some e
      rw [Nat.eq_of_beq_eq_true hq0]
      exact ⟨some (.int p.1), p.2, am_Met.of rfl (Nat.le_of_ble_eq_true rfl) (s_P_weeksToHalf_1 G  σ p _ h1 ⟨rfl, rfl⟩), h2⟩
    · cases e
  · cases e
abbrev M_X_half : am_MD := (yX11_half, cX11_half, 1, (some .int), 5, 108)
theorem dX11_half_0 : decode cX11_half 0 = .ok (.aload_n 0, 1) := by decide +kernel
theorem dX11_half_1 : decode cX11_half 1 = .ok (.getfield 10, 3) := by decide +kernel
theorem dX11_half_4 : decode cX11_half 4 = .ok (.invokestatic 241, 3) := by decide +kernel
theorem dX11_half_7 : decode cX11_half 7 = .ok (.ireturn, 1) := by decide +kernel
noncomputable def g_X_half (σ : am_St) : Option (Int32 × am_St) :=
  (f_P_weeksToHalf_1 σ).bind (fun p1 =>
    some ((p1.1, p1.2)))
noncomputable def f_X_half (σ : am_St) : Option (Int32 × am_St) := am_lk (g_X_half  σ)
theorem eq_X_half (σ : am_St) : f_X_half  σ = g_X_half  σ := am_lk_eq _
set_option maxRecDepth 100000 in
set_option maxHeartbeats 4000000 in
theorem s_X_half (G : am_G) (σ : am_St) (r : Int32 × am_St) (Q : am_AQ) (e : f_X_half  σ = some r) (hr : am_Pi r Q) : am_AW G M_X_half 0 [(0, .ref 0)] [] σ Q :=
  (show am_Snd G M_X_half 0 am_Pi _ from (sn_aload_n (pc := 0) (i := 0) dX11_half_0 rfl (sn_gR (r0 := 1) (pc := 1) (h := 0) (f := 0) dX11_half_1 am_CL_10 sh_0 rfl (Nat.le_of_ble_eq_true rfl) tw_219 (sn_callS (pc := 4) (N := M_P_weeksToHalf) dX11_half_4 (cal_P_weeksToHalf_1 G) tw_802 tw_803 tw_16 tw_804 dsc_X7_weeksToHalf rfl (sn_reti (pc := 7) (R := fun x τ => (some ((x, τ)))) dX11_half_7 rfl (fun _ _ _ _ e h => by cases e; exact h)))))) _ _ _ _ _ ((eq_X_half  σ).symm.trans e) hr
noncomputable def cF_X_half : am_Fn := fun _ args σ K => match args with
  | [.ref q0] => match Nat.beq q0 0 with
    | true => (f_X_half σ).bind (fun p => K (some (.int p.1)) p.2)
    | _ => none
  | _ => none
theorem cal_X_half (G : am_G) : am_Cal G M_X_half cF_X_half := by
  intro ρ args σ K r e
  unfold cF_X_half at e
  split at e
  · split at e
    · rename_i hq0
      obtain ⟨p, h1, h2⟩ := am_bind_some e
      rw [Nat.eq_of_beq_eq_true hq0]
      exact ⟨some (.int p.1), p.2, am_Met.of rfl (Nat.le_of_ble_eq_true rfl) (s_X_half G  σ p _ h1 ⟨rfl, rfl⟩), h2⟩
    · cases e
  · cases e
abbrev M_X_isLaw : am_MD := (yX11_isLaw, cX11_isLaw, 1, (some .boolean), 0, 0)
theorem dX11_isLaw_0 : decode cX11_isLaw 0 = .ok (.iload_n 0, 1) := by decide +kernel
theorem dX11_isLaw_1 : decode cX11_isLaw 1 = .ok (.ifCond .lt 12, 3) := by decide +kernel
theorem dX11_isLaw_4 : decode cX11_isLaw 4 = .ok (.iload_n 0, 1) := by decide +kernel
theorem dX11_isLaw_5 : decode cX11_isLaw 5 = .ok (.iconst 4, 1) := by decide +kernel
theorem dX11_isLaw_6 : decode cX11_isLaw 6 = .ok (.if_icmp .ge 7, 3) := by decide +kernel
theorem dX11_isLaw_9 : decode cX11_isLaw 9 = .ok (.iconst 1, 1) := by decide +kernel
theorem dX11_isLaw_10 : decode cX11_isLaw 10 = .ok (.goto 4, 3) := by decide +kernel
theorem dX11_isLaw_13 : decode cX11_isLaw 13 = .ok (.iconst 0, 1) := by decide +kernel
theorem dX11_isLaw_14 : decode cX11_isLaw 14 = .ok (.ireturn, 1) := by decide +kernel
noncomputable def g_X_isLaw (x0 : Int32) (σ : am_St) : Option (Int32 × am_St) :=
  if x0 < 0 then
    some ((0, σ))
  else
    if 4 ≤ x0 then
      some ((0, σ))
    else
      some ((1, σ))
noncomputable def f_X_isLaw (x0 : Int32) (σ : am_St) : Option (Int32 × am_St) := am_lk (g_X_isLaw x0 σ)
theorem eq_X_isLaw (x0 : Int32) (σ : am_St) : f_X_isLaw x0 σ = g_X_isLaw x0 σ := am_lk_eq _
set_option maxRecDepth 100000 in
set_option maxHeartbeats 4000000 in
theorem s_X_isLaw (G : am_G) (x0 : Int32) (σ : am_St) (r : Int32 × am_St) (Q : am_AQ) (e : f_X_isLaw x0 σ = some r) (hr : am_Pi r Q) : am_AW G M_X_isLaw 0 [(0, .int x0)] [] σ Q :=
  (show am_Snd G M_X_isLaw 0 am_Pi _ from (sn_iload_n (pc := 0) (i := 0) dX11_isLaw_0 rfl (sn_if_lt (pc := 1) (tgt := 13) dX11_isLaw_1 rfl (sn_iconst (pc := 13) (v := 0) dX11_isLaw_13 rfl (sn_retz (pc := 14) (R := fun x τ => (some ((x, τ)))) dX11_isLaw_14 rfl (fun _ _ _ _ e h => by cases e; exact h))) (sn_iload_n (pc := 4) (i := 0) dX11_isLaw_4 rfl (sn_iconst (pc := 5) (v := 4) dX11_isLaw_5 rfl (sn_icmp_ge (pc := 6) (tgt := 13) dX11_isLaw_6 rfl (sn_iconst (pc := 13) (v := 0) dX11_isLaw_13 rfl (sn_retz (pc := 14) (R := fun x τ => (some ((x, τ)))) dX11_isLaw_14 rfl (fun _ _ _ _ e h => by cases e; exact h))) (sn_iconst (pc := 9) (v := 1) dX11_isLaw_9 rfl (sn_goto (pc := 10) (tgt := 14) dX11_isLaw_10 rfl (sn_retz (pc := 14) (R := fun x τ => (some ((x, τ)))) dX11_isLaw_14 rfl (fun _ _ _ _ e h => by cases e; exact h)))))))))) _ _ _ _ _ ((eq_X_isLaw x0 σ).symm.trans e) hr
noncomputable def cF_X_isLaw : am_Fn := fun _ args σ K => match args with
  | [.int z0] => (f_X_isLaw z0 σ).bind (fun p => K (some (.int p.1)) p.2)
  | _ => none
theorem cal_X_isLaw (G : am_G) : am_Cal G M_X_isLaw cF_X_isLaw := by
  intro ρ args σ K r e
  unfold cF_X_isLaw at e
  split at e
  · obtain ⟨p, h1, h2⟩ := am_bind_some e
    exact ⟨some (.int p.1), p.2, am_Met.of rfl (Nat.le_of_ble_eq_true rfl) (s_X_isLaw G _ σ p _ h1 ⟨rfl, rfl⟩), h2⟩
  · cases e
abbrev M_H_namersOf : am_MD := (yX3_namersOf, cX3_namersOf, 4, (some .int), 5, 116)
theorem dX3_namersOf_0 : decode cX3_namersOf 0 = .ok (.iconst 0, 1) := by decide +kernel
theorem dX3_namersOf_1 : decode cX3_namersOf 1 = .ok (.istore_n 2, 1) := by decide +kernel
theorem dX3_namersOf_2 : decode cX3_namersOf 2 = .ok (.iconst 0, 1) := by decide +kernel
theorem dX3_namersOf_3 : decode cX3_namersOf 3 = .ok (.istore_n 3, 1) := by decide +kernel
theorem dX3_namersOf_4 : decode cX3_namersOf 4 = .ok (.iload_n 3, 1) := by decide +kernel
theorem dX3_namersOf_5 : decode cX3_namersOf 5 = .ok (.aload_n 0, 1) := by decide +kernel
theorem dX3_namersOf_6 : decode cX3_namersOf 6 = .ok (.getfield 68, 3) := by decide +kernel
theorem dX3_namersOf_9 : decode cX3_namersOf 9 = .ok (.if_icmp .ge 34, 3) := by decide +kernel
theorem dX3_namersOf_12 : decode cX3_namersOf 12 = .ok (.iload_n 3, 1) := by decide +kernel
theorem dX3_namersOf_13 : decode cX3_namersOf 13 = .ok (.iload_n 1, 1) := by decide +kernel
theorem dX3_namersOf_14 : decode cX3_namersOf 14 = .ok (.if_icmp .eq 23, 3) := by decide +kernel
theorem dX3_namersOf_17 : decode cX3_namersOf 17 = .ok (.aload_n 0, 1) := by decide +kernel
theorem dX3_namersOf_18 : decode cX3_namersOf 18 = .ok (.iload_n 3, 1) := by decide +kernel
theorem dX3_namersOf_19 : decode cX3_namersOf 19 = .ok (.iload_n 1, 1) := by decide +kernel
theorem dX3_namersOf_20 : decode cX3_namersOf 20 = .ok (.aload_n 0, 1) := by decide +kernel
theorem dX3_namersOf_21 : decode cX3_namersOf 21 = .ok (.getfield 74, 3) := by decide +kernel
theorem dX3_namersOf_24 : decode cX3_namersOf 24 = .ok (.invokevirtual 149, 3) := by decide +kernel
theorem dX3_namersOf_27 : decode cX3_namersOf 27 = .ok (.aload_n 0, 1) := by decide +kernel
theorem dX3_namersOf_28 : decode cX3_namersOf 28 = .ok (.getfield 71, 3) := by decide +kernel
theorem dX3_namersOf_31 : decode cX3_namersOf 31 = .ok (.if_icmp .ne 6, 3) := by decide +kernel
theorem dX3_namersOf_34 : decode cX3_namersOf 34 = .ok (.iinc 2 1, 3) := by decide +kernel
theorem dX3_namersOf_37 : decode cX3_namersOf 37 = .ok (.iinc 3 1, 3) := by decide +kernel
theorem dX3_namersOf_40 : decode cX3_namersOf 40 = .ok (.goto (-36), 3) := by decide +kernel
theorem dX3_namersOf_43 : decode cX3_namersOf 43 = .ok (.iload_n 2, 1) := by decide +kernel
theorem dX3_namersOf_44 : decode cX3_namersOf 44 = .ok (.ireturn, 1) := by decide +kernel
abbrev Pl_H_namersOf_1_4 (G : am_G) : ((Int32 × Int32 × Int32 × am_St) ⊕ (Int32 × am_St)) → am_AQ → Prop := am_PL G M_H_namersOf 4 (fun s : Int32 × Int32 × Int32 × am_St => [(3, .int s.2.2.1), (2, .int s.2.1), (1, .int s.1), (0, .ref 1)]) (fun s => s.2.2.2) am_Pi
noncomputable def g_H_namersOf_1_37 (x1 : Int32) (x2 : Int32) (x3 : Int32) (σ : am_St) : Option ((Int32 × Int32 × Int32 × am_St) ⊕ (Int32 × am_St)) :=
  let v1 := x3 + 1
  some (.inl (x1, x2, v1, σ))
noncomputable def f_H_namersOf_1_37 (x1 : Int32) (x2 : Int32) (x3 : Int32) (σ : am_St) : Option ((Int32 × Int32 × Int32 × am_St) ⊕ (Int32 × am_St)) := am_lk (g_H_namersOf_1_37 x1 x2 x3 σ)
theorem eq_H_namersOf_1_37 (x1 : Int32) (x2 : Int32) (x3 : Int32) (σ : am_St) : f_H_namersOf_1_37 x1 x2 x3 σ = g_H_namersOf_1_37 x1 x2 x3 σ := am_lk_eq _
set_option maxRecDepth 100000 in
set_option maxHeartbeats 4000000 in
theorem s_H_namersOf_1_37 (G : am_G) (x1 : Int32) (x2 : Int32) (x3 : Int32) (σ : am_St) (r : (Int32 × Int32 × Int32 × am_St) ⊕ (Int32 × am_St)) (Q : am_AQ) (e : f_H_namersOf_1_37 x1 x2 x3 σ = some r) (hr : (Pl_H_namersOf_1_4 G) r Q) : am_AW G M_H_namersOf 37 [(3, .int x3), (2, .int x2), (1, .int x1), (0, .ref 1)] [] σ Q :=
  (show am_Snd G M_H_namersOf 37 (Pl_H_namersOf_1_4 G) _ from (sn_iinc (pc := 37) (v := 1) dX3_namersOf_37 rfl (Nat.le_of_ble_eq_true rfl) (sn_goto (pc := 40) (tgt := 4) dX3_namersOf_40 rfl (sn_lf (pc := 4) (ln_a (i := 0) (q := 1) (ln_i (i := 1) (fun z0 => (ln_i (i := 2) (fun z1 => (ln_i (i := 3) (fun z2 => (ln_end (o := fun τ => (some (.inl (z0, z1, z2, τ)) : Option ((Int32 × Int32 × Int32 × am_St) ⊕ (Int32 × am_St)))) (fun _ _ _ e h => by cases e; exact h))))))))))))) _ _ _ _ _ ((eq_H_namersOf_1_37 x1 x2 x3 σ).symm.trans e) hr
noncomputable def b_H_namersOf_1_4 (x1 : Int32) (x2 : Int32) (x3 : Int32) (σ : am_St) : Option ((Int32 × Int32 × Int32 × am_St) ⊕ (Int32 × am_St)) :=
  if (σ.1 1 2) ≤ x3 then
    some (.inr ((x2, σ)))
  else
    if x3 = x1 then
      f_H_namersOf_1_37 x1 x2 x3 σ
    else
      (f_H_told_1 x3 x1 (σ.1 1 4) σ).bind (fun p1 =>
        if p1.1 = (p1.2.1 1 3) then
          let v2 := x2 + 1
          f_H_namersOf_1_37 x1 v2 x3 p1.2
        else
          f_H_namersOf_1_37 x1 x2 x3 p1.2)
noncomputable def f_H_namersOf_1_4 (x1 : Int32) (x2 : Int32) (x3 : Int32) (σ : am_St) : Option (Int32 × am_St) := am_lp (fun s : Int32 × Int32 × Int32 × am_St => b_H_namersOf_1_4 s.1 s.2.1 s.2.2.1 s.2.2.2) (x1, x2, x3, σ)
set_option maxRecDepth 100000 in
set_option maxHeartbeats 4000000 in
theorem sb_H_namersOf_1_4 (G : am_G) (x1 : Int32) (x2 : Int32) (x3 : Int32) (σ : am_St) (r : (Int32 × Int32 × Int32 × am_St) ⊕ (Int32 × am_St)) (Q : am_AQ) (e : b_H_namersOf_1_4 x1 x2 x3 σ = some r) (hr : Pl_H_namersOf_1_4 G r Q) : am_AW G M_H_namersOf 4 [(3, .int x3), (2, .int x2), (1, .int x1), (0, .ref 1)] [] σ Q :=
  (show am_Snd G M_H_namersOf 4 (Pl_H_namersOf_1_4 G) _ from (sn_iload_n (pc := 4) (i := 3) dX3_namersOf_4 rfl (sn_aload_n (pc := 5) (i := 0) dX3_namersOf_5 rfl (sn_gI (pc := 6) (h := 1) (f := 2) dX3_namersOf_6 am_CL_3 sh_1 rfl (Nat.le_of_ble_eq_true rfl) tw_83 (sn_icmp_ge (pc := 9) (tgt := 43) dX3_namersOf_9 rfl (sn_iload_n (pc := 43) (i := 2) dX3_namersOf_43 rfl (sn_reti (pc := 44) (R := fun x τ => (some (.inr ((x, τ))) : Option ((Int32 × Int32 × Int32 × am_St) ⊕ (Int32 × am_St)))) dX3_namersOf_44 rfl (fun _ _ _ _ e h => by cases e; exact h))) (sn_iload_n (pc := 12) (i := 3) dX3_namersOf_12 rfl (sn_iload_n (pc := 13) (i := 1) dX3_namersOf_13 rfl (sn_icmp_eq (pc := 14) (tgt := 37) dX3_namersOf_14 rfl (sn_lf (pc := 37) (ln_a (i := 0) (q := 1) (ln_i (i := 1) (fun z0 => (ln_i (i := 2) (fun z1 => (ln_i (i := 3) (fun z2 => (ln_end (o := fun τ => f_H_namersOf_1_37 z0 z1 z2 τ) (fun _ _ _ e h => s_H_namersOf_1_37 G z0 z1 z2 _ _ _ e h)))))))))) (sn_aload_n (pc := 17) (i := 0) dX3_namersOf_17 rfl (sn_iload_n (pc := 18) (i := 3) dX3_namersOf_18 rfl (sn_iload_n (pc := 19) (i := 1) dX3_namersOf_19 rfl (sn_aload_n (pc := 20) (i := 0) dX3_namersOf_20 rfl (sn_gI (pc := 21) (h := 1) (f := 4) dX3_namersOf_21 am_CL_3 sh_1 rfl (Nat.le_of_ble_eq_true rfl) tw_94 (sn_callV (pc := 24) (N := M_H_told) dX3_namersOf_24 (cal_H_told_1 G) sh_1 rfl tw_816 tw_715 tw_716 tw_2 tw_717 dsc_X3_told rfl (sn_aload_n (pc := 27) (i := 0) dX3_namersOf_27 rfl (sn_gI (pc := 28) (h := 1) (f := 3) dX3_namersOf_28 am_CL_3 sh_1 rfl (Nat.le_of_ble_eq_true rfl) tw_88 (sn_icmp_ne (pc := 31) (tgt := 37) dX3_namersOf_31 rfl (sn_lf (pc := 37) (ln_a (i := 0) (q := 1) (ln_i (i := 1) (fun z0 => (ln_i (i := 2) (fun z1 => (ln_i (i := 3) (fun z2 => (ln_end (o := fun τ => f_H_namersOf_1_37 z0 z1 z2 τ) (fun _ _ _ e h => s_H_namersOf_1_37 G z0 z1 z2 _ _ _ e h)))))))))) (sn_iinc (pc := 34) (v := 1) dX3_namersOf_34 rfl (Nat.le_of_ble_eq_true rfl) (sn_lf (pc := 37) (ln_a (i := 0) (q := 1) (ln_i (i := 1) (fun z0 => (ln_i (i := 2) (fun z1 => (ln_i (i := 3) (fun z2 => (ln_end (o := fun τ => f_H_namersOf_1_37 z0 z1 z2 τ) (fun _ _ _ e h => s_H_namersOf_1_37 G z0 z1 z2 _ _ _ e h)))))))))))))))))))))))))))) _ _ _ _ _ e hr
theorem s_H_namersOf_1_4 (G : am_G) (x1 : Int32) (x2 : Int32) (x3 : Int32) (σ : am_St) (r : Int32 × am_St) (Q : am_AQ) (e : f_H_namersOf_1_4 x1 x2 x3 σ = some r) (hr : am_Pi r Q) : am_AW G M_H_namersOf 4 [(3, .int x3), (2, .int x2), (1, .int x1), (0, .ref 1)] [] σ Q :=
  am_loop (P := am_Pi) (L := fun s : Int32 × Int32 × Int32 × am_St => [(3, .int s.2.2.1), (2, .int s.2.1), (1, .int s.1), (0, .ref 1)]) (g := fun s => s.2.2.2) (fun s o Q e hr => sb_H_namersOf_1_4 G s.1 s.2.1 s.2.2.1 s.2.2.2 o Q e hr) (x1, x2, x3, σ) r Q e hr
noncomputable def g_H_namersOf_1 (x1 : Int32) (σ : am_St) : Option (Int32 × am_St) :=
  f_H_namersOf_1_4 x1 0 0 σ
noncomputable def f_H_namersOf_1 (x1 : Int32) (σ : am_St) : Option (Int32 × am_St) := am_lk (g_H_namersOf_1 x1 σ)
theorem eq_H_namersOf_1 (x1 : Int32) (σ : am_St) : f_H_namersOf_1 x1 σ = g_H_namersOf_1 x1 σ := am_lk_eq _
set_option maxRecDepth 100000 in
set_option maxHeartbeats 4000000 in
theorem s_H_namersOf_1 (G : am_G) (x1 : Int32) (σ : am_St) (r : Int32 × am_St) (Q : am_AQ) (e : f_H_namersOf_1 x1 σ = some r) (hr : am_Pi r Q) : am_AW G M_H_namersOf 0 [(0, .ref 1), (1, .int x1)] [] σ Q :=
  (show am_Snd G M_H_namersOf 0 am_Pi _ from (sn_iconst (pc := 0) (v := 0) dX3_namersOf_0 rfl (sn_istore_n (pc := 1) (i := 2) dX3_namersOf_1 rfl (Nat.le_of_ble_eq_true rfl) (sn_iconst (pc := 2) (v := 0) dX3_namersOf_2 rfl (sn_istore_n (pc := 3) (i := 3) dX3_namersOf_3 rfl (Nat.le_of_ble_eq_true rfl) (sn_lf (pc := 4) (ln_a (i := 0) (q := 1) (ln_i (i := 1) (fun z0 => (ln_i (i := 2) (fun z1 => (ln_i (i := 3) (fun z2 => (ln_end (o := fun τ => f_H_namersOf_1_4 z0 z1 z2 τ) (fun _ _ _ e h => s_H_namersOf_1_4 G z0 z1 z2 _ _ _ e h))))))))))))))) _ _ _ _ _ ((eq_H_namersOf_1 x1 σ).symm.trans e) hr
noncomputable def cF_H_namersOf_1 : am_Fn := fun _ args σ K => match args with
  | [.ref q0, .int z1] => match Nat.beq q0 1 with
    | true => (f_H_namersOf_1 z1 σ).bind (fun p => K (some (.int p.1)) p.2)
    | _ => none
  | _ => none
theorem cal_H_namersOf_1 (G : am_G) : am_Cal G M_H_namersOf cF_H_namersOf_1 := by
  intro ρ args σ K r e
  unfold cF_H_namersOf_1 at e
  split at e
  · split at e
    · rename_i hq0
      obtain ⟨p, h1, h2⟩ := am_bind_some e
      rw [Nat.eq_of_beq_eq_true hq0]
      exact ⟨some (.int p.1), p.2, am_Met.of rfl (Nat.le_of_ble_eq_true rfl) (s_H_namersOf_1 G _ σ p _ h1 ⟨rfl, rfl⟩), h2⟩
    · cases e
  · cases e
abbrev M_P_owningUp : am_MD := (yX7_owningUp, cX7_owningUp, 2, (some .int), 0, 0)
theorem dX7_owningUp_0 : decode cX7_owningUp 0 = .ok (.iload_n 0, 1) := by decide +kernel
theorem dX7_owningUp_1 : decode cX7_owningUp 1 = .ok (.iconst 3, 1) := by decide +kernel
theorem dX7_owningUp_2 : decode cX7_owningUp 2 = .ok (.if_icmp .ne 5, 3) := by decide +kernel
theorem dX7_owningUp_5 : decode cX7_owningUp 5 = .ok (.iconst 0, 1) := by decide +kernel
theorem dX7_owningUp_6 : decode cX7_owningUp 6 = .ok (.ireturn, 1) := by decide +kernel
theorem dX7_owningUp_7 : decode cX7_owningUp 7 = .ok (.iload_n 0, 1) := by decide +kernel
theorem dX7_owningUp_8 : decode cX7_owningUp 8 = .ok (.ifCond .ne 9, 3) := by decide +kernel
theorem dX7_owningUp_11 : decode cX7_owningUp 11 = .ok (.iload_n 1, 1) := by decide +kernel
theorem dX7_owningUp_12 : decode cX7_owningUp 12 = .ok (.iconst 2, 1) := by decide +kernel
theorem dX7_owningUp_13 : decode cX7_owningUp 13 = .ok (.idiv, 1) := by decide +kernel
theorem dX7_owningUp_14 : decode cX7_owningUp 14 = .ok (.goto 4, 3) := by decide +kernel
theorem dX7_owningUp_17 : decode cX7_owningUp 17 = .ok (.iload_n 1, 1) := by decide +kernel
theorem dX7_owningUp_18 : decode cX7_owningUp 18 = .ok (.ireturn, 1) := by decide +kernel
noncomputable def g_P_owningUp (x0 : Int32) (x1 : Int32) (σ : am_St) : Option (Int32 × am_St) :=
  if x0 = 3 then
    some ((0, σ))
  else
    if x0 = 0 then
      some ((x1 / 2, σ))
    else
      some ((x1, σ))
noncomputable def f_P_owningUp (x0 : Int32) (x1 : Int32) (σ : am_St) : Option (Int32 × am_St) := am_lk (g_P_owningUp x0 x1 σ)
theorem eq_P_owningUp (x0 : Int32) (x1 : Int32) (σ : am_St) : f_P_owningUp x0 x1 σ = g_P_owningUp x0 x1 σ := am_lk_eq _
set_option maxRecDepth 100000 in
set_option maxHeartbeats 4000000 in
theorem s_P_owningUp (G : am_G) (x0 : Int32) (x1 : Int32) (σ : am_St) (r : Int32 × am_St) (Q : am_AQ) (e : f_P_owningUp x0 x1 σ = some r) (hr : am_Pi r Q) : am_AW G M_P_owningUp 0 [(0, .int x0), (1, .int x1)] [] σ Q :=
  (show am_Snd G M_P_owningUp 0 am_Pi _ from (sn_iload_n (pc := 0) (i := 0) dX7_owningUp_0 rfl (sn_iconst (pc := 1) (v := 3) dX7_owningUp_1 rfl (sn_icmp_ne (pc := 2) (tgt := 7) dX7_owningUp_2 rfl (sn_iload_n (pc := 7) (i := 0) dX7_owningUp_7 rfl (sn_if_ne (pc := 8) (tgt := 17) dX7_owningUp_8 rfl (sn_iload_n (pc := 17) (i := 1) dX7_owningUp_17 rfl (sn_reti (pc := 18) (R := fun x τ => (some ((x, τ)))) dX7_owningUp_18 rfl (fun _ _ _ _ e h => by cases e; exact h))) (sn_iload_n (pc := 11) (i := 1) dX7_owningUp_11 rfl (sn_iconst (pc := 12) (v := 2) dX7_owningUp_12 rfl (sn_idiv (pc := 13) dX7_owningUp_13 (sn_goto (pc := 14) (tgt := 18) dX7_owningUp_14 rfl (sn_reti (pc := 18) (R := fun x τ => (some ((x, τ)))) dX7_owningUp_18 rfl (fun _ _ _ _ e h => by cases e; exact h)))))))) (sn_iconst (pc := 5) (v := 0) dX7_owningUp_5 rfl (sn_reti (pc := 6) (R := fun x τ => (some ((x, τ)))) dX7_owningUp_6 rfl (fun _ _ _ _ e h => by cases e; exact h))))))) _ _ _ _ _ ((eq_P_owningUp x0 x1 σ).symm.trans e) hr
noncomputable def cF_P_owningUp : am_Fn := fun _ args σ K => match args with
  | [.int z0, .int z1] => (f_P_owningUp z0 z1 σ).bind (fun p => K (some (.int p.1)) p.2)
  | _ => none
theorem cal_P_owningUp (G : am_G) : am_Cal G M_P_owningUp cF_P_owningUp := by
  intro ρ args σ K r e
  unfold cF_P_owningUp at e
  split at e
  · obtain ⟨p, h1, h2⟩ := am_bind_some e
    exact ⟨some (.int p.1), p.2, am_Met.of rfl (Nat.le_of_ble_eq_true rfl) (s_P_owningUp G _ _ σ p _ h1 ⟨rfl, rfl⟩), h2⟩
  · cases e
abbrev M_P_sharedBy : am_MD := (yX7_sharedBy, cX7_sharedBy, 2, (some .int), 0, 0)
theorem dX7_sharedBy_0 : decode cX7_sharedBy 0 = .ok (.iload_n 0, 1) := by decide +kernel
theorem dX7_sharedBy_1 : decode cX7_sharedBy 1 = .ok (.ifCond .le 9, 3) := by decide +kernel
theorem dX7_sharedBy_4 : decode cX7_sharedBy 4 = .ok (.iload_n 1, 1) := by decide +kernel
theorem dX7_sharedBy_5 : decode cX7_sharedBy 5 = .ok (.iload_n 0, 1) := by decide +kernel
theorem dX7_sharedBy_6 : decode cX7_sharedBy 6 = .ok (.idiv, 1) := by decide +kernel
theorem dX7_sharedBy_7 : decode cX7_sharedBy 7 = .ok (.goto 4, 3) := by decide +kernel
theorem dX7_sharedBy_10 : decode cX7_sharedBy 10 = .ok (.iconst 0, 1) := by decide +kernel
theorem dX7_sharedBy_11 : decode cX7_sharedBy 11 = .ok (.ireturn, 1) := by decide +kernel
noncomputable def g_P_sharedBy (x0 : Int32) (x1 : Int32) (σ : am_St) : Option (Int32 × am_St) :=
  if x0 ≤ 0 then
    some ((0, σ))
  else
    if x0 = 0 then none else
      some ((x1 / x0, σ))
noncomputable def f_P_sharedBy (x0 : Int32) (x1 : Int32) (σ : am_St) : Option (Int32 × am_St) := am_lk (g_P_sharedBy x0 x1 σ)
theorem eq_P_sharedBy (x0 : Int32) (x1 : Int32) (σ : am_St) : f_P_sharedBy x0 x1 σ = g_P_sharedBy x0 x1 σ := am_lk_eq _
set_option maxRecDepth 100000 in
set_option maxHeartbeats 4000000 in
theorem s_P_sharedBy (G : am_G) (x0 : Int32) (x1 : Int32) (σ : am_St) (r : Int32 × am_St) (Q : am_AQ) (e : f_P_sharedBy x0 x1 σ = some r) (hr : am_Pi r Q) : am_AW G M_P_sharedBy 0 [(0, .int x0), (1, .int x1)] [] σ Q :=
  (show am_Snd G M_P_sharedBy 0 am_Pi _ from (sn_iload_n (pc := 0) (i := 0) dX7_sharedBy_0 rfl (sn_if_le (pc := 1) (tgt := 10) dX7_sharedBy_1 rfl (sn_iconst (pc := 10) (v := 0) dX7_sharedBy_10 rfl (sn_reti (pc := 11) (R := fun x τ => (some ((x, τ)))) dX7_sharedBy_11 rfl (fun _ _ _ _ e h => by cases e; exact h))) (sn_iload_n (pc := 4) (i := 1) dX7_sharedBy_4 rfl (sn_iload_n (pc := 5) (i := 0) dX7_sharedBy_5 rfl (sn_idiv (pc := 6) dX7_sharedBy_6 (sn_goto (pc := 7) (tgt := 11) dX7_sharedBy_7 rfl (sn_reti (pc := 11) (R := fun x τ => (some ((x, τ)))) dX7_sharedBy_11 rfl (fun _ _ _ _ e h => by cases e; exact h))))))))) _ _ _ _ _ ((eq_P_sharedBy x0 x1 σ).symm.trans e) hr
noncomputable def cF_P_sharedBy : am_Fn := fun _ args σ K => match args with
  | [.int z0, .int z1] => (f_P_sharedBy z0 z1 σ).bind (fun p => K (some (.int p.1)) p.2)
  | _ => none
theorem cal_P_sharedBy (G : am_G) : am_Cal G M_P_sharedBy cF_P_sharedBy := by
  intro ρ args σ K r e
  unfold cF_P_sharedBy at e
  split at e
  · obtain ⟨p, h1, h2⟩ := am_bind_some e
    exact ⟨some (.int p.1), p.2, am_Met.of rfl (Nat.le_of_ble_eq_true rfl) (s_P_sharedBy G _ _ σ p _ h1 ⟨rfl, rfl⟩), h2⟩
  · cases e
abbrev M_P_denying : am_MD := (yX7_denying, cX7_denying, 4, (some .int), 1, 21)
theorem dX7_denying_0 : decode cX7_denying 0 = .ok (.iload_n 2, 1) := by decide +kernel
theorem dX7_denying_1 : decode cX7_denying 1 = .ok (.ifCond .gt 8, 3) := by decide +kernel
theorem dX7_denying_4 : decode cX7_denying 4 = .ok (.iload_n 0, 1) := by decide +kernel
theorem dX7_denying_5 : decode cX7_denying 5 = .ok (.iconst 2, 1) := by decide +kernel
theorem dX7_denying_6 : decode cX7_denying 6 = .ok (.if_icmp .ne 5, 3) := by decide +kernel
theorem dX7_denying_9 : decode cX7_denying 9 = .ok (.iload_n 1, 1) := by decide +kernel
theorem dX7_denying_10 : decode cX7_denying 10 = .ok (.ireturn, 1) := by decide +kernel
theorem dX7_denying_11 : decode cX7_denying 11 = .ok (.iload_n 0, 1) := by decide +kernel
theorem dX7_denying_12 : decode cX7_denying 12 = .ok (.ifCond .ne 11, 3) := by decide +kernel
theorem dX7_denying_15 : decode cX7_denying 15 = .ok (.iload_n 3, 1) := by decide +kernel
theorem dX7_denying_16 : decode cX7_denying 16 = .ok (.iload_n 1, 1) := by decide +kernel
theorem dX7_denying_17 : decode cX7_denying 17 = .ok (.invokestatic 35, 3) := by decide +kernel
theorem dX7_denying_20 : decode cX7_denying 20 = .ok (.goto 4, 3) := by decide +kernel
theorem dX7_denying_23 : decode cX7_denying 23 = .ok (.iconst 0, 1) := by decide +kernel
theorem dX7_denying_24 : decode cX7_denying 24 = .ok (.ireturn, 1) := by decide +kernel
noncomputable def g_P_denying (x0 : Int32) (x1 : Int32) (x2 : Int32) (x3 : Int32) (σ : am_St) : Option (Int32 × am_St) :=
  if 0 < x2 then
    some ((x1, σ))
  else
    if x0 = 2 then
      some ((x1, σ))
    else
      if x0 = 0 then
        (f_P_sharedBy x3 x1 σ).bind (fun p1 =>
          some ((p1.1, p1.2)))
      else
        some ((0, σ))
noncomputable def f_P_denying (x0 : Int32) (x1 : Int32) (x2 : Int32) (x3 : Int32) (σ : am_St) : Option (Int32 × am_St) := am_lk (g_P_denying x0 x1 x2 x3 σ)
theorem eq_P_denying (x0 : Int32) (x1 : Int32) (x2 : Int32) (x3 : Int32) (σ : am_St) : f_P_denying x0 x1 x2 x3 σ = g_P_denying x0 x1 x2 x3 σ := am_lk_eq _
set_option maxRecDepth 100000 in
set_option maxHeartbeats 4000000 in
theorem s_P_denying (G : am_G) (x0 : Int32) (x1 : Int32) (x2 : Int32) (x3 : Int32) (σ : am_St) (r : Int32 × am_St) (Q : am_AQ) (e : f_P_denying x0 x1 x2 x3 σ = some r) (hr : am_Pi r Q) : am_AW G M_P_denying 0 [(0, .int x0), (1, .int x1), (2, .int x2), (3, .int x3)] [] σ Q :=
  (show am_Snd G M_P_denying 0 am_Pi _ from (sn_iload_n (pc := 0) (i := 2) dX7_denying_0 rfl (sn_if_gt (pc := 1) (tgt := 9) dX7_denying_1 rfl (sn_iload_n (pc := 9) (i := 1) dX7_denying_9 rfl (sn_reti (pc := 10) (R := fun x τ => (some ((x, τ)))) dX7_denying_10 rfl (fun _ _ _ _ e h => by cases e; exact h))) (sn_iload_n (pc := 4) (i := 0) dX7_denying_4 rfl (sn_iconst (pc := 5) (v := 2) dX7_denying_5 rfl (sn_icmp_ne (pc := 6) (tgt := 11) dX7_denying_6 rfl (sn_iload_n (pc := 11) (i := 0) dX7_denying_11 rfl (sn_if_ne (pc := 12) (tgt := 23) dX7_denying_12 rfl (sn_iconst (pc := 23) (v := 0) dX7_denying_23 rfl (sn_reti (pc := 24) (R := fun x τ => (some ((x, τ)))) dX7_denying_24 rfl (fun _ _ _ _ e h => by cases e; exact h))) (sn_iload_n (pc := 15) (i := 3) dX7_denying_15 rfl (sn_iload_n (pc := 16) (i := 1) dX7_denying_16 rfl (sn_callS (pc := 17) (N := M_P_sharedBy) dX7_denying_17 (cal_P_sharedBy G) tw_823 tw_824 tw_16 tw_825 dsc_X7_sharedBy rfl (sn_goto (pc := 20) (tgt := 24) dX7_denying_20 rfl (sn_reti (pc := 24) (R := fun x τ => (some ((x, τ)))) dX7_denying_24 rfl (fun _ _ _ _ e h => by cases e; exact h)))))))) (sn_iload_n (pc := 9) (i := 1) dX7_denying_9 rfl (sn_reti (pc := 10) (R := fun x τ => (some ((x, τ)))) dX7_denying_10 rfl (fun _ _ _ _ e h => by cases e; exact h))))))))) _ _ _ _ _ ((eq_P_denying x0 x1 x2 x3 σ).symm.trans e) hr
noncomputable def cF_P_denying : am_Fn := fun _ args σ K => match args with
  | [.int z0, .int z1, .int z2, .int z3] => (f_P_denying z0 z1 z2 z3 σ).bind (fun p => K (some (.int p.1)) p.2)
  | _ => none
theorem cal_P_denying (G : am_G) : am_Cal G M_P_denying cF_P_denying := by
  intro ρ args σ K r e
  unfold cF_P_denying at e
  split at e
  · obtain ⟨p, h1, h2⟩ := am_bind_some e
    exact ⟨some (.int p.1), p.2, am_Met.of rfl (Nat.le_of_ble_eq_true rfl) (s_P_denying G _ _ _ _ σ p _ h1 ⟨rfl, rfl⟩), h2⟩
  · cases e
abbrev M_P_ownsUp : am_MD := (yX7_ownsUp, cX7_ownsUp, 4, (some .boolean), 2, 44)
theorem dX7_ownsUp_0 : decode cX7_ownsUp 0 = .ok (.iload_n 0, 1) := by decide +kernel
theorem dX7_ownsUp_1 : decode cX7_ownsUp 1 = .ok (.iload_n 1, 1) := by decide +kernel
theorem dX7_ownsUp_2 : decode cX7_ownsUp 2 = .ok (.invokestatic 39, 3) := by decide +kernel
theorem dX7_ownsUp_5 : decode cX7_ownsUp 5 = .ok (.iload_n 0, 1) := by decide +kernel
theorem dX7_ownsUp_6 : decode cX7_ownsUp 6 = .ok (.iload_n 1, 1) := by decide +kernel
theorem dX7_ownsUp_7 : decode cX7_ownsUp 7 = .ok (.iload_n 2, 1) := by decide +kernel
theorem dX7_ownsUp_8 : decode cX7_ownsUp 8 = .ok (.iload_n 3, 1) := by decide +kernel
theorem dX7_ownsUp_9 : decode cX7_ownsUp 9 = .ok (.invokestatic 42, 3) := by decide +kernel
theorem dX7_ownsUp_12 : decode cX7_ownsUp 12 = .ok (.if_icmp .gt 7, 3) := by decide +kernel
theorem dX7_ownsUp_15 : decode cX7_ownsUp 15 = .ok (.iconst 1, 1) := by decide +kernel
theorem dX7_ownsUp_16 : decode cX7_ownsUp 16 = .ok (.goto 4, 3) := by decide +kernel
theorem dX7_ownsUp_19 : decode cX7_ownsUp 19 = .ok (.iconst 0, 1) := by decide +kernel
theorem dX7_ownsUp_20 : decode cX7_ownsUp 20 = .ok (.ireturn, 1) := by decide +kernel
noncomputable def g_P_ownsUp (x0 : Int32) (x1 : Int32) (x2 : Int32) (x3 : Int32) (σ : am_St) : Option (Int32 × am_St) :=
  (f_P_owningUp x0 x1 σ).bind (fun p1 =>
    (f_P_denying x0 x1 x2 x3 p1.2).bind (fun p2 =>
      if p2.1 < p1.1 then
        some ((0, p2.2))
      else
        some ((1, p2.2))))
noncomputable def f_P_ownsUp (x0 : Int32) (x1 : Int32) (x2 : Int32) (x3 : Int32) (σ : am_St) : Option (Int32 × am_St) := am_lk (g_P_ownsUp x0 x1 x2 x3 σ)
theorem eq_P_ownsUp (x0 : Int32) (x1 : Int32) (x2 : Int32) (x3 : Int32) (σ : am_St) : f_P_ownsUp x0 x1 x2 x3 σ = g_P_ownsUp x0 x1 x2 x3 σ := am_lk_eq _
set_option maxRecDepth 100000 in
set_option maxHeartbeats 4000000 in
theorem s_P_ownsUp (G : am_G) (x0 : Int32) (x1 : Int32) (x2 : Int32) (x3 : Int32) (σ : am_St) (r : Int32 × am_St) (Q : am_AQ) (e : f_P_ownsUp x0 x1 x2 x3 σ = some r) (hr : am_Pi r Q) : am_AW G M_P_ownsUp 0 [(0, .int x0), (1, .int x1), (2, .int x2), (3, .int x3)] [] σ Q :=
  (show am_Snd G M_P_ownsUp 0 am_Pi _ from (sn_iload_n (pc := 0) (i := 0) dX7_ownsUp_0 rfl (sn_iload_n (pc := 1) (i := 1) dX7_ownsUp_1 rfl (sn_callS (pc := 2) (N := M_P_owningUp) dX7_ownsUp_2 (cal_P_owningUp G) tw_829 tw_818 tw_16 tw_819 dsc_X7_owningUp rfl (sn_iload_n (pc := 5) (i := 0) dX7_ownsUp_5 rfl (sn_iload_n (pc := 6) (i := 1) dX7_ownsUp_6 rfl (sn_iload_n (pc := 7) (i := 2) dX7_ownsUp_7 rfl (sn_iload_n (pc := 8) (i := 3) dX7_ownsUp_8 rfl (sn_callS (pc := 9) (N := M_P_denying) dX7_ownsUp_9 (cal_P_denying G) tw_830 tw_821 tw_16 tw_822 dsc_X7_denying rfl (sn_icmp_gt (pc := 12) (tgt := 19) dX7_ownsUp_12 rfl (sn_iconst (pc := 19) (v := 0) dX7_ownsUp_19 rfl (sn_retz (pc := 20) (R := fun x τ => (some ((x, τ)))) dX7_ownsUp_20 rfl (fun _ _ _ _ e h => by cases e; exact h))) (sn_iconst (pc := 15) (v := 1) dX7_ownsUp_15 rfl (sn_goto (pc := 16) (tgt := 20) dX7_ownsUp_16 rfl (sn_retz (pc := 20) (R := fun x τ => (some ((x, τ)))) dX7_ownsUp_20 rfl (fun _ _ _ _ e h => by cases e; exact h)))))))))))))) _ _ _ _ _ ((eq_P_ownsUp x0 x1 x2 x3 σ).symm.trans e) hr
noncomputable def cF_P_ownsUp : am_Fn := fun _ args σ K => match args with
  | [.int z0, .int z1, .int z2, .int z3] => (f_P_ownsUp z0 z1 z2 z3 σ).bind (fun p => K (some (.int p.1)) p.2)
  | _ => none
theorem cal_P_ownsUp (G : am_G) : am_Cal G M_P_ownsUp cF_P_ownsUp := by
  intro ρ args σ K r e
  unfold cF_P_ownsUp at e
  split at e
  · obtain ⟨p, h1, h2⟩ := am_bind_some e
    exact ⟨some (.int p.1), p.2, am_Met.of rfl (Nat.le_of_ble_eq_true rfl) (s_P_ownsUp G _ _ _ _ σ p _ h1 ⟨rfl, rfl⟩), h2⟩
  · cases e
abbrev M_P_othersPay : am_MD := (yX7_othersPay, cX7_othersPay, 4, (some .int), 3, 67)
theorem dX7_othersPay_0 : decode cX7_othersPay 0 = .ok (.iload_n 0, 1) := by decide +kernel
theorem dX7_othersPay_1 : decode cX7_othersPay 1 = .ok (.ifCond .ne 13, 3) := by decide +kernel
theorem dX7_othersPay_4 : decode cX7_othersPay 4 = .ok (.iload_n 0, 1) := by decide +kernel
theorem dX7_othersPay_5 : decode cX7_othersPay 5 = .ok (.iload_n 1, 1) := by decide +kernel
theorem dX7_othersPay_6 : decode cX7_othersPay 6 = .ok (.iload_n 2, 1) := by decide +kernel
theorem dX7_othersPay_7 : decode cX7_othersPay 7 = .ok (.iload_n 3, 1) := by decide +kernel
theorem dX7_othersPay_8 : decode cX7_othersPay 8 = .ok (.invokestatic 46, 3) := by decide +kernel
theorem dX7_othersPay_11 : decode cX7_othersPay 11 = .ok (.ifCond .eq 5, 3) := by decide +kernel
theorem dX7_othersPay_14 : decode cX7_othersPay 14 = .ok (.iconst 0, 1) := by decide +kernel
theorem dX7_othersPay_15 : decode cX7_othersPay 15 = .ok (.ireturn, 1) := by decide +kernel
theorem dX7_othersPay_16 : decode cX7_othersPay 16 = .ok (.iload_n 3, 1) := by decide +kernel
theorem dX7_othersPay_17 : decode cX7_othersPay 17 = .ok (.iload_n 1, 1) := by decide +kernel
theorem dX7_othersPay_18 : decode cX7_othersPay 18 = .ok (.invokestatic 35, 3) := by decide +kernel
theorem dX7_othersPay_21 : decode cX7_othersPay 21 = .ok (.iload_n 3, 1) := by decide +kernel
theorem dX7_othersPay_22 : decode cX7_othersPay 22 = .ok (.iconst 1, 1) := by decide +kernel
theorem dX7_othersPay_23 : decode cX7_othersPay 23 = .ok (.isub, 1) := by decide +kernel
theorem dX7_othersPay_24 : decode cX7_othersPay 24 = .ok (.imul, 1) := by decide +kernel
theorem dX7_othersPay_25 : decode cX7_othersPay 25 = .ok (.ireturn, 1) := by decide +kernel
noncomputable def g_P_othersPay (x0 : Int32) (x1 : Int32) (x2 : Int32) (x3 : Int32) (σ : am_St) : Option (Int32 × am_St) :=
  if x0 = 0 then
    (f_P_ownsUp x0 x1 x2 x3 σ).bind (fun p1 =>
      if p1.1 = 0 then
        (f_P_sharedBy x3 x1 p1.2).bind (fun p2 =>
          some ((p2.1 * (x3 - 1), p2.2)))
      else
        some ((0, p1.2)))
  else
    some ((0, σ))
noncomputable def f_P_othersPay (x0 : Int32) (x1 : Int32) (x2 : Int32) (x3 : Int32) (σ : am_St) : Option (Int32 × am_St) := am_lk (g_P_othersPay x0 x1 x2 x3 σ)
theorem eq_P_othersPay (x0 : Int32) (x1 : Int32) (x2 : Int32) (x3 : Int32) (σ : am_St) : f_P_othersPay x0 x1 x2 x3 σ = g_P_othersPay x0 x1 x2 x3 σ := am_lk_eq _
set_option maxRecDepth 100000 in
set_option maxHeartbeats 4000000 in
theorem s_P_othersPay (G : am_G) (x0 : Int32) (x1 : Int32) (x2 : Int32) (x3 : Int32) (σ : am_St) (r : Int32 × am_St) (Q : am_AQ) (e : f_P_othersPay x0 x1 x2 x3 σ = some r) (hr : am_Pi r Q) : am_AW G M_P_othersPay 0 [(0, .int x0), (1, .int x1), (2, .int x2), (3, .int x3)] [] σ Q :=
  (show am_Snd G M_P_othersPay 0 am_Pi _ from (sn_iload_n (pc := 0) (i := 0) dX7_othersPay_0 rfl (sn_if_ne (pc := 1) (tgt := 14) dX7_othersPay_1 rfl (sn_iconst (pc := 14) (v := 0) dX7_othersPay_14 rfl (sn_reti (pc := 15) (R := fun x τ => (some ((x, τ)))) dX7_othersPay_15 rfl (fun _ _ _ _ e h => by cases e; exact h))) (sn_iload_n (pc := 4) (i := 0) dX7_othersPay_4 rfl (sn_iload_n (pc := 5) (i := 1) dX7_othersPay_5 rfl (sn_iload_n (pc := 6) (i := 2) dX7_othersPay_6 rfl (sn_iload_n (pc := 7) (i := 3) dX7_othersPay_7 rfl (sn_callS (pc := 8) (N := M_P_ownsUp) dX7_othersPay_8 (cal_P_ownsUp G) tw_834 tw_827 tw_16 tw_828 dsc_X7_ownsUp rfl (sn_if_eq (pc := 11) (tgt := 16) dX7_othersPay_11 rfl (sn_iload_n (pc := 16) (i := 3) dX7_othersPay_16 rfl (sn_iload_n (pc := 17) (i := 1) dX7_othersPay_17 rfl (sn_callS (pc := 18) (N := M_P_sharedBy) dX7_othersPay_18 (cal_P_sharedBy G) tw_823 tw_824 tw_16 tw_825 dsc_X7_sharedBy rfl (sn_iload_n (pc := 21) (i := 3) dX7_othersPay_21 rfl (sn_iconst (pc := 22) (v := 1) dX7_othersPay_22 rfl (sn_isub (pc := 23) dX7_othersPay_23 (sn_imul (pc := 24) dX7_othersPay_24 (sn_reti (pc := 25) (R := fun x τ => (some ((x, τ)))) dX7_othersPay_25 rfl (fun _ _ _ _ e h => by cases e; exact h))))))))) (sn_iconst (pc := 14) (v := 0) dX7_othersPay_14 rfl (sn_reti (pc := 15) (R := fun x τ => (some ((x, τ)))) dX7_othersPay_15 rfl (fun _ _ _ _ e h => by cases e; exact h)))))))))))) _ _ _ _ _ ((eq_P_othersPay x0 x1 x2 x3 σ).symm.trans e) hr
noncomputable def cF_P_othersPay : am_Fn := fun _ args σ K => match args with
  | [.int z0, .int z1, .int z2, .int z3] => (f_P_othersPay z0 z1 z2 z3 σ).bind (fun p => K (some (.int p.1)) p.2)
  | _ => none
theorem cal_P_othersPay (G : am_G) : am_Cal G M_P_othersPay cF_P_othersPay := by
  intro ρ args σ K r e
  unfold cF_P_othersPay at e
  split at e
  · obtain ⟨p, h1, h2⟩ := am_bind_some e
    exact ⟨some (.int p.1), p.2, am_Met.of rfl (Nat.le_of_ble_eq_true rfl) (s_P_othersPay G _ _ _ _ σ p _ h1 ⟨rfl, rfl⟩), h2⟩
  · cases e
abbrev M_X_law : am_MD := (yX11_law, cX11_law, 6, (some .int), 6, 139)
theorem dX11_law_0 : decode cX11_law 0 = .ok (.aload_n 0, 1) := by decide +kernel
theorem dX11_law_1 : decode cX11_law 1 = .ok (.getfield 10, 3) := by decide +kernel
theorem dX11_law_4 : decode cX11_law 4 = .ok (.iload_n 1, 1) := by decide +kernel
theorem dX11_law_5 : decode cX11_law 5 = .ok (.invokevirtual 81, 3) := by decide +kernel
theorem dX11_law_8 : decode cX11_law 8 = .ok (.ifCond .ne 9, 3) := by decide +kernel
theorem dX11_law_11 : decode cX11_law 11 = .ok (.aload_n 0, 1) := by decide +kernel
theorem dX11_law_12 : decode cX11_law 12 = .ok (.iconst (-1), 1) := by decide +kernel
theorem dX11_law_13 : decode cX11_law 13 = .ok (.invokevirtual 55, 3) := by decide +kernel
theorem dX11_law_16 : decode cX11_law 16 = .ok (.ireturn, 1) := by decide +kernel
theorem dX11_law_17 : decode cX11_law 17 = .ok (.iload_n 2, 1) := by decide +kernel
theorem dX11_law_18 : decode cX11_law 18 = .ok (.invokestatic 244, 3) := by decide +kernel
theorem dX11_law_21 : decode cX11_law 21 = .ok (.ifCond .ne 10, 3) := by decide +kernel
theorem dX11_law_24 : decode cX11_law 24 = .ok (.aload_n 0, 1) := by decide +kernel
theorem dX11_law_25 : decode cX11_law 25 = .ok (.bipush (-2), 2) := by decide +kernel
theorem dX11_law_27 : decode cX11_law 27 = .ok (.invokevirtual 55, 3) := by decide +kernel
theorem dX11_law_30 : decode cX11_law 30 = .ok (.ireturn, 1) := by decide +kernel
theorem dX11_law_31 : decode cX11_law 31 = .ok (.iload_n 3, 1) := by decide +kernel
theorem dX11_law_32 : decode cX11_law 32 = .ok (.ifCond .ge 10, 3) := by decide +kernel
theorem dX11_law_35 : decode cX11_law 35 = .ok (.aload_n 0, 1) := by decide +kernel
theorem dX11_law_36 : decode cX11_law 36 = .ok (.bipush (-4), 2) := by decide +kernel
theorem dX11_law_38 : decode cX11_law 38 = .ok (.invokevirtual 55, 3) := by decide +kernel
theorem dX11_law_41 : decode cX11_law 41 = .ok (.ireturn, 1) := by decide +kernel
theorem dX11_law_42 : decode cX11_law 42 = .ok (.iload_n 3, 1) := by decide +kernel
theorem dX11_law_43 : decode cX11_law 43 = .ok (.bipush 99, 2) := by decide +kernel
theorem dX11_law_45 : decode cX11_law 45 = .ok (.if_icmp .le 10, 3) := by decide +kernel
theorem dX11_law_48 : decode cX11_law 48 = .ok (.aload_n 0, 1) := by decide +kernel
theorem dX11_law_49 : decode cX11_law 49 = .ok (.bipush (-6), 2) := by decide +kernel
theorem dX11_law_51 : decode cX11_law 51 = .ok (.invokevirtual 55, 3) := by decide +kernel
theorem dX11_law_54 : decode cX11_law 54 = .ok (.ireturn, 1) := by decide +kernel
theorem dX11_law_55 : decode cX11_law 55 = .ok (.aload_n 0, 1) := by decide +kernel
theorem dX11_law_56 : decode cX11_law 56 = .ok (.getfield 10, 3) := by decide +kernel
theorem dX11_law_59 : decode cX11_law 59 = .ok (.iload_n 1, 1) := by decide +kernel
theorem dX11_law_60 : decode cX11_law 60 = .ok (.invokevirtual 247, 3) := by decide +kernel
theorem dX11_law_63 : decode cX11_law 63 = .ok (.istore 5, 2) := by decide +kernel
theorem dX11_law_65 : decode cX11_law 65 = .ok (.iload 4, 2) := by decide +kernel
theorem dX11_law_67 : decode cX11_law 67 = .ok (.tableswitch 83 0 3 #[29, 35, 50, 68], 29) := by decide +kernel
theorem dX11_law_96 : decode cX11_law 96 = .ok (.iload_n 2, 1) := by decide +kernel
theorem dX11_law_97 : decode cX11_law 97 = .ok (.iload_n 3, 1) := by decide +kernel
theorem dX11_law_98 : decode cX11_law 98 = .ok (.invokestatic 250, 3) := by decide +kernel
theorem dX11_law_101 : decode cX11_law 101 = .ok (.ireturn, 1) := by decide +kernel
theorem dX11_law_102 : decode cX11_law 102 = .ok (.iload_n 2, 1) := by decide +kernel
theorem dX11_law_103 : decode cX11_law 103 = .ok (.iload_n 3, 1) := by decide +kernel
theorem dX11_law_104 : decode cX11_law 104 = .ok (.iload 5, 2) := by decide +kernel
theorem dX11_law_106 : decode cX11_law 106 = .ok (.aload_n 0, 1) := by decide +kernel
theorem dX11_law_107 : decode cX11_law 107 = .ok (.getfield 10, 3) := by decide +kernel
theorem dX11_law_110 : decode cX11_law 110 = .ok (.getfield 171, 3) := by decide +kernel
theorem dX11_law_113 : decode cX11_law 113 = .ok (.invokestatic 253, 3) := by decide +kernel
theorem dX11_law_116 : decode cX11_law 116 = .ok (.ireturn, 1) := by decide +kernel
theorem dX11_law_117 : decode cX11_law 117 = .ok (.iload_n 2, 1) := by decide +kernel
theorem dX11_law_118 : decode cX11_law 118 = .ok (.iload_n 3, 1) := by decide +kernel
theorem dX11_law_119 : decode cX11_law 119 = .ok (.iload 5, 2) := by decide +kernel
theorem dX11_law_121 : decode cX11_law 121 = .ok (.aload_n 0, 1) := by decide +kernel
theorem dX11_law_122 : decode cX11_law 122 = .ok (.getfield 10, 3) := by decide +kernel
theorem dX11_law_125 : decode cX11_law 125 = .ok (.getfield 171, 3) := by decide +kernel
theorem dX11_law_128 : decode cX11_law 128 = .ok (.invokestatic 257, 3) := by decide +kernel
theorem dX11_law_131 : decode cX11_law 131 = .ok (.invokestatic 117, 3) := by decide +kernel
theorem dX11_law_134 : decode cX11_law 134 = .ok (.ireturn, 1) := by decide +kernel
theorem dX11_law_135 : decode cX11_law 135 = .ok (.iload_n 2, 1) := by decide +kernel
theorem dX11_law_136 : decode cX11_law 136 = .ok (.iload_n 3, 1) := by decide +kernel
theorem dX11_law_137 : decode cX11_law 137 = .ok (.iload 5, 2) := by decide +kernel
theorem dX11_law_139 : decode cX11_law 139 = .ok (.aload_n 0, 1) := by decide +kernel
theorem dX11_law_140 : decode cX11_law 140 = .ok (.getfield 10, 3) := by decide +kernel
theorem dX11_law_143 : decode cX11_law 143 = .ok (.getfield 171, 3) := by decide +kernel
theorem dX11_law_146 : decode cX11_law 146 = .ok (.invokestatic 260, 3) := by decide +kernel
theorem dX11_law_149 : decode cX11_law 149 = .ok (.ireturn, 1) := by decide +kernel
theorem dX11_law_150 : decode cX11_law 150 = .ok (.aload_n 0, 1) := by decide +kernel
theorem dX11_law_151 : decode cX11_law 151 = .ok (.bipush (-2), 2) := by decide +kernel
theorem dX11_law_153 : decode cX11_law 153 = .ok (.invokevirtual 55, 3) := by decide +kernel
theorem dX11_law_156 : decode cX11_law 156 = .ok (.ireturn, 1) := by decide +kernel
noncomputable def g_X_law_48 (σ : am_St) : Option (Int32 × am_St) :=
  (f_X_refuse (-6) σ).bind (fun p1 =>
    some ((p1.1, p1.2)))
noncomputable def f_X_law_48 (σ : am_St) : Option (Int32 × am_St) := am_lk (g_X_law_48  σ)
theorem eq_X_law_48 (σ : am_St) : f_X_law_48  σ = g_X_law_48  σ := am_lk_eq _
set_option maxRecDepth 100000 in
set_option maxHeartbeats 4000000 in
theorem s_X_law_48 (G : am_G) (σ : am_St) (r : Int32 × am_St) (Q : am_AQ) (e : f_X_law_48  σ = some r) (hr : am_Pi r Q) : am_AW G M_X_law 48 [(0, .ref 0)] [] σ Q :=
  (show am_Snd G M_X_law 48 am_Pi _ from (sn_aload_n (pc := 48) (i := 0) dX11_law_48 rfl (sn_bipush (pc := 49) (v := (-6)) dX11_law_49 (show (Int8.ofInt (-6)).toInt32 = (-6) by decide) (sn_callV (pc := 51) (N := M_X_refuse) dX11_law_51 (cal_X_refuse G) sh_0 rfl tw_251 tw_253 tp_0 tw_1 tw_254 dsc_X11_refuse rfl (sn_reti (pc := 54) (R := fun x τ => (some ((x, τ)))) dX11_law_54 rfl (fun _ _ _ _ e h => by cases e; exact h)))))) _ _ _ _ _ ((eq_X_law_48  σ).symm.trans e) hr
noncomputable def g_X_law_55 (x1 : Int32) (x2 : Int32) (x3 : Int32) (x4 : Int32) (σ : am_St) : Option (Int32 × am_St) :=
  (f_H_namersOf_1 x1 σ).bind (fun p1 =>
    if x4 = 0 then
      (f_P_owningUp x2 x3 p1.2).bind (fun p2 =>
        some ((p2.1, p2.2)))
    else
    if x4 = 1 then
      (f_P_denying x2 x3 p1.1 (p1.2.1 1 2) p1.2).bind (fun p3 =>
        some ((p3.1, p3.2)))
    else
    if x4 = 2 then
      (f_P_ownsUp x2 x3 p1.1 (p1.2.1 1 2) p1.2).bind (fun p4 =>
        (f_X_bit p4.1 p4.2).bind (fun p5 =>
          some ((p5.1, p5.2))))
    else
    if x4 = 3 then
      (f_P_othersPay x2 x3 p1.1 (p1.2.1 1 2) p1.2).bind (fun p6 =>
        some ((p6.1, p6.2)))
    else
    (f_X_refuse (-2) p1.2).bind (fun p7 =>
      some ((p7.1, p7.2))))
noncomputable def f_X_law_55 (x1 : Int32) (x2 : Int32) (x3 : Int32) (x4 : Int32) (σ : am_St) : Option (Int32 × am_St) := am_lk (g_X_law_55 x1 x2 x3 x4 σ)
theorem eq_X_law_55 (x1 : Int32) (x2 : Int32) (x3 : Int32) (x4 : Int32) (σ : am_St) : f_X_law_55 x1 x2 x3 x4 σ = g_X_law_55 x1 x2 x3 x4 σ := am_lk_eq _
set_option maxRecDepth 100000 in
set_option maxHeartbeats 4000000 in
theorem s_X_law_55 (G : am_G) (x1 : Int32) (x2 : Int32) (x3 : Int32) (x4 : Int32) (σ : am_St) (r : Int32 × am_St) (Q : am_AQ) (e : f_X_law_55 x1 x2 x3 x4 σ = some r) (hr : am_Pi r Q) : am_AW G M_X_law 55 [(4, .int x4), (3, .int x3), (2, .int x2), (1, .int x1), (0, .ref 0)] [] σ Q :=
  (show am_Snd G M_X_law 55 am_Pi _ from (sn_aload_n (pc := 55) (i := 0) dX11_law_55 rfl (sn_gR (r0 := 1) (pc := 56) (h := 0) (f := 0) dX11_law_56 am_CL_10 sh_0 rfl (Nat.le_of_ble_eq_true rfl) tw_219 (sn_iload_n (pc := 59) (i := 1) dX11_law_59 rfl (sn_callV (pc := 60) (N := M_H_namersOf) dX11_law_60 (cal_H_namersOf_1 G) sh_1 rfl tw_812 tw_813 tw_814 tw_2 tw_815 dsc_X3_namersOf rfl (sn_istore (pc := 63) dX11_law_63 (Nat.le_of_ble_eq_true rfl) (sn_iload (pc := 65) dX11_law_65 (sn_tsw (pc := 67) (dt := 150) (vs := [0, 1, 2, 3]) (ts := [96, 102, 117, 135]) dX11_law_67 (by decide +kernel) (sn_aload_n (pc := 150) (i := 0) dX11_law_150 rfl (sn_bipush (pc := 151) (v := (-2)) dX11_law_151 (show (Int8.ofInt (-2)).toInt32 = (-2) by decide) (sn_callV (pc := 153) (N := M_X_refuse) dX11_law_153 (cal_X_refuse G) sh_0 rfl tw_251 tw_253 tp_0 tw_1 tw_254 dsc_X11_refuse rfl (sn_reti (pc := 156) (R := fun x τ => (some ((x, τ)))) dX11_law_156 rfl (fun _ _ _ _ e h => by cases e; exact h))))) (am_all_cons (sn_iload_n (pc := 96) (i := 2) dX11_law_96 rfl (sn_iload_n (pc := 97) (i := 3) dX11_law_97 rfl (sn_callS (pc := 98) (N := M_P_owningUp) dX11_law_98 (cal_P_owningUp G) tw_817 tw_818 tw_16 tw_819 dsc_X7_owningUp rfl (sn_reti (pc := 101) (R := fun x τ => (some ((x, τ)))) dX11_law_101 rfl (fun _ _ _ _ e h => by cases e; exact h))))) (am_all_cons (sn_iload_n (pc := 102) (i := 2) dX11_law_102 rfl (sn_iload_n (pc := 103) (i := 3) dX11_law_103 rfl (sn_iload (pc := 104) dX11_law_104 (sn_aload_n (pc := 106) (i := 0) dX11_law_106 rfl (sn_gR (r0 := 1) (pc := 107) (h := 0) (f := 0) dX11_law_107 am_CL_10 sh_0 rfl (Nat.le_of_ble_eq_true rfl) tw_219 (sn_gI (pc := 110) (h := 1) (f := 2) dX11_law_110 am_CL_3 sh_1 rfl (Nat.le_of_ble_eq_true rfl) tw_85 (sn_callS (pc := 113) (N := M_P_denying) dX11_law_113 (cal_P_denying G) tw_820 tw_821 tw_16 tw_822 dsc_X7_denying rfl (sn_reti (pc := 116) (R := fun x τ => (some ((x, τ)))) dX11_law_116 rfl (fun _ _ _ _ e h => by cases e; exact h))))))))) (am_all_cons (sn_iload_n (pc := 117) (i := 2) dX11_law_117 rfl (sn_iload_n (pc := 118) (i := 3) dX11_law_118 rfl (sn_iload (pc := 119) dX11_law_119 (sn_aload_n (pc := 121) (i := 0) dX11_law_121 rfl (sn_gR (r0 := 1) (pc := 122) (h := 0) (f := 0) dX11_law_122 am_CL_10 sh_0 rfl (Nat.le_of_ble_eq_true rfl) tw_219 (sn_gI (pc := 125) (h := 1) (f := 2) dX11_law_125 am_CL_3 sh_1 rfl (Nat.le_of_ble_eq_true rfl) tw_85 (sn_callS (pc := 128) (N := M_P_ownsUp) dX11_law_128 (cal_P_ownsUp G) tw_826 tw_827 tw_16 tw_828 dsc_X7_ownsUp rfl (sn_callS (pc := 131) (N := M_X_bit) dX11_law_131 (cal_X_bit G) tw_531 tw_412 tw_1 tw_413 dsc_X11_bit rfl (sn_reti (pc := 134) (R := fun x τ => (some ((x, τ)))) dX11_law_134 rfl (fun _ _ _ _ e h => by cases e; exact h)))))))))) (am_all_cons (sn_iload_n (pc := 135) (i := 2) dX11_law_135 rfl (sn_iload_n (pc := 136) (i := 3) dX11_law_136 rfl (sn_iload (pc := 137) dX11_law_137 (sn_aload_n (pc := 139) (i := 0) dX11_law_139 rfl (sn_gR (r0 := 1) (pc := 140) (h := 0) (f := 0) dX11_law_140 am_CL_10 sh_0 rfl (Nat.le_of_ble_eq_true rfl) tw_219 (sn_gI (pc := 143) (h := 1) (f := 2) dX11_law_143 am_CL_3 sh_1 rfl (Nat.le_of_ble_eq_true rfl) tw_85 (sn_callS (pc := 146) (N := M_P_othersPay) dX11_law_146 (cal_P_othersPay G) tw_831 tw_832 tw_16 tw_833 dsc_X7_othersPay rfl (sn_reti (pc := 149) (R := fun x τ => (some ((x, τ)))) dX11_law_149 rfl (fun _ _ _ _ e h => by cases e; exact h))))))))) am_all_nil)))))))))))) _ _ _ _ _ ((eq_X_law_55 x1 x2 x3 x4 σ).symm.trans e) hr
noncomputable def g_X_law (x1 : Int32) (x2 : Int32) (x3 : Int32) (x4 : Int32) (σ : am_St) : Option (Int32 × am_St) :=
  (f_H_hasChild_1 x1 σ).bind (fun p1 =>
    if p1.1 = 0 then
      (f_X_refuse (-1) p1.2).bind (fun p5 =>
        some ((p5.1, p5.2)))
    else
      (f_X_isLaw x2 p1.2).bind (fun p2 =>
        if p2.1 = 0 then
          (f_X_refuse (-2) p2.2).bind (fun p4 =>
            some ((p4.1, p4.2)))
        else
          if 0 ≤ x3 then
            if x3 ≤ 99 then
              f_X_law_55 x1 x2 x3 x4 p2.2
            else
              f_X_law_48 p2.2
          else
            (f_X_refuse (-4) p2.2).bind (fun p3 =>
              some ((p3.1, p3.2)))))
noncomputable def f_X_law (x1 : Int32) (x2 : Int32) (x3 : Int32) (x4 : Int32) (σ : am_St) : Option (Int32 × am_St) := am_lk (g_X_law x1 x2 x3 x4 σ)
theorem eq_X_law (x1 : Int32) (x2 : Int32) (x3 : Int32) (x4 : Int32) (σ : am_St) : f_X_law x1 x2 x3 x4 σ = g_X_law x1 x2 x3 x4 σ := am_lk_eq _
set_option maxRecDepth 100000 in
set_option maxHeartbeats 4000000 in
theorem s_X_law (G : am_G) (x1 : Int32) (x2 : Int32) (x3 : Int32) (x4 : Int32) (σ : am_St) (r : Int32 × am_St) (Q : am_AQ) (e : f_X_law x1 x2 x3 x4 σ = some r) (hr : am_Pi r Q) : am_AW G M_X_law 0 [(0, .ref 0), (1, .int x1), (2, .int x2), (3, .int x3), (4, .int x4)] [] σ Q :=
  (show am_Snd G M_X_law 0 am_Pi _ from (sn_aload_n (pc := 0) (i := 0) dX11_law_0 rfl (sn_gR (r0 := 1) (pc := 1) (h := 0) (f := 0) dX11_law_1 am_CL_10 sh_0 rfl (Nat.le_of_ble_eq_true rfl) tw_219 (sn_iload_n (pc := 4) (i := 1) dX11_law_4 rfl (sn_callV (pc := 5) (N := M_H_hasChild) dX11_law_5 (cal_H_hasChild_1 G) sh_1 rfl tw_434 tw_385 tw_386 tw_2 tw_387 dsc_X3_hasChild rfl (sn_if_ne (pc := 8) (tgt := 17) dX11_law_8 rfl (sn_iload_n (pc := 17) (i := 2) dX11_law_17 rfl (sn_callS (pc := 18) (N := M_X_isLaw) dX11_law_18 (cal_X_isLaw G) tw_809 tw_810 tw_1 tw_811 dsc_X11_isLaw rfl (sn_if_ne (pc := 21) (tgt := 31) dX11_law_21 rfl (sn_iload_n (pc := 31) (i := 3) dX11_law_31 rfl (sn_if_ge (pc := 32) (tgt := 42) dX11_law_32 rfl (sn_iload_n (pc := 42) (i := 3) dX11_law_42 rfl (sn_bipush (pc := 43) (v := 99) dX11_law_43 rfl (sn_icmp_le (pc := 45) (tgt := 55) dX11_law_45 rfl (sn_lf (pc := 55) (ln_a (i := 0) (q := 0) (ln_i (i := 1) (fun z0 => (ln_i (i := 2) (fun z1 => (ln_i (i := 3) (fun z2 => (ln_i (i := 4) (fun z3 => (ln_end (o := fun τ => f_X_law_55 z0 z1 z2 z3 τ) (fun _ _ _ e h => s_X_law_55 G z0 z1 z2 z3 _ _ _ e h)))))))))))) (sn_lf (pc := 48) (ln_a (i := 0) (q := 0) (ln_end (o := fun τ => f_X_law_48 τ) (fun _ _ _ e h => s_X_law_48 G  _ _ _ e h))))))) (sn_aload_n (pc := 35) (i := 0) dX11_law_35 rfl (sn_bipush (pc := 36) (v := (-4)) dX11_law_36 (show (Int8.ofInt (-4)).toInt32 = (-4) by decide) (sn_callV (pc := 38) (N := M_X_refuse) dX11_law_38 (cal_X_refuse G) sh_0 rfl tw_251 tw_253 tp_0 tw_1 tw_254 dsc_X11_refuse rfl (sn_reti (pc := 41) (R := fun x τ => (some ((x, τ)))) dX11_law_41 rfl (fun _ _ _ _ e h => by cases e; exact h))))))) (sn_aload_n (pc := 24) (i := 0) dX11_law_24 rfl (sn_bipush (pc := 25) (v := (-2)) dX11_law_25 (show (Int8.ofInt (-2)).toInt32 = (-2) by decide) (sn_callV (pc := 27) (N := M_X_refuse) dX11_law_27 (cal_X_refuse G) sh_0 rfl tw_251 tw_253 tp_0 tw_1 tw_254 dsc_X11_refuse rfl (sn_reti (pc := 30) (R := fun x τ => (some ((x, τ)))) dX11_law_30 rfl (fun _ _ _ _ e h => by cases e; exact h)))))))) (sn_aload_n (pc := 11) (i := 0) dX11_law_11 rfl (sn_iconst (pc := 12) (v := (-1)) dX11_law_12 (show Int32.ofInt (-1) = (-1) by decide) (sn_callV (pc := 13) (N := M_X_refuse) dX11_law_13 (cal_X_refuse G) sh_0 rfl tw_251 tw_253 tp_0 tw_1 tw_254 dsc_X11_refuse rfl (sn_reti (pc := 16) (R := fun x τ => (some ((x, τ)))) dX11_law_16 rfl (fun _ _ _ _ e h => by cases e; exact h))))))))))) _ _ _ _ _ ((eq_X_law x1 x2 x3 x4 σ).symm.trans e) hr
noncomputable def cF_X_law : am_Fn := fun _ args σ K => match args with
  | [.ref q0, .int z1, .int z2, .int z3, .int z4] => match Nat.beq q0 0 with
    | true => (f_X_law z1 z2 z3 z4 σ).bind (fun p => K (some (.int p.1)) p.2)
    | _ => none
  | _ => none
theorem cal_X_law (G : am_G) : am_Cal G M_X_law cF_X_law := by
  intro ρ args σ K r e
  unfold cF_X_law at e
  split at e
  · split at e
    · rename_i hq0
      obtain ⟨p, h1, h2⟩ := am_bind_some e
      rw [Nat.eq_of_beq_eq_true hq0]
      exact ⟨some (.int p.1), p.2, am_Met.of rfl (Nat.le_of_ble_eq_true rfl) (s_X_law G _ _ _ _ σ p _ h1 ⟨rfl, rfl⟩), h2⟩
    · cases e
  · cases e
abbrev M_X_byLaws : am_MD := (yX11_byLaws, cX11_byLaws, 6, (some .int), 6, 139)
theorem dX11_byLaws_0 : decode cX11_byLaws 0 = .ok (.aload_n 0, 1) := by decide +kernel
theorem dX11_byLaws_1 : decode cX11_byLaws 1 = .ok (.getfield 10, 3) := by decide +kernel
theorem dX11_byLaws_4 : decode cX11_byLaws 4 = .ok (.iload_n 1, 1) := by decide +kernel
theorem dX11_byLaws_5 : decode cX11_byLaws 5 = .ok (.invokevirtual 81, 3) := by decide +kernel
theorem dX11_byLaws_8 : decode cX11_byLaws 8 = .ok (.ifCond .ne 9, 3) := by decide +kernel
theorem dX11_byLaws_11 : decode cX11_byLaws 11 = .ok (.aload_n 0, 1) := by decide +kernel
theorem dX11_byLaws_12 : decode cX11_byLaws 12 = .ok (.iconst (-1), 1) := by decide +kernel
theorem dX11_byLaws_13 : decode cX11_byLaws 13 = .ok (.invokevirtual 55, 3) := by decide +kernel
theorem dX11_byLaws_16 : decode cX11_byLaws 16 = .ok (.ireturn, 1) := by decide +kernel
theorem dX11_byLaws_17 : decode cX11_byLaws 17 = .ok (.iload_n 2, 1) := by decide +kernel
theorem dX11_byLaws_18 : decode cX11_byLaws 18 = .ok (.ifCond .ge 10, 3) := by decide +kernel
theorem dX11_byLaws_21 : decode cX11_byLaws 21 = .ok (.aload_n 0, 1) := by decide +kernel
theorem dX11_byLaws_22 : decode cX11_byLaws 22 = .ok (.bipush (-4), 2) := by decide +kernel
theorem dX11_byLaws_24 : decode cX11_byLaws 24 = .ok (.invokevirtual 55, 3) := by decide +kernel
theorem dX11_byLaws_27 : decode cX11_byLaws 27 = .ok (.ireturn, 1) := by decide +kernel
theorem dX11_byLaws_28 : decode cX11_byLaws 28 = .ok (.iload_n 2, 1) := by decide +kernel
theorem dX11_byLaws_29 : decode cX11_byLaws 29 = .ok (.bipush 99, 2) := by decide +kernel
theorem dX11_byLaws_31 : decode cX11_byLaws 31 = .ok (.if_icmp .le 10, 3) := by decide +kernel
theorem dX11_byLaws_34 : decode cX11_byLaws 34 = .ok (.aload_n 0, 1) := by decide +kernel
theorem dX11_byLaws_35 : decode cX11_byLaws 35 = .ok (.bipush (-6), 2) := by decide +kernel
theorem dX11_byLaws_37 : decode cX11_byLaws 37 = .ok (.invokevirtual 55, 3) := by decide +kernel
theorem dX11_byLaws_40 : decode cX11_byLaws 40 = .ok (.ireturn, 1) := by decide +kernel
theorem dX11_byLaws_41 : decode cX11_byLaws 41 = .ok (.aload_n 0, 1) := by decide +kernel
theorem dX11_byLaws_42 : decode cX11_byLaws 42 = .ok (.getfield 10, 3) := by decide +kernel
theorem dX11_byLaws_45 : decode cX11_byLaws 45 = .ok (.iload_n 1, 1) := by decide +kernel
theorem dX11_byLaws_46 : decode cX11_byLaws 46 = .ok (.invokevirtual 247, 3) := by decide +kernel
theorem dX11_byLaws_49 : decode cX11_byLaws 49 = .ok (.istore_n 3, 1) := by decide +kernel
theorem dX11_byLaws_50 : decode cX11_byLaws 50 = .ok (.iconst 0, 1) := by decide +kernel
theorem dX11_byLaws_51 : decode cX11_byLaws 51 = .ok (.istore 4, 2) := by decide +kernel
theorem dX11_byLaws_53 : decode cX11_byLaws 53 = .ok (.iconst 0, 1) := by decide +kernel
theorem dX11_byLaws_54 : decode cX11_byLaws 54 = .ok (.istore 5, 2) := by decide +kernel
theorem dX11_byLaws_56 : decode cX11_byLaws 56 = .ok (.iload 5, 2) := by decide +kernel
theorem dX11_byLaws_58 : decode cX11_byLaws 58 = .ok (.iconst 4, 1) := by decide +kernel
theorem dX11_byLaws_59 : decode cX11_byLaws 59 = .ok (.if_icmp .ge 35, 3) := by decide +kernel
theorem dX11_byLaws_62 : decode cX11_byLaws 62 = .ok (.iload 5, 2) := by decide +kernel
theorem dX11_byLaws_64 : decode cX11_byLaws 64 = .ok (.iload_n 2, 1) := by decide +kernel
theorem dX11_byLaws_65 : decode cX11_byLaws 65 = .ok (.iload_n 3, 1) := by decide +kernel
theorem dX11_byLaws_66 : decode cX11_byLaws 66 = .ok (.aload_n 0, 1) := by decide +kernel
theorem dX11_byLaws_67 : decode cX11_byLaws 67 = .ok (.getfield 10, 3) := by decide +kernel
theorem dX11_byLaws_70 : decode cX11_byLaws 70 = .ok (.getfield 171, 3) := by decide +kernel
theorem dX11_byLaws_73 : decode cX11_byLaws 73 = .ok (.invokestatic 257, 3) := by decide +kernel
theorem dX11_byLaws_76 : decode cX11_byLaws 76 = .ok (.ifCond .eq 12, 3) := by decide +kernel
theorem dX11_byLaws_79 : decode cX11_byLaws 79 = .ok (.iload 4, 2) := by decide +kernel
theorem dX11_byLaws_81 : decode cX11_byLaws 81 = .ok (.iconst 1, 1) := by decide +kernel
theorem dX11_byLaws_82 : decode cX11_byLaws 82 = .ok (.iload 5, 2) := by decide +kernel
theorem dX11_byLaws_84 : decode cX11_byLaws 84 = .ok (.ishl, 1) := by decide +kernel
theorem dX11_byLaws_85 : decode cX11_byLaws 85 = .ok (.ior, 1) := by decide +kernel
theorem dX11_byLaws_86 : decode cX11_byLaws 86 = .ok (.istore 4, 2) := by decide +kernel
theorem dX11_byLaws_88 : decode cX11_byLaws 88 = .ok (.iinc 5 1, 3) := by decide +kernel
theorem dX11_byLaws_91 : decode cX11_byLaws 91 = .ok (.goto (-35), 3) := by decide +kernel
theorem dX11_byLaws_94 : decode cX11_byLaws 94 = .ok (.iload 4, 2) := by decide +kernel
theorem dX11_byLaws_96 : decode cX11_byLaws 96 = .ok (.ireturn, 1) := by decide +kernel
abbrev Pl_X_byLaws_56 (G : am_G) : ((Int32 × Int32 × Int32 × Int32 × am_St) ⊕ (Int32 × am_St)) → am_AQ → Prop := am_PL G M_X_byLaws 56 (fun s : Int32 × Int32 × Int32 × Int32 × am_St => [(5, .int s.2.2.2.1), (4, .int s.2.2.1), (3, .int s.2.1), (2, .int s.1), (0, .ref 0)]) (fun s => s.2.2.2.2) am_Pi
noncomputable def g_X_byLaws_88 (x2 : Int32) (x3 : Int32) (x4 : Int32) (x5 : Int32) (σ : am_St) : Option ((Int32 × Int32 × Int32 × Int32 × am_St) ⊕ (Int32 × am_St)) :=
  let v1 := x5 + 1
  some (.inl (x2, x3, x4, v1, σ))
noncomputable def f_X_byLaws_88 (x2 : Int32) (x3 : Int32) (x4 : Int32) (x5 : Int32) (σ : am_St) : Option ((Int32 × Int32 × Int32 × Int32 × am_St) ⊕ (Int32 × am_St)) := am_lk (g_X_byLaws_88 x2 x3 x4 x5 σ)
theorem eq_X_byLaws_88 (x2 : Int32) (x3 : Int32) (x4 : Int32) (x5 : Int32) (σ : am_St) : f_X_byLaws_88 x2 x3 x4 x5 σ = g_X_byLaws_88 x2 x3 x4 x5 σ := am_lk_eq _
set_option maxRecDepth 100000 in
set_option maxHeartbeats 4000000 in
theorem s_X_byLaws_88 (G : am_G) (x2 : Int32) (x3 : Int32) (x4 : Int32) (x5 : Int32) (σ : am_St) (r : (Int32 × Int32 × Int32 × Int32 × am_St) ⊕ (Int32 × am_St)) (Q : am_AQ) (e : f_X_byLaws_88 x2 x3 x4 x5 σ = some r) (hr : (Pl_X_byLaws_56 G) r Q) : am_AW G M_X_byLaws 88 [(5, .int x5), (4, .int x4), (3, .int x3), (2, .int x2), (0, .ref 0)] [] σ Q :=
  (show am_Snd G M_X_byLaws 88 (Pl_X_byLaws_56 G) _ from (sn_iinc (pc := 88) (v := 1) dX11_byLaws_88 rfl (Nat.le_of_ble_eq_true rfl) (sn_goto (pc := 91) (tgt := 56) dX11_byLaws_91 rfl (sn_lf (pc := 56) (ln_a (i := 0) (q := 0) (ln_i (i := 2) (fun z0 => (ln_i (i := 3) (fun z1 => (ln_i (i := 4) (fun z2 => (ln_i (i := 5) (fun z3 => (ln_end (o := fun τ => (some (.inl (z0, z1, z2, z3, τ)) : Option ((Int32 × Int32 × Int32 × Int32 × am_St) ⊕ (Int32 × am_St)))) (fun _ _ _ e h => by cases e; exact h))))))))))))))) _ _ _ _ _ ((eq_X_byLaws_88 x2 x3 x4 x5 σ).symm.trans e) hr
noncomputable def b_X_byLaws_56 (x2 : Int32) (x3 : Int32) (x4 : Int32) (x5 : Int32) (σ : am_St) : Option ((Int32 × Int32 × Int32 × Int32 × am_St) ⊕ (Int32 × am_St)) :=
  if 4 ≤ x5 then
    some (.inr ((x4, σ)))
  else
    (f_P_ownsUp x5 x2 x3 (σ.1 1 2) σ).bind (fun p1 =>
      if p1.1 = 0 then
        f_X_byLaws_88 x2 x3 x4 x5 p1.2
      else
        let v2 := x4 ||| (1 <<< (x5 &&& 31))
        f_X_byLaws_88 x2 x3 v2 x5 p1.2)
noncomputable def f_X_byLaws_56 (x2 : Int32) (x3 : Int32) (x4 : Int32) (x5 : Int32) (σ : am_St) : Option (Int32 × am_St) := am_lp (fun s : Int32 × Int32 × Int32 × Int32 × am_St => b_X_byLaws_56 s.1 s.2.1 s.2.2.1 s.2.2.2.1 s.2.2.2.2) (x2, x3, x4, x5, σ)
set_option maxRecDepth 100000 in
set_option maxHeartbeats 4000000 in
theorem sb_X_byLaws_56 (G : am_G) (x2 : Int32) (x3 : Int32) (x4 : Int32) (x5 : Int32) (σ : am_St) (r : (Int32 × Int32 × Int32 × Int32 × am_St) ⊕ (Int32 × am_St)) (Q : am_AQ) (e : b_X_byLaws_56 x2 x3 x4 x5 σ = some r) (hr : Pl_X_byLaws_56 G r Q) : am_AW G M_X_byLaws 56 [(5, .int x5), (4, .int x4), (3, .int x3), (2, .int x2), (0, .ref 0)] [] σ Q :=
  (show am_Snd G M_X_byLaws 56 (Pl_X_byLaws_56 G) _ from (sn_iload (pc := 56) dX11_byLaws_56 (sn_iconst (pc := 58) (v := 4) dX11_byLaws_58 rfl (sn_icmp_ge (pc := 59) (tgt := 94) dX11_byLaws_59 rfl (sn_iload (pc := 94) dX11_byLaws_94 (sn_reti (pc := 96) (R := fun x τ => (some (.inr ((x, τ))) : Option ((Int32 × Int32 × Int32 × Int32 × am_St) ⊕ (Int32 × am_St)))) dX11_byLaws_96 rfl (fun _ _ _ _ e h => by cases e; exact h))) (sn_iload (pc := 62) dX11_byLaws_62 (sn_iload_n (pc := 64) (i := 2) dX11_byLaws_64 rfl (sn_iload_n (pc := 65) (i := 3) dX11_byLaws_65 rfl (sn_aload_n (pc := 66) (i := 0) dX11_byLaws_66 rfl (sn_gR (r0 := 1) (pc := 67) (h := 0) (f := 0) dX11_byLaws_67 am_CL_10 sh_0 rfl (Nat.le_of_ble_eq_true rfl) tw_219 (sn_gI (pc := 70) (h := 1) (f := 2) dX11_byLaws_70 am_CL_3 sh_1 rfl (Nat.le_of_ble_eq_true rfl) tw_85 (sn_callS (pc := 73) (N := M_P_ownsUp) dX11_byLaws_73 (cal_P_ownsUp G) tw_826 tw_827 tw_16 tw_828 dsc_X7_ownsUp rfl (sn_if_eq (pc := 76) (tgt := 88) dX11_byLaws_76 rfl (sn_lf (pc := 88) (ln_a (i := 0) (q := 0) (ln_i (i := 2) (fun z0 => (ln_i (i := 3) (fun z1 => (ln_i (i := 4) (fun z2 => (ln_i (i := 5) (fun z3 => (ln_end (o := fun τ => f_X_byLaws_88 z0 z1 z2 z3 τ) (fun _ _ _ e h => s_X_byLaws_88 G z0 z1 z2 z3 _ _ _ e h)))))))))))) (sn_iload (pc := 79) dX11_byLaws_79 (sn_iconst (pc := 81) (v := 1) dX11_byLaws_81 rfl (sn_iload (pc := 82) dX11_byLaws_82 (sn_ishl (pc := 84) dX11_byLaws_84 (sn_ior (pc := 85) dX11_byLaws_85 (sn_istore (pc := 86) dX11_byLaws_86 (Nat.le_of_ble_eq_true rfl) (sn_lf (pc := 88) (ln_a (i := 0) (q := 0) (ln_i (i := 2) (fun z0 => (ln_i (i := 3) (fun z1 => (ln_i (i := 4) (fun z2 => (ln_i (i := 5) (fun z3 => (ln_end (o := fun τ => f_X_byLaws_88 z0 z1 z2 z3 τ) (fun _ _ _ e h => s_X_byLaws_88 G z0 z1 z2 z3 _ _ _ e h)))))))))))))))))))))))))))))) _ _ _ _ _ e hr
theorem s_X_byLaws_56 (G : am_G) (x2 : Int32) (x3 : Int32) (x4 : Int32) (x5 : Int32) (σ : am_St) (r : Int32 × am_St) (Q : am_AQ) (e : f_X_byLaws_56 x2 x3 x4 x5 σ = some r) (hr : am_Pi r Q) : am_AW G M_X_byLaws 56 [(5, .int x5), (4, .int x4), (3, .int x3), (2, .int x2), (0, .ref 0)] [] σ Q :=
  am_loop (P := am_Pi) (L := fun s : Int32 × Int32 × Int32 × Int32 × am_St => [(5, .int s.2.2.2.1), (4, .int s.2.2.1), (3, .int s.2.1), (2, .int s.1), (0, .ref 0)]) (g := fun s => s.2.2.2.2) (fun s o Q e hr => sb_X_byLaws_56 G s.1 s.2.1 s.2.2.1 s.2.2.2.1 s.2.2.2.2 o Q e hr) (x2, x3, x4, x5, σ) r Q e hr
noncomputable def g_X_byLaws_50 (x2 : Int32) (x3 : Int32) (σ : am_St) : Option (Int32 × am_St) :=
  f_X_byLaws_56 x2 x3 0 0 σ
noncomputable def f_X_byLaws_50 (x2 : Int32) (x3 : Int32) (σ : am_St) : Option (Int32 × am_St) := am_lk (g_X_byLaws_50 x2 x3 σ)
theorem eq_X_byLaws_50 (x2 : Int32) (x3 : Int32) (σ : am_St) : f_X_byLaws_50 x2 x3 σ = g_X_byLaws_50 x2 x3 σ := am_lk_eq _
set_option maxRecDepth 100000 in
set_option maxHeartbeats 4000000 in
theorem s_X_byLaws_50 (G : am_G) (x2 : Int32) (x3 : Int32) (σ : am_St) (r : Int32 × am_St) (Q : am_AQ) (e : f_X_byLaws_50 x2 x3 σ = some r) (hr : am_Pi r Q) : am_AW G M_X_byLaws 50 [(3, .int x3), (2, .int x2), (0, .ref 0)] [] σ Q :=
  (show am_Snd G M_X_byLaws 50 am_Pi _ from (sn_iconst (pc := 50) (v := 0) dX11_byLaws_50 rfl (sn_istore (pc := 51) dX11_byLaws_51 (Nat.le_of_ble_eq_true rfl) (sn_iconst (pc := 53) (v := 0) dX11_byLaws_53 rfl (sn_istore (pc := 54) dX11_byLaws_54 (Nat.le_of_ble_eq_true rfl) (sn_lf (pc := 56) (ln_a (i := 0) (q := 0) (ln_i (i := 2) (fun z0 => (ln_i (i := 3) (fun z1 => (ln_i (i := 4) (fun z2 => (ln_i (i := 5) (fun z3 => (ln_end (o := fun τ => f_X_byLaws_56 z0 z1 z2 z3 τ) (fun _ _ _ e h => s_X_byLaws_56 G z0 z1 z2 z3 _ _ _ e h))))))))))))))))) _ _ _ _ _ ((eq_X_byLaws_50 x2 x3 σ).symm.trans e) hr
noncomputable def g_X_byLaws (x1 : Int32) (x2 : Int32) (σ : am_St) : Option (Int32 × am_St) :=
  (f_H_hasChild_1 x1 σ).bind (fun p1 =>
    if p1.1 = 0 then
      (f_X_refuse (-1) p1.2).bind (fun p5 =>
        some ((p5.1, p5.2)))
    else
      if 0 ≤ x2 then
        if x2 ≤ 99 then
          (f_H_namersOf_1 x1 p1.2).bind (fun p2 =>
            f_X_byLaws_50 x2 p2.1 p2.2)
        else
          (f_X_refuse (-6) p1.2).bind (fun p3 =>
            some ((p3.1, p3.2)))
      else
        (f_X_refuse (-4) p1.2).bind (fun p4 =>
          some ((p4.1, p4.2))))
noncomputable def f_X_byLaws (x1 : Int32) (x2 : Int32) (σ : am_St) : Option (Int32 × am_St) := am_lk (g_X_byLaws x1 x2 σ)
theorem eq_X_byLaws (x1 : Int32) (x2 : Int32) (σ : am_St) : f_X_byLaws x1 x2 σ = g_X_byLaws x1 x2 σ := am_lk_eq _
set_option maxRecDepth 100000 in
set_option maxHeartbeats 4000000 in
theorem s_X_byLaws (G : am_G) (x1 : Int32) (x2 : Int32) (σ : am_St) (r : Int32 × am_St) (Q : am_AQ) (e : f_X_byLaws x1 x2 σ = some r) (hr : am_Pi r Q) : am_AW G M_X_byLaws 0 [(0, .ref 0), (1, .int x1), (2, .int x2)] [] σ Q :=
  (show am_Snd G M_X_byLaws 0 am_Pi _ from (sn_aload_n (pc := 0) (i := 0) dX11_byLaws_0 rfl (sn_gR (r0 := 1) (pc := 1) (h := 0) (f := 0) dX11_byLaws_1 am_CL_10 sh_0 rfl (Nat.le_of_ble_eq_true rfl) tw_219 (sn_iload_n (pc := 4) (i := 1) dX11_byLaws_4 rfl (sn_callV (pc := 5) (N := M_H_hasChild) dX11_byLaws_5 (cal_H_hasChild_1 G) sh_1 rfl tw_434 tw_385 tw_386 tw_2 tw_387 dsc_X3_hasChild rfl (sn_if_ne (pc := 8) (tgt := 17) dX11_byLaws_8 rfl (sn_iload_n (pc := 17) (i := 2) dX11_byLaws_17 rfl (sn_if_ge (pc := 18) (tgt := 28) dX11_byLaws_18 rfl (sn_iload_n (pc := 28) (i := 2) dX11_byLaws_28 rfl (sn_bipush (pc := 29) (v := 99) dX11_byLaws_29 rfl (sn_icmp_le (pc := 31) (tgt := 41) dX11_byLaws_31 rfl (sn_aload_n (pc := 41) (i := 0) dX11_byLaws_41 rfl (sn_gR (r0 := 1) (pc := 42) (h := 0) (f := 0) dX11_byLaws_42 am_CL_10 sh_0 rfl (Nat.le_of_ble_eq_true rfl) tw_219 (sn_iload_n (pc := 45) (i := 1) dX11_byLaws_45 rfl (sn_callV (pc := 46) (N := M_H_namersOf) dX11_byLaws_46 (cal_H_namersOf_1 G) sh_1 rfl tw_812 tw_813 tw_814 tw_2 tw_815 dsc_X3_namersOf rfl (sn_istore_n (pc := 49) (i := 3) dX11_byLaws_49 rfl (Nat.le_of_ble_eq_true rfl) (sn_lf (pc := 50) (ln_a (i := 0) (q := 0) (ln_i (i := 2) (fun z0 => (ln_i (i := 3) (fun z1 => (ln_end (o := fun τ => f_X_byLaws_50 z0 z1 τ) (fun _ _ _ e h => s_X_byLaws_50 G z0 z1 _ _ _ e h))))))))))))) (sn_aload_n (pc := 34) (i := 0) dX11_byLaws_34 rfl (sn_bipush (pc := 35) (v := (-6)) dX11_byLaws_35 (show (Int8.ofInt (-6)).toInt32 = (-6) by decide) (sn_callV (pc := 37) (N := M_X_refuse) dX11_byLaws_37 (cal_X_refuse G) sh_0 rfl tw_251 tw_253 tp_0 tw_1 tw_254 dsc_X11_refuse rfl (sn_reti (pc := 40) (R := fun x τ => (some ((x, τ)))) dX11_byLaws_40 rfl (fun _ _ _ _ e h => by cases e; exact h)))))))) (sn_aload_n (pc := 21) (i := 0) dX11_byLaws_21 rfl (sn_bipush (pc := 22) (v := (-4)) dX11_byLaws_22 (show (Int8.ofInt (-4)).toInt32 = (-4) by decide) (sn_callV (pc := 24) (N := M_X_refuse) dX11_byLaws_24 (cal_X_refuse G) sh_0 rfl tw_251 tw_253 tp_0 tw_1 tw_254 dsc_X11_refuse rfl (sn_reti (pc := 27) (R := fun x τ => (some ((x, τ)))) dX11_byLaws_27 rfl (fun _ _ _ _ e h => by cases e; exact h))))))) (sn_aload_n (pc := 11) (i := 0) dX11_byLaws_11 rfl (sn_iconst (pc := 12) (v := (-1)) dX11_byLaws_12 (show Int32.ofInt (-1) = (-1) by decide) (sn_callV (pc := 13) (N := M_X_refuse) dX11_byLaws_13 (cal_X_refuse G) sh_0 rfl tw_251 tw_253 tp_0 tw_1 tw_254 dsc_X11_refuse rfl (sn_reti (pc := 16) (R := fun x τ => (some ((x, τ)))) dX11_byLaws_16 rfl (fun _ _ _ _ e h => by cases e; exact h))))))))))) _ _ _ _ _ ((eq_X_byLaws x1 x2 σ).symm.trans e) hr
noncomputable def cF_X_byLaws : am_Fn := fun _ args σ K => match args with
  | [.ref q0, .int z1, .int z2] => match Nat.beq q0 0 with
    | true => (f_X_byLaws z1 z2 σ).bind (fun p => K (some (.int p.1)) p.2)
    | _ => none
  | _ => none
theorem cal_X_byLaws (G : am_G) : am_Cal G M_X_byLaws cF_X_byLaws := by
  intro ρ args σ K r e
  unfold cF_X_byLaws at e
  split at e
  · split at e
    · rename_i hq0
      obtain ⟨p, h1, h2⟩ := am_bind_some e
      rw [Nat.eq_of_beq_eq_true hq0]
      exact ⟨some (.int p.1), p.2, am_Met.of rfl (Nat.le_of_ble_eq_true rfl) (s_X_byLaws G _ _ σ p _ h1 ⟨rfl, rfl⟩), h2⟩
    · cases e
  · cases e
abbrev M_X_old : am_MD := (yX11_old, cX11_old, 5, (some .int), 1, 22)
theorem dX11_old_0 : decode cX11_old 0 = .ok (.iload_n 1, 1) := by decide +kernel
theorem dX11_old_1 : decode cX11_old 1 = .ok (.ifCond .lt 12, 3) := by decide +kernel
theorem dX11_old_4 : decode cX11_old 4 = .ok (.iload_n 2, 1) := by decide +kernel
theorem dX11_old_5 : decode cX11_old 5 = .ok (.iconst 1, 1) := by decide +kernel
theorem dX11_old_6 : decode cX11_old 6 = .ok (.if_icmp .lt 7, 3) := by decide +kernel
theorem dX11_old_9 : decode cX11_old 9 = .ok (.iload_n 3, 1) := by decide +kernel
theorem dX11_old_10 : decode cX11_old 10 = .ok (.ifCond .ge 10, 3) := by decide +kernel
theorem dX11_old_13 : decode cX11_old 13 = .ok (.aload_n 0, 1) := by decide +kernel
theorem dX11_old_14 : decode cX11_old 14 = .ok (.bipush (-4), 2) := by decide +kernel
theorem dX11_old_16 : decode cX11_old 16 = .ok (.invokevirtual 55, 3) := by decide +kernel
theorem dX11_old_19 : decode cX11_old 19 = .ok (.ireturn, 1) := by decide +kernel
theorem dX11_old_20 : decode cX11_old 20 = .ok (.iload_n 1, 1) := by decide +kernel
theorem dX11_old_21 : decode cX11_old 21 = .ok (.sipush 999, 3) := by decide +kernel
theorem dX11_old_24 : decode cX11_old 24 = .ok (.if_icmp .gt 15, 3) := by decide +kernel
theorem dX11_old_27 : decode cX11_old 27 = .ok (.iload_n 2, 1) := by decide +kernel
theorem dX11_old_28 : decode cX11_old 28 = .ok (.bipush 99, 2) := by decide +kernel
theorem dX11_old_30 : decode cX11_old 30 = .ok (.if_icmp .gt 9, 3) := by decide +kernel
theorem dX11_old_33 : decode cX11_old 33 = .ok (.iload_n 3, 1) := by decide +kernel
theorem dX11_old_34 : decode cX11_old 34 = .ok (.bipush 9, 2) := by decide +kernel
theorem dX11_old_36 : decode cX11_old 36 = .ok (.if_icmp .le 10, 3) := by decide +kernel
theorem dX11_old_39 : decode cX11_old 39 = .ok (.aload_n 0, 1) := by decide +kernel
theorem dX11_old_40 : decode cX11_old 40 = .ok (.bipush (-6), 2) := by decide +kernel
theorem dX11_old_42 : decode cX11_old 42 = .ok (.invokevirtual 55, 3) := by decide +kernel
theorem dX11_old_45 : decode cX11_old 45 = .ok (.ireturn, 1) := by decide +kernel
theorem dX11_old_46 : decode cX11_old 46 = .ok (.iload 4, 2) := by decide +kernel
theorem dX11_old_48 : decode cX11_old 48 = .ok (.invokestatic 132, 3) := by decide +kernel
theorem dX11_old_51 : decode cX11_old 51 = .ok (.ifCond .ne 10, 3) := by decide +kernel
theorem dX11_old_54 : decode cX11_old 54 = .ok (.aload_n 0, 1) := by decide +kernel
theorem dX11_old_55 : decode cX11_old 55 = .ok (.bipush (-2), 2) := by decide +kernel
theorem dX11_old_57 : decode cX11_old 57 = .ok (.invokevirtual 55, 3) := by decide +kernel
theorem dX11_old_60 : decode cX11_old 60 = .ok (.ireturn, 1) := by decide +kernel
theorem dX11_old_61 : decode cX11_old 61 = .ok (.iload 4, 2) := by decide +kernel
theorem dX11_old_63 : decode cX11_old 63 = .ok (.ifCond .ne 15, 3) := by decide +kernel
theorem dX11_old_66 : decode cX11_old 66 = .ok (.iconst 0, 1) := by decide +kernel
theorem dX11_old_67 : decode cX11_old 67 = .ok (.iload_n 1, 1) := by decide +kernel
theorem dX11_old_68 : decode cX11_old 68 = .ok (.iload_n 3, 1) := by decide +kernel
theorem dX11_old_69 : decode cX11_old 69 = .ok (.isub, 1) := by decide +kernel
theorem dX11_old_70 : decode cX11_old 70 = .ok (.invokestatic 263, 3) := by decide +kernel
theorem dX11_old_73 : decode cX11_old 73 = .ok (.iload_n 2, 1) := by decide +kernel
theorem dX11_old_74 : decode cX11_old 74 = .ok (.idiv, 1) := by decide +kernel
theorem dX11_old_75 : decode cX11_old 75 = .ok (.goto 8, 3) := by decide +kernel
theorem dX11_old_78 : decode cX11_old 78 = .ok (.iload_n 1, 1) := by decide +kernel
theorem dX11_old_79 : decode cX11_old 79 = .ok (.iload_n 3, 1) := by decide +kernel
theorem dX11_old_80 : decode cX11_old 80 = .ok (.iadd, 1) := by decide +kernel
theorem dX11_old_81 : decode cX11_old 81 = .ok (.iload_n 2, 1) := by decide +kernel
theorem dX11_old_82 : decode cX11_old 82 = .ok (.idiv, 1) := by decide +kernel
theorem dX11_old_83 : decode cX11_old 83 = .ok (.ireturn, 1) := by decide +kernel
noncomputable def g_X_old_13 (σ : am_St) : Option (Int32 × am_St) :=
  (f_X_refuse (-4) σ).bind (fun p1 =>
    some ((p1.1, p1.2)))
noncomputable def f_X_old_13 (σ : am_St) : Option (Int32 × am_St) := am_lk (g_X_old_13  σ)
theorem eq_X_old_13 (σ : am_St) : f_X_old_13  σ = g_X_old_13  σ := am_lk_eq _
set_option maxRecDepth 100000 in
set_option maxHeartbeats 4000000 in
theorem s_X_old_13 (G : am_G) (σ : am_St) (r : Int32 × am_St) (Q : am_AQ) (e : f_X_old_13  σ = some r) (hr : am_Pi r Q) : am_AW G M_X_old 13 [(0, .ref 0)] [] σ Q :=
  (show am_Snd G M_X_old 13 am_Pi _ from (sn_aload_n (pc := 13) (i := 0) dX11_old_13 rfl (sn_bipush (pc := 14) (v := (-4)) dX11_old_14 (show (Int8.ofInt (-4)).toInt32 = (-4) by decide) (sn_callV (pc := 16) (N := M_X_refuse) dX11_old_16 (cal_X_refuse G) sh_0 rfl tw_251 tw_253 tp_0 tw_1 tw_254 dsc_X11_refuse rfl (sn_reti (pc := 19) (R := fun x τ => (some ((x, τ)))) dX11_old_19 rfl (fun _ _ _ _ e h => by cases e; exact h)))))) _ _ _ _ _ ((eq_X_old_13  σ).symm.trans e) hr
noncomputable def g_X_old_39 (σ : am_St) : Option (Int32 × am_St) :=
  (f_X_refuse (-6) σ).bind (fun p1 =>
    some ((p1.1, p1.2)))
noncomputable def f_X_old_39 (σ : am_St) : Option (Int32 × am_St) := am_lk (g_X_old_39  σ)
theorem eq_X_old_39 (σ : am_St) : f_X_old_39  σ = g_X_old_39  σ := am_lk_eq _
set_option maxRecDepth 100000 in
set_option maxHeartbeats 4000000 in
theorem s_X_old_39 (G : am_G) (σ : am_St) (r : Int32 × am_St) (Q : am_AQ) (e : f_X_old_39  σ = some r) (hr : am_Pi r Q) : am_AW G M_X_old 39 [(0, .ref 0)] [] σ Q :=
  (show am_Snd G M_X_old 39 am_Pi _ from (sn_aload_n (pc := 39) (i := 0) dX11_old_39 rfl (sn_bipush (pc := 40) (v := (-6)) dX11_old_40 (show (Int8.ofInt (-6)).toInt32 = (-6) by decide) (sn_callV (pc := 42) (N := M_X_refuse) dX11_old_42 (cal_X_refuse G) sh_0 rfl tw_251 tw_253 tp_0 tw_1 tw_254 dsc_X11_refuse rfl (sn_reti (pc := 45) (R := fun x τ => (some ((x, τ)))) dX11_old_45 rfl (fun _ _ _ _ e h => by cases e; exact h)))))) _ _ _ _ _ ((eq_X_old_39  σ).symm.trans e) hr
noncomputable def g_X_old_66 (x1 : Int32) (x2 : Int32) (x3 : Int32) (σ : am_St) : Option (Int32 × am_St) :=
  if x2 = 0 then none else
    some (((am_mmax 0 (x1 - x3)) / x2, σ))
noncomputable def f_X_old_66 (x1 : Int32) (x2 : Int32) (x3 : Int32) (σ : am_St) : Option (Int32 × am_St) := am_lk (g_X_old_66 x1 x2 x3 σ)
theorem eq_X_old_66 (x1 : Int32) (x2 : Int32) (x3 : Int32) (σ : am_St) : f_X_old_66 x1 x2 x3 σ = g_X_old_66 x1 x2 x3 σ := am_lk_eq _
set_option maxRecDepth 100000 in
set_option maxHeartbeats 4000000 in
theorem s_X_old_66 (G : am_G) (x1 : Int32) (x2 : Int32) (x3 : Int32) (σ : am_St) (r : Int32 × am_St) (Q : am_AQ) (e : f_X_old_66 x1 x2 x3 σ = some r) (hr : am_Pi r Q) : am_AW G M_X_old 66 [(3, .int x3), (2, .int x2), (1, .int x1)] [] σ Q :=
  (show am_Snd G M_X_old 66 am_Pi _ from (sn_iconst (pc := 66) (v := 0) dX11_old_66 rfl (sn_iload_n (pc := 67) (i := 1) dX11_old_67 rfl (sn_iload_n (pc := 68) (i := 3) dX11_old_68 rfl (sn_isub (pc := 69) dX11_old_69 (sn_mmax (pc := 70) dX11_old_70 tw_843 tw_514 tw_14 tw_515 rfl (sn_iload_n (pc := 73) (i := 2) dX11_old_73 rfl (sn_idiv (pc := 74) dX11_old_74 (sn_goto (pc := 75) (tgt := 83) dX11_old_75 rfl (sn_reti (pc := 83) (R := fun x τ => (some ((x, τ)))) dX11_old_83 rfl (fun _ _ _ _ e h => by cases e; exact h))))))))))) _ _ _ _ _ ((eq_X_old_66 x1 x2 x3 σ).symm.trans e) hr
noncomputable def g_X_old_78 (x1 : Int32) (x2 : Int32) (x3 : Int32) (σ : am_St) : Option (Int32 × am_St) :=
  if x2 = 0 then none else
    some (((x1 + x3) / x2, σ))
noncomputable def f_X_old_78 (x1 : Int32) (x2 : Int32) (x3 : Int32) (σ : am_St) : Option (Int32 × am_St) := am_lk (g_X_old_78 x1 x2 x3 σ)
theorem eq_X_old_78 (x1 : Int32) (x2 : Int32) (x3 : Int32) (σ : am_St) : f_X_old_78 x1 x2 x3 σ = g_X_old_78 x1 x2 x3 σ := am_lk_eq _
set_option maxRecDepth 100000 in
set_option maxHeartbeats 4000000 in
theorem s_X_old_78 (G : am_G) (x1 : Int32) (x2 : Int32) (x3 : Int32) (σ : am_St) (r : Int32 × am_St) (Q : am_AQ) (e : f_X_old_78 x1 x2 x3 σ = some r) (hr : am_Pi r Q) : am_AW G M_X_old 78 [(3, .int x3), (2, .int x2), (1, .int x1)] [] σ Q :=
  (show am_Snd G M_X_old 78 am_Pi _ from (sn_iload_n (pc := 78) (i := 1) dX11_old_78 rfl (sn_iload_n (pc := 79) (i := 3) dX11_old_79 rfl (sn_iadd (pc := 80) dX11_old_80 (sn_iload_n (pc := 81) (i := 2) dX11_old_81 rfl (sn_idiv (pc := 82) dX11_old_82 (sn_reti (pc := 83) (R := fun x τ => (some ((x, τ)))) dX11_old_83 rfl (fun _ _ _ _ e h => by cases e; exact h)))))))) _ _ _ _ _ ((eq_X_old_78 x1 x2 x3 σ).symm.trans e) hr
noncomputable def g_X_old (x1 : Int32) (x2 : Int32) (x3 : Int32) (x4 : Int32) (σ : am_St) : Option (Int32 × am_St) :=
  if x1 < 0 then
    f_X_old_13 σ
  else
    if x2 < 1 then
      f_X_old_13 σ
    else
      if 0 ≤ x3 then
        if 999 < x1 then
          f_X_old_39 σ
        else
          if 99 < x2 then
            f_X_old_39 σ
          else
            if x3 ≤ 9 then
              (f_X_isZeroOrOne x4 σ).bind (fun p1 =>
                if p1.1 = 0 then
                  (f_X_refuse (-2) p1.2).bind (fun p2 =>
                    some ((p2.1, p2.2)))
                else
                  if x4 = 0 then
                    f_X_old_66 x1 x2 x3 p1.2
                  else
                    f_X_old_78 x1 x2 x3 p1.2)
            else
              f_X_old_39 σ
      else
        f_X_old_13 σ
noncomputable def f_X_old (x1 : Int32) (x2 : Int32) (x3 : Int32) (x4 : Int32) (σ : am_St) : Option (Int32 × am_St) := am_lk (g_X_old x1 x2 x3 x4 σ)
theorem eq_X_old (x1 : Int32) (x2 : Int32) (x3 : Int32) (x4 : Int32) (σ : am_St) : f_X_old x1 x2 x3 x4 σ = g_X_old x1 x2 x3 x4 σ := am_lk_eq _
set_option maxRecDepth 100000 in
set_option maxHeartbeats 4000000 in
theorem s_X_old (G : am_G) (x1 : Int32) (x2 : Int32) (x3 : Int32) (x4 : Int32) (σ : am_St) (r : Int32 × am_St) (Q : am_AQ) (e : f_X_old x1 x2 x3 x4 σ = some r) (hr : am_Pi r Q) : am_AW G M_X_old 0 [(0, .ref 0), (1, .int x1), (2, .int x2), (3, .int x3), (4, .int x4)] [] σ Q :=
  (show am_Snd G M_X_old 0 am_Pi _ from (sn_iload_n (pc := 0) (i := 1) dX11_old_0 rfl (sn_if_lt (pc := 1) (tgt := 13) dX11_old_1 rfl (sn_lf (pc := 13) (ln_a (i := 0) (q := 0) (ln_end (o := fun τ => f_X_old_13 τ) (fun _ _ _ e h => s_X_old_13 G  _ _ _ e h)))) (sn_iload_n (pc := 4) (i := 2) dX11_old_4 rfl (sn_iconst (pc := 5) (v := 1) dX11_old_5 rfl (sn_icmp_lt (pc := 6) (tgt := 13) dX11_old_6 rfl (sn_lf (pc := 13) (ln_a (i := 0) (q := 0) (ln_end (o := fun τ => f_X_old_13 τ) (fun _ _ _ e h => s_X_old_13 G  _ _ _ e h)))) (sn_iload_n (pc := 9) (i := 3) dX11_old_9 rfl (sn_if_ge (pc := 10) (tgt := 20) dX11_old_10 rfl (sn_iload_n (pc := 20) (i := 1) dX11_old_20 rfl (sn_sipush (pc := 21) (v := 999) dX11_old_21 rfl (sn_icmp_gt (pc := 24) (tgt := 39) dX11_old_24 rfl (sn_lf (pc := 39) (ln_a (i := 0) (q := 0) (ln_end (o := fun τ => f_X_old_39 τ) (fun _ _ _ e h => s_X_old_39 G  _ _ _ e h)))) (sn_iload_n (pc := 27) (i := 2) dX11_old_27 rfl (sn_bipush (pc := 28) (v := 99) dX11_old_28 rfl (sn_icmp_gt (pc := 30) (tgt := 39) dX11_old_30 rfl (sn_lf (pc := 39) (ln_a (i := 0) (q := 0) (ln_end (o := fun τ => f_X_old_39 τ) (fun _ _ _ e h => s_X_old_39 G  _ _ _ e h)))) (sn_iload_n (pc := 33) (i := 3) dX11_old_33 rfl (sn_bipush (pc := 34) (v := 9) dX11_old_34 rfl (sn_icmp_le (pc := 36) (tgt := 46) dX11_old_36 rfl (sn_iload (pc := 46) dX11_old_46 (sn_callS (pc := 48) (N := M_X_isZeroOrOne) dX11_old_48 (cal_X_isZeroOrOne G) tw_549 tw_550 tw_1 tw_551 dsc_X11_isZeroOrOne rfl (sn_if_ne (pc := 51) (tgt := 61) dX11_old_51 rfl (sn_iload (pc := 61) dX11_old_61 (sn_if_ne (pc := 63) (tgt := 78) dX11_old_63 rfl (sn_lf (pc := 78) (ln_i (i := 1) (fun z0 => (ln_i (i := 2) (fun z1 => (ln_i (i := 3) (fun z2 => (ln_end (o := fun τ => f_X_old_78 z0 z1 z2 τ) (fun _ _ _ e h => s_X_old_78 G z0 z1 z2 _ _ _ e h))))))))) (sn_lf (pc := 66) (ln_i (i := 1) (fun z0 => (ln_i (i := 2) (fun z1 => (ln_i (i := 3) (fun z2 => (ln_end (o := fun τ => f_X_old_66 z0 z1 z2 τ) (fun _ _ _ e h => s_X_old_66 G z0 z1 z2 _ _ _ e h))))))))))) (sn_aload_n (pc := 54) (i := 0) dX11_old_54 rfl (sn_bipush (pc := 55) (v := (-2)) dX11_old_55 (show (Int8.ofInt (-2)).toInt32 = (-2) by decide) (sn_callV (pc := 57) (N := M_X_refuse) dX11_old_57 (cal_X_refuse G) sh_0 rfl tw_251 tw_253 tp_0 tw_1 tw_254 dsc_X11_refuse rfl (sn_reti (pc := 60) (R := fun x τ => (some ((x, τ)))) dX11_old_60 rfl (fun _ _ _ _ e h => by cases e; exact h)))))))) (sn_lf (pc := 39) (ln_a (i := 0) (q := 0) (ln_end (o := fun τ => f_X_old_39 τ) (fun _ _ _ e h => s_X_old_39 G  _ _ _ e h))))))))))))) (sn_lf (pc := 13) (ln_a (i := 0) (q := 0) (ln_end (o := fun τ => f_X_old_13 τ) (fun _ _ _ e h => s_X_old_13 G  _ _ _ e h)))))))))))) _ _ _ _ _ ((eq_X_old x1 x2 x3 x4 σ).symm.trans e) hr
noncomputable def cF_X_old : am_Fn := fun _ args σ K => match args with
  | [.ref q0, .int z1, .int z2, .int z3, .int z4] => match Nat.beq q0 0 with
    | true => (f_X_old z1 z2 z3 z4 σ).bind (fun p => K (some (.int p.1)) p.2)
    | _ => none
  | _ => none
theorem cal_X_old (G : am_G) : am_Cal G M_X_old cF_X_old := by
  intro ρ args σ K r e
  unfold cF_X_old at e
  split at e
  · split at e
    · rename_i hq0
      obtain ⟨p, h1, h2⟩ := am_bind_some e
      rw [Nat.eq_of_beq_eq_true hq0]
      exact ⟨some (.int p.1), p.2, am_Met.of rfl (Nat.le_of_ble_eq_true rfl) (s_X_old G _ _ _ _ σ p _ h1 ⟨rfl, rfl⟩), h2⟩
    · cases e
  · cases e
abbrev M_O_punishedFrom : am_MD := (yX6_punishedFrom, cX6_punishedFrom, 7, (some .int), 1, 23)
theorem dX6_punishedFrom_0 : decode cX6_punishedFrom 0 = .ok (.lconst 1, 1) := by decide +kernel
theorem dX6_punishedFrom_1 : decode cX6_punishedFrom 1 = .ok (.aload_n 0, 1) := by decide +kernel
theorem dX6_punishedFrom_2 : decode cX6_punishedFrom 2 = .ok (.getfield 53, 3) := by decide +kernel
theorem dX6_punishedFrom_5 : decode cX6_punishedFrom 5 = .ok (.invokestatic 72, 3) := by decide +kernel
theorem dX6_punishedFrom_8 : decode cX6_punishedFrom 8 = .ok (.lstore_n 3, 1) := by decide +kernel
theorem dX6_punishedFrom_9 : decode cX6_punishedFrom 9 = .ok (.iconst 0, 1) := by decide +kernel
theorem dX6_punishedFrom_10 : decode cX6_punishedFrom 10 = .ok (.istore 5, 2) := by decide +kernel
theorem dX6_punishedFrom_12 : decode cX6_punishedFrom 12 = .ok (.iconst 0, 1) := by decide +kernel
theorem dX6_punishedFrom_13 : decode cX6_punishedFrom 13 = .ok (.istore 6, 2) := by decide +kernel
theorem dX6_punishedFrom_15 : decode cX6_punishedFrom 15 = .ok (.iload 6, 2) := by decide +kernel
theorem dX6_punishedFrom_17 : decode cX6_punishedFrom 17 = .ok (.iload_n 2, 1) := by decide +kernel
theorem dX6_punishedFrom_18 : decode cX6_punishedFrom 18 = .ok (.if_icmp .ge 44, 3) := by decide +kernel
theorem dX6_punishedFrom_21 : decode cX6_punishedFrom 21 = .ok (.iload 6, 2) := by decide +kernel
theorem dX6_punishedFrom_23 : decode cX6_punishedFrom 23 = .ok (.bipush 7, 2) := by decide +kernel
theorem dX6_punishedFrom_25 : decode cX6_punishedFrom 25 = .ok (.if_icmp .ge 37, 3) := by decide +kernel
theorem dX6_punishedFrom_28 : decode cX6_punishedFrom 28 = .ok (.aload_n 0, 1) := by decide +kernel
theorem dX6_punishedFrom_29 : decode cX6_punishedFrom 29 = .ok (.getfield 9, 3) := by decide +kernel
theorem dX6_punishedFrom_32 : decode cX6_punishedFrom 32 = .ok (.iload 6, 2) := by decide +kernel
theorem dX6_punishedFrom_34 : decode cX6_punishedFrom 34 = .ok (.laload, 1) := by decide +kernel
theorem dX6_punishedFrom_35 : decode cX6_punishedFrom 35 = .ok (.ldc2_w 75, 3) := by decide +kernel
theorem dX6_punishedFrom_38 : decode cX6_punishedFrom 38 = .ok (.lmul, 1) := by decide +kernel
theorem dX6_punishedFrom_39 : decode cX6_punishedFrom 39 = .ok (.iload_n 1, 1) := by decide +kernel
theorem dX6_punishedFrom_40 : decode cX6_punishedFrom 40 = .ok (.i2l, 1) := by decide +kernel
theorem dX6_punishedFrom_41 : decode cX6_punishedFrom 41 = .ok (.lload_n 3, 1) := by decide +kernel
theorem dX6_punishedFrom_42 : decode cX6_punishedFrom 42 = .ok (.lmul, 1) := by decide +kernel
theorem dX6_punishedFrom_43 : decode cX6_punishedFrom 43 = .ok (.lcmp, 1) := by decide +kernel
theorem dX6_punishedFrom_44 : decode cX6_punishedFrom 44 = .ok (.ifCond .lt 12, 3) := by decide +kernel
theorem dX6_punishedFrom_47 : decode cX6_punishedFrom 47 = .ok (.iload 5, 2) := by decide +kernel
theorem dX6_punishedFrom_49 : decode cX6_punishedFrom 49 = .ok (.iconst 1, 1) := by decide +kernel
theorem dX6_punishedFrom_50 : decode cX6_punishedFrom 50 = .ok (.iload 6, 2) := by decide +kernel
theorem dX6_punishedFrom_52 : decode cX6_punishedFrom 52 = .ok (.ishl, 1) := by decide +kernel
theorem dX6_punishedFrom_53 : decode cX6_punishedFrom 53 = .ok (.ior, 1) := by decide +kernel
theorem dX6_punishedFrom_54 : decode cX6_punishedFrom 54 = .ok (.istore 5, 2) := by decide +kernel
theorem dX6_punishedFrom_56 : decode cX6_punishedFrom 56 = .ok (.iinc 6 1, 3) := by decide +kernel
theorem dX6_punishedFrom_59 : decode cX6_punishedFrom 59 = .ok (.goto (-44), 3) := by decide +kernel
theorem dX6_punishedFrom_62 : decode cX6_punishedFrom 62 = .ok (.iload 5, 2) := by decide +kernel
theorem dX6_punishedFrom_64 : decode cX6_punishedFrom 64 = .ok (.ireturn, 1) := by decide +kernel
abbrev Pl_O_punishedFrom_15 (G : am_G) : ((Int32 × Int32 × Int64 × Int32 × Int32 × am_St) ⊕ (Int32 × am_St)) → am_AQ → Prop := am_PL G M_O_punishedFrom 15 (fun s : Int32 × Int32 × Int64 × Int32 × Int32 × am_St => [(6, .int s.2.2.2.2.1), (5, .int s.2.2.2.1), (3, .long s.2.2.1), (2, .int s.2.1), (1, .int s.1), (0, .ref 60)]) (fun s => s.2.2.2.2.2) am_Pi
noncomputable def g_O_punishedFrom_56 (x1 : Int32) (x2 : Int32) (x3 : Int64) (x5 : Int32) (x6 : Int32) (σ : am_St) : Option ((Int32 × Int32 × Int64 × Int32 × Int32 × am_St) ⊕ (Int32 × am_St)) :=
  let v1 := x6 + 1
  some (.inl (x1, x2, x3, x5, v1, σ))
noncomputable def f_O_punishedFrom_56 (x1 : Int32) (x2 : Int32) (x3 : Int64) (x5 : Int32) (x6 : Int32) (σ : am_St) : Option ((Int32 × Int32 × Int64 × Int32 × Int32 × am_St) ⊕ (Int32 × am_St)) := am_lk (g_O_punishedFrom_56 x1 x2 x3 x5 x6 σ)
theorem eq_O_punishedFrom_56 (x1 : Int32) (x2 : Int32) (x3 : Int64) (x5 : Int32) (x6 : Int32) (σ : am_St) : f_O_punishedFrom_56 x1 x2 x3 x5 x6 σ = g_O_punishedFrom_56 x1 x2 x3 x5 x6 σ := am_lk_eq _
set_option maxRecDepth 100000 in
set_option maxHeartbeats 4000000 in
theorem s_O_punishedFrom_56 (G : am_G) (x1 : Int32) (x2 : Int32) (x3 : Int64) (x5 : Int32) (x6 : Int32) (σ : am_St) (r : (Int32 × Int32 × Int64 × Int32 × Int32 × am_St) ⊕ (Int32 × am_St)) (Q : am_AQ) (e : f_O_punishedFrom_56 x1 x2 x3 x5 x6 σ = some r) (hr : (Pl_O_punishedFrom_15 G) r Q) : am_AW G M_O_punishedFrom 56 [(6, .int x6), (5, .int x5), (3, .long x3), (2, .int x2), (1, .int x1), (0, .ref 60)] [] σ Q :=
  (show am_Snd G M_O_punishedFrom 56 (Pl_O_punishedFrom_15 G) _ from (sn_iinc (pc := 56) (v := 1) dX6_punishedFrom_56 rfl (Nat.le_of_ble_eq_true rfl) (sn_goto (pc := 59) (tgt := 15) dX6_punishedFrom_59 rfl (sn_lf (pc := 15) (ln_a (i := 0) (q := 60) (ln_i (i := 1) (fun z0 => (ln_i (i := 2) (fun z1 => (ln_l (i := 3) (fun z2 => (ln_i (i := 5) (fun z3 => (ln_i (i := 6) (fun z4 => (ln_end (o := fun τ => (some (.inl (z0, z1, z2, z3, z4, τ)) : Option ((Int32 × Int32 × Int64 × Int32 × Int32 × am_St) ⊕ (Int32 × am_St)))) (fun _ _ _ e h => by cases e; exact h))))))))))))))))) _ _ _ _ _ ((eq_O_punishedFrom_56 x1 x2 x3 x5 x6 σ).symm.trans e) hr
noncomputable def b_O_punishedFrom_15 (x1 : Int32) (x2 : Int32) (x3 : Int64) (x5 : Int32) (x6 : Int32) (σ : am_St) : Option ((Int32 × Int32 × Int64 × Int32 × Int32 × am_St) ⊕ (Int32 × am_St)) :=
  if x2 ≤ x6 then
    some (.inr ((x5, σ)))
  else
    if 7 ≤ x6 then
      some (.inr ((x5, σ)))
    else
      if am_ix x6 7 = true then
        if (lg_cmp ((σ.2.1 61 x6.toNatClampNeg) * 10) (x1.toInt64 * x3)) < 0 then
          f_O_punishedFrom_56 x1 x2 x3 x5 x6 σ
        else
          let v1 := x5 ||| (1 <<< (x6 &&& 31))
          f_O_punishedFrom_56 x1 x2 x3 v1 x6 σ
      else none
noncomputable def f_O_punishedFrom_15 (x1 : Int32) (x2 : Int32) (x3 : Int64) (x5 : Int32) (x6 : Int32) (σ : am_St) : Option (Int32 × am_St) := am_lp (fun s : Int32 × Int32 × Int64 × Int32 × Int32 × am_St => b_O_punishedFrom_15 s.1 s.2.1 s.2.2.1 s.2.2.2.1 s.2.2.2.2.1 s.2.2.2.2.2) (x1, x2, x3, x5, x6, σ)
set_option maxRecDepth 100000 in
set_option maxHeartbeats 4000000 in
theorem sb_O_punishedFrom_15 (G : am_G) (x1 : Int32) (x2 : Int32) (x3 : Int64) (x5 : Int32) (x6 : Int32) (σ : am_St) (r : (Int32 × Int32 × Int64 × Int32 × Int32 × am_St) ⊕ (Int32 × am_St)) (Q : am_AQ) (e : b_O_punishedFrom_15 x1 x2 x3 x5 x6 σ = some r) (hr : Pl_O_punishedFrom_15 G r Q) : am_AW G M_O_punishedFrom 15 [(6, .int x6), (5, .int x5), (3, .long x3), (2, .int x2), (1, .int x1), (0, .ref 60)] [] σ Q :=
  (show am_Snd G M_O_punishedFrom 15 (Pl_O_punishedFrom_15 G) _ from (sn_iload (pc := 15) dX6_punishedFrom_15 (sn_iload_n (pc := 17) (i := 2) dX6_punishedFrom_17 rfl (sn_icmp_ge (pc := 18) (tgt := 62) dX6_punishedFrom_18 rfl (sn_iload (pc := 62) dX6_punishedFrom_62 (sn_reti (pc := 64) (R := fun x τ => (some (.inr ((x, τ))) : Option ((Int32 × Int32 × Int64 × Int32 × Int32 × am_St) ⊕ (Int32 × am_St)))) dX6_punishedFrom_64 rfl (fun _ _ _ _ e h => by cases e; exact h))) (sn_iload (pc := 21) dX6_punishedFrom_21 (sn_bipush (pc := 23) (v := 7) dX6_punishedFrom_23 rfl (sn_icmp_ge (pc := 25) (tgt := 62) dX6_punishedFrom_25 rfl (sn_iload (pc := 62) dX6_punishedFrom_62 (sn_reti (pc := 64) (R := fun x τ => (some (.inr ((x, τ))) : Option ((Int32 × Int32 × Int64 × Int32 × Int32 × am_St) ⊕ (Int32 × am_St)))) dX6_punishedFrom_64 rfl (fun _ _ _ _ e h => by cases e; exact h))) (sn_aload_n (pc := 28) (i := 0) dX6_punishedFrom_28 rfl (sn_gR (r0 := 61) (pc := 29) (h := 60) (f := 0) dX6_punishedFrom_29 am_CL_6 sh_60 rfl (Nat.le_of_ble_eq_true rfl) tw_205 (sn_iload (pc := 32) dX6_punishedFrom_32 (sn_aL (pc := 34) (h := 61) dX6_punishedFrom_34 sh_61 (sn_ldc2 (pc := 35) dX6_punishedFrom_35 tw_855 (sn_lmul (pc := 38) dX6_punishedFrom_38 (sn_iload_n (pc := 39) (i := 1) dX6_punishedFrom_39 rfl (sn_i2l (pc := 40) dX6_punishedFrom_40 (sn_lload_n (pc := 41) (i := 3) dX6_punishedFrom_41 rfl (sn_lmul (pc := 42) dX6_punishedFrom_42 (sn_lcmp (pc := 43) dX6_punishedFrom_43 (sn_if_lt (pc := 44) (tgt := 56) dX6_punishedFrom_44 rfl (sn_lf (pc := 56) (ln_a (i := 0) (q := 60) (ln_i (i := 1) (fun z0 => (ln_i (i := 2) (fun z1 => (ln_l (i := 3) (fun z2 => (ln_i (i := 5) (fun z3 => (ln_i (i := 6) (fun z4 => (ln_end (o := fun τ => f_O_punishedFrom_56 z0 z1 z2 z3 z4 τ) (fun _ _ _ e h => s_O_punishedFrom_56 G z0 z1 z2 z3 z4 _ _ _ e h)))))))))))))) (sn_iload (pc := 47) dX6_punishedFrom_47 (sn_iconst (pc := 49) (v := 1) dX6_punishedFrom_49 rfl (sn_iload (pc := 50) dX6_punishedFrom_50 (sn_ishl (pc := 52) dX6_punishedFrom_52 (sn_ior (pc := 53) dX6_punishedFrom_53 (sn_istore (pc := 54) dX6_punishedFrom_54 (Nat.le_of_ble_eq_true rfl) (sn_lf (pc := 56) (ln_a (i := 0) (q := 60) (ln_i (i := 1) (fun z0 => (ln_i (i := 2) (fun z1 => (ln_l (i := 3) (fun z2 => (ln_i (i := 5) (fun z3 => (ln_i (i := 6) (fun z4 => (ln_end (o := fun τ => f_O_punishedFrom_56 z0 z1 z2 z3 z4 τ) (fun _ _ _ e h => s_O_punishedFrom_56 G z0 z1 z2 z3 z4 _ _ _ e h))))))))))))))))))))))))))))))))))))))) _ _ _ _ _ e hr
theorem s_O_punishedFrom_15 (G : am_G) (x1 : Int32) (x2 : Int32) (x3 : Int64) (x5 : Int32) (x6 : Int32) (σ : am_St) (r : Int32 × am_St) (Q : am_AQ) (e : f_O_punishedFrom_15 x1 x2 x3 x5 x6 σ = some r) (hr : am_Pi r Q) : am_AW G M_O_punishedFrom 15 [(6, .int x6), (5, .int x5), (3, .long x3), (2, .int x2), (1, .int x1), (0, .ref 60)] [] σ Q :=
  am_loop (P := am_Pi) (L := fun s : Int32 × Int32 × Int64 × Int32 × Int32 × am_St => [(6, .int s.2.2.2.2.1), (5, .int s.2.2.2.1), (3, .long s.2.2.1), (2, .int s.2.1), (1, .int s.1), (0, .ref 60)]) (g := fun s => s.2.2.2.2.2) (fun s o Q e hr => sb_O_punishedFrom_15 G s.1 s.2.1 s.2.2.1 s.2.2.2.1 s.2.2.2.2.1 s.2.2.2.2.2 o Q e hr) (x1, x2, x3, x5, x6, σ) r Q e hr
noncomputable def g_O_punishedFrom (x1 : Int32) (x2 : Int32) (σ : am_St) : Option (Int32 × am_St) :=
  let v1 := am_mmaxL 1 (σ.2.1 60 3)
  f_O_punishedFrom_15 x1 x2 v1 0 0 σ
noncomputable def f_O_punishedFrom (x1 : Int32) (x2 : Int32) (σ : am_St) : Option (Int32 × am_St) := am_lk (g_O_punishedFrom x1 x2 σ)
theorem eq_O_punishedFrom (x1 : Int32) (x2 : Int32) (σ : am_St) : f_O_punishedFrom x1 x2 σ = g_O_punishedFrom x1 x2 σ := am_lk_eq _
set_option maxRecDepth 100000 in
set_option maxHeartbeats 4000000 in
theorem s_O_punishedFrom (G : am_G) (x1 : Int32) (x2 : Int32) (σ : am_St) (r : Int32 × am_St) (Q : am_AQ) (e : f_O_punishedFrom x1 x2 σ = some r) (hr : am_Pi r Q) : am_AW G M_O_punishedFrom 0 [(0, .ref 60), (1, .int x1), (2, .int x2)] [] σ Q :=
  (show am_Snd G M_O_punishedFrom 0 am_Pi _ from (sn_lconst (pc := 0) (v := 1) dX6_punishedFrom_0 rfl (sn_aload_n (pc := 1) (i := 0) dX6_punishedFrom_1 rfl (sn_gL (pc := 2) (h := 60) (f := 3) dX6_punishedFrom_2 am_CL_6 sh_60 rfl (Nat.le_of_ble_eq_true rfl) tw_208 (sn_mmaxL (pc := 5) dX6_punishedFrom_5 tw_852 tw_853 tw_14 tw_854 rfl (sn_lstore_n (pc := 8) (i := 3) dX6_punishedFrom_8 rfl (Nat.le_of_ble_eq_true rfl) (sn_iconst (pc := 9) (v := 0) dX6_punishedFrom_9 rfl (sn_istore (pc := 10) dX6_punishedFrom_10 (Nat.le_of_ble_eq_true rfl) (sn_iconst (pc := 12) (v := 0) dX6_punishedFrom_12 rfl (sn_istore (pc := 13) dX6_punishedFrom_13 (Nat.le_of_ble_eq_true rfl) (sn_lf (pc := 15) (ln_a (i := 0) (q := 60) (ln_i (i := 1) (fun z0 => (ln_i (i := 2) (fun z1 => (ln_l (i := 3) (fun z2 => (ln_i (i := 5) (fun z3 => (ln_i (i := 6) (fun z4 => (ln_end (o := fun τ => f_O_punishedFrom_15 z0 z1 z2 z3 z4 τ) (fun _ _ _ e h => s_O_punishedFrom_15 G z0 z1 z2 z3 z4 _ _ _ e h)))))))))))))))))))))))) _ _ _ _ _ ((eq_O_punishedFrom x1 x2 σ).symm.trans e) hr
noncomputable def cF_O_punishedFrom : am_Fn := fun _ args σ K => match args with
  | [.ref q0, .int z1, .int z2] => match Nat.beq q0 60 with
    | true => (f_O_punishedFrom z1 z2 σ).bind (fun p => K (some (.int p.1)) p.2)
    | _ => none
  | _ => none
theorem cal_O_punishedFrom (G : am_G) : am_Cal G M_O_punishedFrom cF_O_punishedFrom := by
  intro ρ args σ K r e
  unfold cF_O_punishedFrom at e
  split at e
  · split at e
    · rename_i hq0
      obtain ⟨p, h1, h2⟩ := am_bind_some e
      rw [Nat.eq_of_beq_eq_true hq0]
      exact ⟨some (.int p.1), p.2, am_Met.of rfl (Nat.le_of_ble_eq_true rfl) (s_O_punishedFrom G _ _ σ p _ h1 ⟨rfl, rfl⟩), h2⟩
    · cases e
  · cases e
abbrev M_X_punish : am_MD := (yX11_punish, cX11_punish, 2, (some .int), 5, 113)
theorem dX11_punish_0 : decode cX11_punish 0 = .ok (.iload_n 1, 1) := by decide +kernel
theorem dX11_punish_1 : decode cX11_punish 1 = .ok (.ifCond .ge 10, 3) := by decide +kernel
theorem dX11_punish_4 : decode cX11_punish 4 = .ok (.aload_n 0, 1) := by decide +kernel
theorem dX11_punish_5 : decode cX11_punish 5 = .ok (.bipush (-4), 2) := by decide +kernel
theorem dX11_punish_7 : decode cX11_punish 7 = .ok (.invokevirtual 55, 3) := by decide +kernel
theorem dX11_punish_10 : decode cX11_punish 10 = .ok (.ireturn, 1) := by decide +kernel
theorem dX11_punish_11 : decode cX11_punish 11 = .ok (.iload_n 1, 1) := by decide +kernel
theorem dX11_punish_12 : decode cX11_punish 12 = .ok (.bipush 10, 2) := by decide +kernel
theorem dX11_punish_14 : decode cX11_punish 14 = .ok (.if_icmp .le 10, 3) := by decide +kernel
theorem dX11_punish_17 : decode cX11_punish 17 = .ok (.aload_n 0, 1) := by decide +kernel
theorem dX11_punish_18 : decode cX11_punish 18 = .ok (.bipush (-6), 2) := by decide +kernel
theorem dX11_punish_20 : decode cX11_punish 20 = .ok (.invokevirtual 55, 3) := by decide +kernel
theorem dX11_punish_23 : decode cX11_punish 23 = .ok (.ireturn, 1) := by decide +kernel
theorem dX11_punish_24 : decode cX11_punish 24 = .ok (.aload_n 0, 1) := by decide +kernel
theorem dX11_punish_25 : decode cX11_punish 25 = .ok (.getfield 40, 3) := by decide +kernel
theorem dX11_punish_28 : decode cX11_punish 28 = .ok (.aload_n 0, 1) := by decide +kernel
theorem dX11_punish_29 : decode cX11_punish 29 = .ok (.getfield 10, 3) := by decide +kernel
theorem dX11_punish_32 : decode cX11_punish 32 = .ok (.aload_n 0, 1) := by decide +kernel
theorem dX11_punish_33 : decode cX11_punish 33 = .ok (.getfield 33, 3) := by decide +kernel
theorem dX11_punish_36 : decode cX11_punish 36 = .ok (.invokevirtual 181, 3) := by decide +kernel
theorem dX11_punish_39 : decode cX11_punish 39 = .ok (.aload_n 0, 1) := by decide +kernel
theorem dX11_punish_40 : decode cX11_punish 40 = .ok (.getfield 40, 3) := by decide +kernel
theorem dX11_punish_43 : decode cX11_punish 43 = .ok (.iload_n 1, 1) := by decide +kernel
theorem dX11_punish_44 : decode cX11_punish 44 = .ok (.aload_n 0, 1) := by decide +kernel
theorem dX11_punish_45 : decode cX11_punish 45 = .ok (.getfield 10, 3) := by decide +kernel
theorem dX11_punish_48 : decode cX11_punish 48 = .ok (.getfield 171, 3) := by decide +kernel
theorem dX11_punish_51 : decode cX11_punish 51 = .ok (.invokevirtual 268, 3) := by decide +kernel
theorem dX11_punish_54 : decode cX11_punish 54 = .ok (.ireturn, 1) := by decide +kernel
noncomputable def g_X_punish (x1 : Int32) (σ : am_St) : Option (Int32 × am_St) :=
  if 0 ≤ x1 then
    if x1 ≤ 10 then
      (f_O_weigh_1 σ).bind (fun p1 =>
        (f_O_punishedFrom x1 (p1.1 1 2) p1).bind (fun p2 =>
          some ((p2.1, p2.2))))
    else
      (f_X_refuse (-6) σ).bind (fun p3 =>
        some ((p3.1, p3.2)))
  else
    (f_X_refuse (-4) σ).bind (fun p4 =>
      some ((p4.1, p4.2)))
noncomputable def f_X_punish (x1 : Int32) (σ : am_St) : Option (Int32 × am_St) := am_lk (g_X_punish x1 σ)
theorem eq_X_punish (x1 : Int32) (σ : am_St) : f_X_punish x1 σ = g_X_punish x1 σ := am_lk_eq _
set_option maxRecDepth 100000 in
set_option maxHeartbeats 4000000 in
theorem s_X_punish (G : am_G) (x1 : Int32) (σ : am_St) (r : Int32 × am_St) (Q : am_AQ) (e : f_X_punish x1 σ = some r) (hr : am_Pi r Q) : am_AW G M_X_punish 0 [(0, .ref 0), (1, .int x1)] [] σ Q :=
  (show am_Snd G M_X_punish 0 am_Pi _ from (sn_iload_n (pc := 0) (i := 1) dX11_punish_0 rfl (sn_if_ge (pc := 1) (tgt := 11) dX11_punish_1 rfl (sn_iload_n (pc := 11) (i := 1) dX11_punish_11 rfl (sn_bipush (pc := 12) (v := 10) dX11_punish_12 rfl (sn_icmp_le (pc := 14) (tgt := 24) dX11_punish_14 rfl (sn_aload_n (pc := 24) (i := 0) dX11_punish_24 rfl (sn_gR (r0 := 60) (pc := 25) (h := 0) (f := 5) dX11_punish_25 am_CL_10 sh_0 rfl (Nat.le_of_ble_eq_true rfl) tw_224 (sn_aload_n (pc := 28) (i := 0) dX11_punish_28 rfl (sn_gR (r0 := 1) (pc := 29) (h := 0) (f := 0) dX11_punish_29 am_CL_10 sh_0 rfl (Nat.le_of_ble_eq_true rfl) tw_219 (sn_aload_n (pc := 32) (i := 0) dX11_punish_32 rfl (sn_gR (r0 := 54) (pc := 33) (h := 0) (f := 4) dX11_punish_33 am_CL_10 sh_0 rfl (Nat.le_of_ble_eq_true rfl) tw_223 (sn_callV (pc := 36) (N := M_O_weigh) dX11_punish_36 (cal_O_weigh_1 G) sh_60 rfl tw_604 tw_605 tw_606 tw_11 tw_607 dsc_X6_weigh rfl (sn_aload_n (pc := 39) (i := 0) dX11_punish_39 rfl (sn_gR (r0 := 60) (pc := 40) (h := 0) (f := 5) dX11_punish_40 am_CL_10 sh_0 rfl (Nat.le_of_ble_eq_true rfl) tw_224 (sn_iload_n (pc := 43) (i := 1) dX11_punish_43 rfl (sn_aload_n (pc := 44) (i := 0) dX11_punish_44 rfl (sn_gR (r0 := 1) (pc := 45) (h := 0) (f := 0) dX11_punish_45 am_CL_10 sh_0 rfl (Nat.le_of_ble_eq_true rfl) tw_219 (sn_gI (pc := 48) (h := 1) (f := 2) dX11_punish_48 am_CL_3 sh_1 rfl (Nat.le_of_ble_eq_true rfl) tw_85 (sn_callV (pc := 51) (N := M_O_punishedFrom) dX11_punish_51 (cal_O_punishedFrom G) sh_60 rfl tw_848 tw_849 tw_850 tw_11 tw_851 dsc_X6_punishedFrom rfl (sn_reti (pc := 54) (R := fun x τ => (some ((x, τ)))) dX11_punish_54 rfl (fun _ _ _ _ e h => by cases e; exact h)))))))))))))))) (sn_aload_n (pc := 17) (i := 0) dX11_punish_17 rfl (sn_bipush (pc := 18) (v := (-6)) dX11_punish_18 (show (Int8.ofInt (-6)).toInt32 = (-6) by decide) (sn_callV (pc := 20) (N := M_X_refuse) dX11_punish_20 (cal_X_refuse G) sh_0 rfl tw_251 tw_253 tp_0 tw_1 tw_254 dsc_X11_refuse rfl (sn_reti (pc := 23) (R := fun x τ => (some ((x, τ)))) dX11_punish_23 rfl (fun _ _ _ _ e h => by cases e; exact h)))))))) (sn_aload_n (pc := 4) (i := 0) dX11_punish_4 rfl (sn_bipush (pc := 5) (v := (-4)) dX11_punish_5 (show (Int8.ofInt (-4)).toInt32 = (-4) by decide) (sn_callV (pc := 7) (N := M_X_refuse) dX11_punish_7 (cal_X_refuse G) sh_0 rfl tw_251 tw_253 tp_0 tw_1 tw_254 dsc_X11_refuse rfl (sn_reti (pc := 10) (R := fun x τ => (some ((x, τ)))) dX11_punish_10 rfl (fun _ _ _ _ e h => by cases e; exact h)))))))) _ _ _ _ _ ((eq_X_punish x1 σ).symm.trans e) hr
noncomputable def cF_X_punish : am_Fn := fun _ args σ K => match args with
  | [.ref q0, .int z1] => match Nat.beq q0 0 with
    | true => (f_X_punish z1 σ).bind (fun p => K (some (.int p.1)) p.2)
    | _ => none
  | _ => none
theorem cal_X_punish (G : am_G) : am_Cal G M_X_punish cF_X_punish := by
  intro ρ args σ K r e
  unfold cF_X_punish at e
  split at e
  · split at e
    · rename_i hq0
      obtain ⟨p, h1, h2⟩ := am_bind_some e
      rw [Nat.eq_of_beq_eq_true hq0]
      exact ⟨some (.int p.1), p.2, am_Met.of rfl (Nat.le_of_ble_eq_true rfl) (s_X_punish G _ σ p _ h1 ⟨rfl, rfl⟩), h2⟩
    · cases e
  · cases e
abbrev M_O_shareBeside : am_MD := (yX6_shareBeside, cX6_shareBeside, 6, (some .long), 1, 31)
theorem dX6_shareBeside_0 : decode cX6_shareBeside 0 = .ok (.aload_n 0, 1) := by decide +kernel
theorem dX6_shareBeside_1 : decode cX6_shareBeside 1 = .ok (.getfield 53, 3) := by decide +kernel
theorem dX6_shareBeside_4 : decode cX6_shareBeside 4 = .ok (.lstore_n 3, 1) := by decide +kernel
theorem dX6_shareBeside_5 : decode cX6_shareBeside 5 = .ok (.iconst 0, 1) := by decide +kernel
theorem dX6_shareBeside_6 : decode cX6_shareBeside 6 = .ok (.istore 5, 2) := by decide +kernel
theorem dX6_shareBeside_8 : decode cX6_shareBeside 8 = .ok (.iload 5, 2) := by decide +kernel
theorem dX6_shareBeside_10 : decode cX6_shareBeside 10 = .ok (.bipush 7, 2) := by decide +kernel
theorem dX6_shareBeside_12 : decode cX6_shareBeside 12 = .ok (.if_icmp .ge 29, 3) := by decide +kernel
theorem dX6_shareBeside_15 : decode cX6_shareBeside 15 = .ok (.iload_n 1, 1) := by decide +kernel
theorem dX6_shareBeside_16 : decode cX6_shareBeside 16 = .ok (.iload 5, 2) := by decide +kernel
theorem dX6_shareBeside_18 : decode cX6_shareBeside 18 = .ok (.ishr, 1) := by decide +kernel
theorem dX6_shareBeside_19 : decode cX6_shareBeside 19 = .ok (.iconst 1, 1) := by decide +kernel
theorem dX6_shareBeside_20 : decode cX6_shareBeside 20 = .ok (.iand, 1) := by decide +kernel
theorem dX6_shareBeside_21 : decode cX6_shareBeside 21 = .ok (.iconst 1, 1) := by decide +kernel
theorem dX6_shareBeside_22 : decode cX6_shareBeside 22 = .ok (.if_icmp .ne 13, 3) := by decide +kernel
theorem dX6_shareBeside_25 : decode cX6_shareBeside 25 = .ok (.lload_n 3, 1) := by decide +kernel
theorem dX6_shareBeside_26 : decode cX6_shareBeside 26 = .ok (.aload_n 0, 1) := by decide +kernel
theorem dX6_shareBeside_27 : decode cX6_shareBeside 27 = .ok (.getfield 9, 3) := by decide +kernel
theorem dX6_shareBeside_30 : decode cX6_shareBeside 30 = .ok (.iload 5, 2) := by decide +kernel
theorem dX6_shareBeside_32 : decode cX6_shareBeside 32 = .ok (.laload, 1) := by decide +kernel
theorem dX6_shareBeside_33 : decode cX6_shareBeside 33 = .ok (.lsub, 1) := by decide +kernel
theorem dX6_shareBeside_34 : decode cX6_shareBeside 34 = .ok (.lstore_n 3, 1) := by decide +kernel
theorem dX6_shareBeside_35 : decode cX6_shareBeside 35 = .ok (.iinc 5 1, 3) := by decide +kernel
theorem dX6_shareBeside_38 : decode cX6_shareBeside 38 = .ok (.goto (-30), 3) := by decide +kernel
theorem dX6_shareBeside_41 : decode cX6_shareBeside 41 = .ok (.lload_n 3, 1) := by decide +kernel
theorem dX6_shareBeside_42 : decode cX6_shareBeside 42 = .ok (.aload_n 0, 1) := by decide +kernel
theorem dX6_shareBeside_43 : decode cX6_shareBeside 43 = .ok (.getfield 53, 3) := by decide +kernel
theorem dX6_shareBeside_46 : decode cX6_shareBeside 46 = .ok (.iload_n 2, 1) := by decide +kernel
theorem dX6_shareBeside_47 : decode cX6_shareBeside 47 = .ok (.invokestatic 68, 3) := by decide +kernel
theorem dX6_shareBeside_50 : decode cX6_shareBeside 50 = .ok (.lreturn, 1) := by decide +kernel
abbrev Pl_O_shareBeside_8 (G : am_G) : ((Int32 × Int32 × Int64 × Int32 × am_St) ⊕ (Int64 × am_St)) → am_AQ → Prop := am_PL G M_O_shareBeside 8 (fun s : Int32 × Int32 × Int64 × Int32 × am_St => [(5, .int s.2.2.2.1), (3, .long s.2.2.1), (2, .int s.2.1), (1, .int s.1), (0, .ref 60)]) (fun s => s.2.2.2.2) am_Pl
noncomputable def g_O_shareBeside_35 (x1 : Int32) (x2 : Int32) (x3 : Int64) (x5 : Int32) (σ : am_St) : Option ((Int32 × Int32 × Int64 × Int32 × am_St) ⊕ (Int64 × am_St)) :=
  let v1 := x5 + 1
  some (.inl (x1, x2, x3, v1, σ))
noncomputable def f_O_shareBeside_35 (x1 : Int32) (x2 : Int32) (x3 : Int64) (x5 : Int32) (σ : am_St) : Option ((Int32 × Int32 × Int64 × Int32 × am_St) ⊕ (Int64 × am_St)) := am_lk (g_O_shareBeside_35 x1 x2 x3 x5 σ)
theorem eq_O_shareBeside_35 (x1 : Int32) (x2 : Int32) (x3 : Int64) (x5 : Int32) (σ : am_St) : f_O_shareBeside_35 x1 x2 x3 x5 σ = g_O_shareBeside_35 x1 x2 x3 x5 σ := am_lk_eq _
set_option maxRecDepth 100000 in
set_option maxHeartbeats 4000000 in
theorem s_O_shareBeside_35 (G : am_G) (x1 : Int32) (x2 : Int32) (x3 : Int64) (x5 : Int32) (σ : am_St) (r : (Int32 × Int32 × Int64 × Int32 × am_St) ⊕ (Int64 × am_St)) (Q : am_AQ) (e : f_O_shareBeside_35 x1 x2 x3 x5 σ = some r) (hr : (Pl_O_shareBeside_8 G) r Q) : am_AW G M_O_shareBeside 35 [(5, .int x5), (3, .long x3), (2, .int x2), (1, .int x1), (0, .ref 60)] [] σ Q :=
  (show am_Snd G M_O_shareBeside 35 (Pl_O_shareBeside_8 G) _ from (sn_iinc (pc := 35) (v := 1) dX6_shareBeside_35 rfl (Nat.le_of_ble_eq_true rfl) (sn_goto (pc := 38) (tgt := 8) dX6_shareBeside_38 rfl (sn_lf (pc := 8) (ln_a (i := 0) (q := 60) (ln_i (i := 1) (fun z0 => (ln_i (i := 2) (fun z1 => (ln_l (i := 3) (fun z2 => (ln_i (i := 5) (fun z3 => (ln_end (o := fun τ => (some (.inl (z0, z1, z2, z3, τ)) : Option ((Int32 × Int32 × Int64 × Int32 × am_St) ⊕ (Int64 × am_St)))) (fun _ _ _ e h => by cases e; exact h))))))))))))))) _ _ _ _ _ ((eq_O_shareBeside_35 x1 x2 x3 x5 σ).symm.trans e) hr
noncomputable def b_O_shareBeside_8 (x1 : Int32) (x2 : Int32) (x3 : Int64) (x5 : Int32) (σ : am_St) : Option ((Int32 × Int32 × Int64 × Int32 × am_St) ⊕ (Int64 × am_St)) :=
  if 7 ≤ x5 then
    (f_O_inLeastTerms x3 (σ.2.1 60 3) x2 σ).bind (fun p1 =>
      some (.inr ((p1.1, p1.2))))
  else
    if ((x1 >>> (x5 &&& 31)) &&& 1) = 1 then
      if am_ix x5 7 = true then
        let v2 := x3 - (σ.2.1 61 x5.toNatClampNeg)
        f_O_shareBeside_35 x1 x2 v2 x5 σ
      else none
    else
      f_O_shareBeside_35 x1 x2 x3 x5 σ
noncomputable def f_O_shareBeside_8 (x1 : Int32) (x2 : Int32) (x3 : Int64) (x5 : Int32) (σ : am_St) : Option (Int64 × am_St) := am_lp (fun s : Int32 × Int32 × Int64 × Int32 × am_St => b_O_shareBeside_8 s.1 s.2.1 s.2.2.1 s.2.2.2.1 s.2.2.2.2) (x1, x2, x3, x5, σ)
set_option maxRecDepth 100000 in
set_option maxHeartbeats 4000000 in
theorem sb_O_shareBeside_8 (G : am_G) (x1 : Int32) (x2 : Int32) (x3 : Int64) (x5 : Int32) (σ : am_St) (r : (Int32 × Int32 × Int64 × Int32 × am_St) ⊕ (Int64 × am_St)) (Q : am_AQ) (e : b_O_shareBeside_8 x1 x2 x3 x5 σ = some r) (hr : Pl_O_shareBeside_8 G r Q) : am_AW G M_O_shareBeside 8 [(5, .int x5), (3, .long x3), (2, .int x2), (1, .int x1), (0, .ref 60)] [] σ Q :=
  (show am_Snd G M_O_shareBeside 8 (Pl_O_shareBeside_8 G) _ from (sn_iload (pc := 8) dX6_shareBeside_8 (sn_bipush (pc := 10) (v := 7) dX6_shareBeside_10 rfl (sn_icmp_ge (pc := 12) (tgt := 41) dX6_shareBeside_12 rfl (sn_lload_n (pc := 41) (i := 3) dX6_shareBeside_41 rfl (sn_aload_n (pc := 42) (i := 0) dX6_shareBeside_42 rfl (sn_gL (pc := 43) (h := 60) (f := 3) dX6_shareBeside_43 am_CL_6 sh_60 rfl (Nat.le_of_ble_eq_true rfl) tw_208 (sn_iload_n (pc := 46) (i := 2) dX6_shareBeside_46 rfl (sn_callS (pc := 47) (N := M_O_inLeastTerms) dX6_shareBeside_47 (cal_O_inLeastTerms G) tw_623 tw_624 tw_11 tw_625 dsc_X6_inLeastTerms rfl (sn_retl (pc := 50) (R := fun x τ => (some (.inr ((x, τ))) : Option ((Int32 × Int32 × Int64 × Int32 × am_St) ⊕ (Int64 × am_St)))) dX6_shareBeside_50 rfl (fun _ _ _ _ e h => by cases e; exact h))))))) (sn_iload_n (pc := 15) (i := 1) dX6_shareBeside_15 rfl (sn_iload (pc := 16) dX6_shareBeside_16 (sn_ishr (pc := 18) dX6_shareBeside_18 (sn_iconst (pc := 19) (v := 1) dX6_shareBeside_19 rfl (sn_iand (pc := 20) dX6_shareBeside_20 (sn_iconst (pc := 21) (v := 1) dX6_shareBeside_21 rfl (sn_icmp_ne (pc := 22) (tgt := 35) dX6_shareBeside_22 rfl (sn_lf (pc := 35) (ln_a (i := 0) (q := 60) (ln_i (i := 1) (fun z0 => (ln_i (i := 2) (fun z1 => (ln_l (i := 3) (fun z2 => (ln_i (i := 5) (fun z3 => (ln_end (o := fun τ => f_O_shareBeside_35 z0 z1 z2 z3 τ) (fun _ _ _ e h => s_O_shareBeside_35 G z0 z1 z2 z3 _ _ _ e h)))))))))))) (sn_lload_n (pc := 25) (i := 3) dX6_shareBeside_25 rfl (sn_aload_n (pc := 26) (i := 0) dX6_shareBeside_26 rfl (sn_gR (r0 := 61) (pc := 27) (h := 60) (f := 0) dX6_shareBeside_27 am_CL_6 sh_60 rfl (Nat.le_of_ble_eq_true rfl) tw_205 (sn_iload (pc := 30) dX6_shareBeside_30 (sn_aL (pc := 32) (h := 61) dX6_shareBeside_32 sh_61 (sn_lsub (pc := 33) dX6_shareBeside_33 (sn_lstore_n (pc := 34) (i := 3) dX6_shareBeside_34 rfl (Nat.le_of_ble_eq_true rfl) (sn_lf (pc := 35) (ln_a (i := 0) (q := 60) (ln_i (i := 1) (fun z0 => (ln_i (i := 2) (fun z1 => (ln_l (i := 3) (fun z2 => (ln_i (i := 5) (fun z3 => (ln_end (o := fun τ => f_O_shareBeside_35 z0 z1 z2 z3 τ) (fun _ _ _ e h => s_O_shareBeside_35 G z0 z1 z2 z3 _ _ _ e h)))))))))))))))))))))))))))))) _ _ _ _ _ e hr
theorem s_O_shareBeside_8 (G : am_G) (x1 : Int32) (x2 : Int32) (x3 : Int64) (x5 : Int32) (σ : am_St) (r : Int64 × am_St) (Q : am_AQ) (e : f_O_shareBeside_8 x1 x2 x3 x5 σ = some r) (hr : am_Pl r Q) : am_AW G M_O_shareBeside 8 [(5, .int x5), (3, .long x3), (2, .int x2), (1, .int x1), (0, .ref 60)] [] σ Q :=
  am_loop (P := am_Pl) (L := fun s : Int32 × Int32 × Int64 × Int32 × am_St => [(5, .int s.2.2.2.1), (3, .long s.2.2.1), (2, .int s.2.1), (1, .int s.1), (0, .ref 60)]) (g := fun s => s.2.2.2.2) (fun s o Q e hr => sb_O_shareBeside_8 G s.1 s.2.1 s.2.2.1 s.2.2.2.1 s.2.2.2.2 o Q e hr) (x1, x2, x3, x5, σ) r Q e hr
noncomputable def g_O_shareBeside (x1 : Int32) (x2 : Int32) (σ : am_St) : Option (Int64 × am_St) :=
  let v1 := σ.2.1 60 3
  f_O_shareBeside_8 x1 x2 v1 0 σ
noncomputable def f_O_shareBeside (x1 : Int32) (x2 : Int32) (σ : am_St) : Option (Int64 × am_St) := am_lk (g_O_shareBeside x1 x2 σ)
theorem eq_O_shareBeside (x1 : Int32) (x2 : Int32) (σ : am_St) : f_O_shareBeside x1 x2 σ = g_O_shareBeside x1 x2 σ := am_lk_eq _
set_option maxRecDepth 100000 in
set_option maxHeartbeats 4000000 in
theorem s_O_shareBeside (G : am_G) (x1 : Int32) (x2 : Int32) (σ : am_St) (r : Int64 × am_St) (Q : am_AQ) (e : f_O_shareBeside x1 x2 σ = some r) (hr : am_Pl r Q) : am_AW G M_O_shareBeside 0 [(0, .ref 60), (1, .int x1), (2, .int x2)] [] σ Q :=
  (show am_Snd G M_O_shareBeside 0 am_Pl _ from (sn_aload_n (pc := 0) (i := 0) dX6_shareBeside_0 rfl (sn_gL (pc := 1) (h := 60) (f := 3) dX6_shareBeside_1 am_CL_6 sh_60 rfl (Nat.le_of_ble_eq_true rfl) tw_208 (sn_lstore_n (pc := 4) (i := 3) dX6_shareBeside_4 rfl (Nat.le_of_ble_eq_true rfl) (sn_iconst (pc := 5) (v := 0) dX6_shareBeside_5 rfl (sn_istore (pc := 6) dX6_shareBeside_6 (Nat.le_of_ble_eq_true rfl) (sn_lf (pc := 8) (ln_a (i := 0) (q := 60) (ln_i (i := 1) (fun z0 => (ln_i (i := 2) (fun z1 => (ln_l (i := 3) (fun z2 => (ln_i (i := 5) (fun z3 => (ln_end (o := fun τ => f_O_shareBeside_8 z0 z1 z2 z3 τ) (fun _ _ _ e h => s_O_shareBeside_8 G z0 z1 z2 z3 _ _ _ e h)))))))))))))))))) _ _ _ _ _ ((eq_O_shareBeside x1 x2 σ).symm.trans e) hr
noncomputable def cF_O_shareBeside : am_Fn := fun _ args σ K => match args with
  | [.ref q0, .int z1, .int z2] => match Nat.beq q0 60 with
    | true => (f_O_shareBeside z1 z2 σ).bind (fun p => K (some (.long p.1)) p.2)
    | _ => none
  | _ => none
theorem cal_O_shareBeside (G : am_G) : am_Cal G M_O_shareBeside cF_O_shareBeside := by
  intro ρ args σ K r e
  unfold cF_O_shareBeside at e
  split at e
  · split at e
    · rename_i hq0
      obtain ⟨p, h1, h2⟩ := am_bind_some e
      rw [Nat.eq_of_beq_eq_true hq0]
      exact ⟨some (.long p.1), p.2, am_Met.of rfl (Nat.le_of_ble_eq_true rfl) (s_O_shareBeside G _ _ σ p _ h1 ⟨rfl, rfl⟩), h2⟩
    · cases e
  · cases e
