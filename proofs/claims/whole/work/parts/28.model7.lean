abbrev M_M_punished : am_MD := (yX12_punished, cX12_punished, 4, (some .int), 5, 112)
theorem dX12_punished_0 : decode cX12_punished 0 = .ok (.aload_n 0, 1) := by decide +kernel
theorem dX12_punished_1 : decode cX12_punished 1 = .ok (.invokevirtual 284, 3) := by decide +kernel
theorem dX12_punished_4 : decode cX12_punished 4 = .ok (.iconst 0, 1) := by decide +kernel
theorem dX12_punished_5 : decode cX12_punished 5 = .ok (.istore_n 2, 1) := by decide +kernel
theorem dX12_punished_6 : decode cX12_punished 6 = .ok (.iconst 0, 1) := by decide +kernel
theorem dX12_punished_7 : decode cX12_punished 7 = .ok (.istore_n 3, 1) := by decide +kernel
theorem dX12_punished_8 : decode cX12_punished 8 = .ok (.iload_n 3, 1) := by decide +kernel
theorem dX12_punished_9 : decode cX12_punished 9 = .ok (.aload_n 0, 1) := by decide +kernel
theorem dX12_punished_10 : decode cX12_punished 10 = .ok (.getfield 105, 3) := by decide +kernel
theorem dX12_punished_13 : decode cX12_punished 13 = .ok (.if_icmp .ge 53, 3) := by decide +kernel
theorem dX12_punished_16 : decode cX12_punished 16 = .ok (.iload_n 2, 1) := by decide +kernel
theorem dX12_punished_17 : decode cX12_punished 17 = .ok (.ldc2_w 326, 3) := by decide +kernel
theorem dX12_punished_20 : decode cX12_punished 20 = .ok (.aload_n 0, 1) := by decide +kernel
theorem dX12_punished_21 : decode cX12_punished 21 = .ok (.getfield 92, 3) := by decide +kernel
theorem dX12_punished_24 : decode cX12_punished 24 = .ok (.iload_n 3, 1) := by decide +kernel
theorem dX12_punished_25 : decode cX12_punished 25 = .ok (.laload, 1) := by decide +kernel
theorem dX12_punished_26 : decode cX12_punished 26 = .ok (.lmul, 1) := by decide +kernel
theorem dX12_punished_27 : decode cX12_punished 27 = .ok (.iload_n 1, 1) := by decide +kernel
theorem dX12_punished_28 : decode cX12_punished 28 = .ok (.i2l, 1) := by decide +kernel
theorem dX12_punished_29 : decode cX12_punished 29 = .ok (.aload_n 0, 1) := by decide +kernel
theorem dX12_punished_30 : decode cX12_punished 30 = .ok (.getfield 274, 3) := by decide +kernel
theorem dX12_punished_33 : decode cX12_punished 33 = .ok (.lmul, 1) := by decide +kernel
theorem dX12_punished_34 : decode cX12_punished 34 = .ok (.lcmp, 1) := by decide +kernel
theorem dX12_punished_35 : decode cX12_punished 35 = .ok (.ifCond .lt 22, 3) := by decide +kernel
theorem dX12_punished_38 : decode cX12_punished 38 = .ok (.iload_n 1, 1) := by decide +kernel
theorem dX12_punished_39 : decode cX12_punished 39 = .ok (.ifCond .eq 12, 3) := by decide +kernel
theorem dX12_punished_42 : decode cX12_punished 42 = .ok (.aload_n 0, 1) := by decide +kernel
theorem dX12_punished_43 : decode cX12_punished 43 = .ok (.getfield 274, 3) := by decide +kernel
theorem dX12_punished_46 : decode cX12_punished 46 = .ok (.lconst 0, 1) := by decide +kernel
theorem dX12_punished_47 : decode cX12_punished 47 = .ok (.lcmp, 1) := by decide +kernel
theorem dX12_punished_48 : decode cX12_punished 48 = .ok (.ifCond .le 9, 3) := by decide +kernel
theorem dX12_punished_51 : decode cX12_punished 51 = .ok (.iconst 1, 1) := by decide +kernel
theorem dX12_punished_52 : decode cX12_punished 52 = .ok (.iload_n 3, 1) := by decide +kernel
theorem dX12_punished_53 : decode cX12_punished 53 = .ok (.ishl, 1) := by decide +kernel
theorem dX12_punished_54 : decode cX12_punished 54 = .ok (.goto 4, 3) := by decide +kernel
theorem dX12_punished_57 : decode cX12_punished 57 = .ok (.iconst 0, 1) := by decide +kernel
theorem dX12_punished_58 : decode cX12_punished 58 = .ok (.ior, 1) := by decide +kernel
theorem dX12_punished_59 : decode cX12_punished 59 = .ok (.istore_n 2, 1) := by decide +kernel
theorem dX12_punished_60 : decode cX12_punished 60 = .ok (.iinc 3 1, 3) := by decide +kernel
theorem dX12_punished_63 : decode cX12_punished 63 = .ok (.goto (-55), 3) := by decide +kernel
theorem dX12_punished_66 : decode cX12_punished 66 = .ok (.iload_n 2, 1) := by decide +kernel
theorem dX12_punished_67 : decode cX12_punished 67 = .ok (.ireturn, 1) := by decide +kernel
abbrev Pl_M_punished_8 (G : am_G) : ((Int32 × Int32 × Int32 × am_St) ⊕ (Int32 × am_St)) → am_AQ → Prop := am_PL G M_M_punished 8 (fun s : Int32 × Int32 × Int32 × am_St => [(3, .int s.2.2.1), (2, .int s.2.1), (1, .int s.1), (0, .ref 66)]) (fun s => s.2.2.2) am_Pi
noncomputable def g_M_punished_58 (x1 : Int32) (x3 : Int32) (y0 : Int32) (y1 : Int32) (σ : am_St) : Option ((Int32 × Int32 × Int32 × am_St) ⊕ (Int32 × am_St)) :=
  let v1 := y0 ||| y1
  let v2 := x3 + 1
  some (.inl (x1, v1, v2, σ))
noncomputable def f_M_punished_58 (x1 : Int32) (x3 : Int32) (y0 : Int32) (y1 : Int32) (σ : am_St) : Option ((Int32 × Int32 × Int32 × am_St) ⊕ (Int32 × am_St)) := am_lk (g_M_punished_58 x1 x3 y0 y1 σ)
theorem eq_M_punished_58 (x1 : Int32) (x3 : Int32) (y0 : Int32) (y1 : Int32) (σ : am_St) : f_M_punished_58 x1 x3 y0 y1 σ = g_M_punished_58 x1 x3 y0 y1 σ := am_lk_eq _
set_option maxRecDepth 100000 in
set_option maxHeartbeats 4000000 in
theorem s_M_punished_58 (G : am_G) (x1 : Int32) (x3 : Int32) (y0 : Int32) (y1 : Int32) (σ : am_St) (r : (Int32 × Int32 × Int32 × am_St) ⊕ (Int32 × am_St)) (Q : am_AQ) (e : f_M_punished_58 x1 x3 y0 y1 σ = some r) (hr : (Pl_M_punished_8 G) r Q) : am_AW G M_M_punished 58 [(3, .int x3), (1, .int x1), (0, .ref 66)] [.int y1, .int y0] σ Q :=
  (show am_Snd G M_M_punished 58 (Pl_M_punished_8 G) _ from (sn_ior (pc := 58) dX12_punished_58 (sn_istore_n (pc := 59) (i := 2) dX12_punished_59 rfl (Nat.le_of_ble_eq_true rfl) (sn_iinc (pc := 60) (v := 1) dX12_punished_60 rfl (Nat.le_of_ble_eq_true rfl) (sn_goto (pc := 63) (tgt := 8) dX12_punished_63 rfl (sn_lf (pc := 8) (ln_a (i := 0) (q := 66) (ln_i (i := 1) (fun z0 => (ln_i (i := 2) (fun z1 => (ln_i (i := 3) (fun z2 => (ln_end (o := fun τ => (some (.inl (z0, z1, z2, τ)) : Option ((Int32 × Int32 × Int32 × am_St) ⊕ (Int32 × am_St)))) (fun _ _ _ e h => by cases e; exact h))))))))))))))) _ _ _ _ _ ((eq_M_punished_58 x1 x3 y0 y1 σ).symm.trans e) hr
noncomputable def g_M_punished_51 (x1 : Int32) (x3 : Int32) (y0 : Int32) (σ : am_St) : Option ((Int32 × Int32 × Int32 × am_St) ⊕ (Int32 × am_St)) :=
  f_M_punished_58 x1 x3 y0 (1 <<< (x3 &&& 31)) σ
noncomputable def f_M_punished_51 (x1 : Int32) (x3 : Int32) (y0 : Int32) (σ : am_St) : Option ((Int32 × Int32 × Int32 × am_St) ⊕ (Int32 × am_St)) := am_lk (g_M_punished_51 x1 x3 y0 σ)
theorem eq_M_punished_51 (x1 : Int32) (x3 : Int32) (y0 : Int32) (σ : am_St) : f_M_punished_51 x1 x3 y0 σ = g_M_punished_51 x1 x3 y0 σ := am_lk_eq _
set_option maxRecDepth 100000 in
set_option maxHeartbeats 4000000 in
theorem s_M_punished_51 (G : am_G) (x1 : Int32) (x3 : Int32) (y0 : Int32) (σ : am_St) (r : (Int32 × Int32 × Int32 × am_St) ⊕ (Int32 × am_St)) (Q : am_AQ) (e : f_M_punished_51 x1 x3 y0 σ = some r) (hr : (Pl_M_punished_8 G) r Q) : am_AW G M_M_punished 51 [(3, .int x3), (1, .int x1), (0, .ref 66)] [.int y0] σ Q :=
  (show am_Snd G M_M_punished 51 (Pl_M_punished_8 G) _ from (sn_iconst (pc := 51) (v := 1) dX12_punished_51 rfl (sn_iload_n (pc := 52) (i := 3) dX12_punished_52 rfl (sn_ishl (pc := 53) dX12_punished_53 (sn_goto (pc := 54) (tgt := 58) dX12_punished_54 rfl (sn_lf (pc := 58) (ln_a (i := 0) (q := 66) (ln_i (i := 1) (fun z0 => (ln_i (i := 3) (fun z1 => (ln_si (fun w1 => (ln_si (fun w0 => (ln_end (o := fun τ => f_M_punished_58 z0 z1 w0 w1 τ) (fun _ _ _ e h => s_M_punished_58 G z0 z1 w0 w1 _ _ _ e h))))))))))))))))) _ _ _ _ _ ((eq_M_punished_51 x1 x3 y0 σ).symm.trans e) hr
noncomputable def g_M_punished_57 (x1 : Int32) (x3 : Int32) (y0 : Int32) (σ : am_St) : Option ((Int32 × Int32 × Int32 × am_St) ⊕ (Int32 × am_St)) :=
  f_M_punished_58 x1 x3 y0 0 σ
noncomputable def f_M_punished_57 (x1 : Int32) (x3 : Int32) (y0 : Int32) (σ : am_St) : Option ((Int32 × Int32 × Int32 × am_St) ⊕ (Int32 × am_St)) := am_lk (g_M_punished_57 x1 x3 y0 σ)
theorem eq_M_punished_57 (x1 : Int32) (x3 : Int32) (y0 : Int32) (σ : am_St) : f_M_punished_57 x1 x3 y0 σ = g_M_punished_57 x1 x3 y0 σ := am_lk_eq _
set_option maxRecDepth 100000 in
set_option maxHeartbeats 4000000 in
theorem s_M_punished_57 (G : am_G) (x1 : Int32) (x3 : Int32) (y0 : Int32) (σ : am_St) (r : (Int32 × Int32 × Int32 × am_St) ⊕ (Int32 × am_St)) (Q : am_AQ) (e : f_M_punished_57 x1 x3 y0 σ = some r) (hr : (Pl_M_punished_8 G) r Q) : am_AW G M_M_punished 57 [(3, .int x3), (1, .int x1), (0, .ref 66)] [.int y0] σ Q :=
  (show am_Snd G M_M_punished 57 (Pl_M_punished_8 G) _ from (sn_iconst (pc := 57) (v := 0) dX12_punished_57 rfl (sn_lf (pc := 58) (ln_a (i := 0) (q := 66) (ln_i (i := 1) (fun z0 => (ln_i (i := 3) (fun z1 => (ln_si (fun w1 => (ln_si (fun w0 => (ln_end (o := fun τ => f_M_punished_58 z0 z1 w0 w1 τ) (fun _ _ _ e h => s_M_punished_58 G z0 z1 w0 w1 _ _ _ e h)))))))))))))) _ _ _ _ _ ((eq_M_punished_57 x1 x3 y0 σ).symm.trans e) hr
noncomputable def b_M_punished_8 (x1 : Int32) (x2 : Int32) (x3 : Int32) (σ : am_St) : Option ((Int32 × Int32 × Int32 × am_St) ⊕ (Int32 × am_St)) :=
  if (σ.1 66 2) ≤ x3 then
    some (.inr ((x2, σ)))
  else
    if am_ix x3 7 = true then
      if (lg_cmp (10 * (σ.2.1 92 x3.toNatClampNeg)) (x1.toInt64 * (σ.2.1 66 43))) < 0 then
        f_M_punished_57 x1 x3 x2 σ
      else
        if x1 = 0 then
          f_M_punished_51 x1 x3 x2 σ
        else
          if (lg_cmp (σ.2.1 66 43) 0) ≤ 0 then
            f_M_punished_57 x1 x3 x2 σ
          else
            f_M_punished_51 x1 x3 x2 σ
    else none
noncomputable def f_M_punished_8 (x1 : Int32) (x2 : Int32) (x3 : Int32) (σ : am_St) : Option (Int32 × am_St) := am_lp (fun s : Int32 × Int32 × Int32 × am_St => b_M_punished_8 s.1 s.2.1 s.2.2.1 s.2.2.2) (x1, x2, x3, σ)
set_option maxRecDepth 100000 in
set_option maxHeartbeats 4000000 in
theorem sb_M_punished_8 (G : am_G) (x1 : Int32) (x2 : Int32) (x3 : Int32) (σ : am_St) (r : (Int32 × Int32 × Int32 × am_St) ⊕ (Int32 × am_St)) (Q : am_AQ) (e : b_M_punished_8 x1 x2 x3 σ = some r) (hr : Pl_M_punished_8 G r Q) : am_AW G M_M_punished 8 [(3, .int x3), (2, .int x2), (1, .int x1), (0, .ref 66)] [] σ Q :=
  (show am_Snd G M_M_punished 8 (Pl_M_punished_8 G) _ from (sn_iload_n (pc := 8) (i := 3) dX12_punished_8 rfl (sn_aload_n (pc := 9) (i := 0) dX12_punished_9 rfl (sn_gI (pc := 10) (h := 66) (f := 2) dX12_punished_10 am_CL_11 sh_66 rfl (Nat.le_of_ble_eq_true rfl) tw_943 (sn_icmp_ge (pc := 13) (tgt := 66) dX12_punished_13 rfl (sn_iload_n (pc := 66) (i := 2) dX12_punished_66 rfl (sn_reti (pc := 67) (R := fun x τ => (some (.inr ((x, τ))) : Option ((Int32 × Int32 × Int32 × am_St) ⊕ (Int32 × am_St)))) dX12_punished_67 rfl (fun _ _ _ _ e h => by cases e; exact h))) (sn_iload_n (pc := 16) (i := 2) dX12_punished_16 rfl (sn_ldc2 (pc := 17) dX12_punished_17 tw_1380 (sn_aload_n (pc := 20) (i := 0) dX12_punished_20 rfl (sn_gR (r0 := 92) (pc := 21) (h := 66) (f := 42) dX12_punished_21 am_CL_11 sh_66 rfl (Nat.le_of_ble_eq_true rfl) tw_983 (sn_iload_n (pc := 24) (i := 3) dX12_punished_24 rfl (sn_aL (pc := 25) (h := 92) dX12_punished_25 sh_92 (sn_lmul (pc := 26) dX12_punished_26 (sn_iload_n (pc := 27) (i := 1) dX12_punished_27 rfl (sn_i2l (pc := 28) dX12_punished_28 (sn_aload_n (pc := 29) (i := 0) dX12_punished_29 rfl (sn_gL (pc := 30) (h := 66) (f := 43) dX12_punished_30 am_CL_11 sh_66 rfl (Nat.le_of_ble_eq_true rfl) tw_984 (sn_lmul (pc := 33) dX12_punished_33 (sn_lcmp (pc := 34) dX12_punished_34 (sn_if_lt (pc := 35) (tgt := 57) dX12_punished_35 rfl (sn_lf (pc := 57) (ln_a (i := 0) (q := 66) (ln_i (i := 1) (fun z0 => (ln_i (i := 3) (fun z1 => (ln_si (fun w0 => (ln_end (o := fun τ => f_M_punished_57 z0 z1 w0 τ) (fun _ _ _ e h => s_M_punished_57 G z0 z1 w0 _ _ _ e h)))))))))) (sn_iload_n (pc := 38) (i := 1) dX12_punished_38 rfl (sn_if_eq (pc := 39) (tgt := 51) dX12_punished_39 rfl (sn_lf (pc := 51) (ln_a (i := 0) (q := 66) (ln_i (i := 1) (fun z0 => (ln_i (i := 3) (fun z1 => (ln_si (fun w0 => (ln_end (o := fun τ => f_M_punished_51 z0 z1 w0 τ) (fun _ _ _ e h => s_M_punished_51 G z0 z1 w0 _ _ _ e h)))))))))) (sn_aload_n (pc := 42) (i := 0) dX12_punished_42 rfl (sn_gL (pc := 43) (h := 66) (f := 43) dX12_punished_43 am_CL_11 sh_66 rfl (Nat.le_of_ble_eq_true rfl) tw_984 (sn_lconst (pc := 46) (v := 0) dX12_punished_46 rfl (sn_lcmp (pc := 47) dX12_punished_47 (sn_if_le (pc := 48) (tgt := 57) dX12_punished_48 rfl (sn_lf (pc := 57) (ln_a (i := 0) (q := 66) (ln_i (i := 1) (fun z0 => (ln_i (i := 3) (fun z1 => (ln_si (fun w0 => (ln_end (o := fun τ => f_M_punished_57 z0 z1 w0 τ) (fun _ _ _ e h => s_M_punished_57 G z0 z1 w0 _ _ _ e h)))))))))) (sn_lf (pc := 51) (ln_a (i := 0) (q := 66) (ln_i (i := 1) (fun z0 => (ln_i (i := 3) (fun z1 => (ln_si (fun w0 => (ln_end (o := fun τ => f_M_punished_51 z0 z1 w0 τ) (fun _ _ _ e h => s_M_punished_51 G z0 z1 w0 _ _ _ e h)))))))))))))))))))))))))))))))))))) _ _ _ _ _ e hr
theorem s_M_punished_8 (G : am_G) (x1 : Int32) (x2 : Int32) (x3 : Int32) (σ : am_St) (r : Int32 × am_St) (Q : am_AQ) (e : f_M_punished_8 x1 x2 x3 σ = some r) (hr : am_Pi r Q) : am_AW G M_M_punished 8 [(3, .int x3), (2, .int x2), (1, .int x1), (0, .ref 66)] [] σ Q :=
  am_loop (P := am_Pi) (L := fun s : Int32 × Int32 × Int32 × am_St => [(3, .int s.2.2.1), (2, .int s.2.1), (1, .int s.1), (0, .ref 66)]) (g := fun s => s.2.2.2) (fun s o Q e hr => sb_M_punished_8 G s.1 s.2.1 s.2.2.1 s.2.2.2 o Q e hr) (x1, x2, x3, σ) r Q e hr
noncomputable def g_M_punished (x1 : Int32) (σ : am_St) : Option (Int32 × am_St) :=
  (f_M_layWeights σ).bind (fun p1 =>
    f_M_punished_8 x1 0 0 p1)
noncomputable def f_M_punished (x1 : Int32) (σ : am_St) : Option (Int32 × am_St) := am_lk (g_M_punished x1 σ)
theorem eq_M_punished (x1 : Int32) (σ : am_St) : f_M_punished x1 σ = g_M_punished x1 σ := am_lk_eq _
set_option maxRecDepth 100000 in
set_option maxHeartbeats 4000000 in
theorem s_M_punished (G : am_G) (x1 : Int32) (σ : am_St) (r : Int32 × am_St) (Q : am_AQ) (e : f_M_punished x1 σ = some r) (hr : am_Pi r Q) : am_AW G M_M_punished 0 [(0, .ref 66), (1, .int x1)] [] σ Q :=
  (show am_Snd G M_M_punished 0 am_Pi _ from (sn_aload_n (pc := 0) (i := 0) dX12_punished_0 rfl (sn_callV (pc := 1) (N := M_M_layWeights) dX12_punished_1 (cal_M_layWeights G) sh_66 rfl tw_1278 tw_1280 tp_52 tw_12 tw_1281 dsc_X12_layWeights rfl (sn_iconst (pc := 4) (v := 0) dX12_punished_4 rfl (sn_istore_n (pc := 5) (i := 2) dX12_punished_5 rfl (Nat.le_of_ble_eq_true rfl) (sn_iconst (pc := 6) (v := 0) dX12_punished_6 rfl (sn_istore_n (pc := 7) (i := 3) dX12_punished_7 rfl (Nat.le_of_ble_eq_true rfl) (sn_lf (pc := 8) (ln_a (i := 0) (q := 66) (ln_i (i := 1) (fun z0 => (ln_i (i := 2) (fun z1 => (ln_i (i := 3) (fun z2 => (ln_end (o := fun τ => f_M_punished_8 z0 z1 z2 τ) (fun _ _ _ e h => s_M_punished_8 G z0 z1 z2 _ _ _ e h))))))))))))))))) _ _ _ _ _ ((eq_M_punished x1 σ).symm.trans e) hr
noncomputable def cF_M_punished : am_Fn := fun _ args σ K => match args with
  | [.ref q0, .int z1] => match Nat.beq q0 66 with
    | true => (f_M_punished z1 σ).bind (fun p => K (some (.int p.1)) p.2)
    | _ => none
  | _ => none
theorem cal_M_punished (G : am_G) : am_Cal G M_M_punished cF_M_punished := by
  intro ρ args σ K r e
  unfold cF_M_punished at e
  split at e
  · split at e
    · rename_i hq0
      obtain ⟨p, h1, h2⟩ := am_bind_some e
      rw [Nat.eq_of_beq_eq_true hq0]
      exact ⟨some (.int p.1), p.2, am_Met.of rfl (Nat.le_of_ble_eq_true rfl) (s_M_punished G _ σ p _ h1 ⟨rfl, rfl⟩), h2⟩
    · cases e
  · cases e
abbrev M_M_punish : am_MD := (yX12_punish, cX12_punish, 2, (some .int), 6, 135)
theorem dX12_punish_0 : decode cX12_punish 0 = .ok (.aload_n 0, 1) := by decide +kernel
theorem dX12_punish_1 : decode cX12_punish 1 = .ok (.iconst 0, 1) := by decide +kernel
theorem dX12_punish_2 : decode cX12_punish 2 = .ok (.putfield 102, 3) := by decide +kernel
theorem dX12_punish_5 : decode cX12_punish 5 = .ok (.iload_n 1, 1) := by decide +kernel
theorem dX12_punish_6 : decode cX12_punish 6 = .ok (.iconst 0, 1) := by decide +kernel
theorem dX12_punish_7 : decode cX12_punish 7 = .ok (.bipush 10, 2) := by decide +kernel
theorem dX12_punish_9 : decode cX12_punish 9 = .ok (.invokestatic 268, 3) := by decide +kernel
theorem dX12_punish_12 : decode cX12_punish 12 = .ok (.ifCond .ge 17, 3) := by decide +kernel
theorem dX12_punish_15 : decode cX12_punish 15 = .ok (.aload_n 0, 1) := by decide +kernel
theorem dX12_punish_16 : decode cX12_punish 16 = .ok (.iload_n 1, 1) := by decide +kernel
theorem dX12_punish_17 : decode cX12_punish 17 = .ok (.iconst 0, 1) := by decide +kernel
theorem dX12_punish_18 : decode cX12_punish 18 = .ok (.bipush 10, 2) := by decide +kernel
theorem dX12_punish_20 : decode cX12_punish 20 = .ok (.invokestatic 268, 3) := by decide +kernel
theorem dX12_punish_23 : decode cX12_punish 23 = .ok (.invokevirtual 154, 3) := by decide +kernel
theorem dX12_punish_26 : decode cX12_punish 26 = .ok (.goto 8, 3) := by decide +kernel
theorem dX12_punish_29 : decode cX12_punish 29 = .ok (.aload_n 0, 1) := by decide +kernel
theorem dX12_punish_30 : decode cX12_punish 30 = .ok (.iload_n 1, 1) := by decide +kernel
theorem dX12_punish_31 : decode cX12_punish 31 = .ok (.invokevirtual 343, 3) := by decide +kernel
theorem dX12_punish_34 : decode cX12_punish 34 = .ok (.ireturn, 1) := by decide +kernel
noncomputable def g_M_punish (x1 : Int32) (σ : am_St) : Option (Int32 × am_St) :=
  let s1 := am_sI σ 66 22 0
  (f_M_wrongNumber x1 0 10 s1).bind (fun p2 =>
    if 0 ≤ p2.1 then
      (f_M_punished x1 p2.2).bind (fun p3 =>
        some ((p3.1, p3.2)))
    else
      (f_M_wrongNumber x1 0 10 p2.2).bind (fun p4 =>
        (f_M_refuse p4.1 p4.2).bind (fun p5 =>
          some ((p5.1, p5.2)))))
noncomputable def f_M_punish (x1 : Int32) (σ : am_St) : Option (Int32 × am_St) := am_lk (g_M_punish x1 σ)
theorem eq_M_punish (x1 : Int32) (σ : am_St) : f_M_punish x1 σ = g_M_punish x1 σ := am_lk_eq _
set_option maxRecDepth 100000 in
set_option maxHeartbeats 4000000 in
theorem s_M_punish (G : am_G) (x1 : Int32) (σ : am_St) (r : Int32 × am_St) (Q : am_AQ) (e : f_M_punish x1 σ = some r) (hr : am_Pi r Q) : am_AW G M_M_punish 0 [(0, .ref 66), (1, .int x1)] [] σ Q :=
  (show am_Snd G M_M_punish 0 am_Pi _ from (sn_aload_n (pc := 0) (i := 0) dX12_punish_0 rfl (sn_iconst (pc := 1) (v := 0) dX12_punish_1 rfl (sn_pI (pc := 2) (h := 66) (f := 22) dX12_punish_2 am_CL_11 sh_66 rfl (Nat.le_of_ble_eq_true rfl) tw_963 rfl rfl (sn_iload_n (pc := 5) (i := 1) dX12_punish_5 rfl (sn_iconst (pc := 6) (v := 0) dX12_punish_6 rfl (sn_bipush (pc := 7) (v := 10) dX12_punish_7 rfl (sn_callS (pc := 9) (N := M_M_wrongNumber) dX12_punish_9 (cal_M_wrongNumber G) tw_1250 tw_1251 tw_12 tw_1252 dsc_X12_wrongNumber rfl (sn_if_ge (pc := 12) (tgt := 29) dX12_punish_12 rfl (sn_aload_n (pc := 29) (i := 0) dX12_punish_29 rfl (sn_iload_n (pc := 30) (i := 1) dX12_punish_30 rfl (sn_callV (pc := 31) (N := M_M_punished) dX12_punish_31 (cal_M_punished G) sh_66 rfl tw_1420 tw_1422 tp_69 tw_12 tw_1423 dsc_X12_punished rfl (sn_reti (pc := 34) (R := fun x τ => (some ((x, τ)))) dX12_punish_34 rfl (fun _ _ _ _ e h => by cases e; exact h))))) (sn_aload_n (pc := 15) (i := 0) dX12_punish_15 rfl (sn_iload_n (pc := 16) (i := 1) dX12_punish_16 rfl (sn_iconst (pc := 17) (v := 0) dX12_punish_17 rfl (sn_bipush (pc := 18) (v := 10) dX12_punish_18 rfl (sn_callS (pc := 20) (N := M_M_wrongNumber) dX12_punish_20 (cal_M_wrongNumber G) tw_1250 tw_1251 tw_12 tw_1252 dsc_X12_wrongNumber rfl (sn_callV (pc := 23) (N := M_M_refuse) dX12_punish_23 (cal_M_refuse G) sh_66 rfl tw_1090 tw_1092 tp_23 tw_12 tw_1093 dsc_X12_refuse rfl (sn_goto (pc := 26) (tgt := 34) dX12_punish_26 rfl (sn_reti (pc := 34) (R := fun x τ => (some ((x, τ)))) dX12_punish_34 rfl (fun _ _ _ _ e h => by cases e; exact h)))))))))))))))))) _ _ _ _ _ ((eq_M_punish x1 σ).symm.trans e) hr
noncomputable def cF_M_punish : am_Fn := fun _ args σ K => match args with
  | [.ref q0, .int z1] => match Nat.beq q0 66 with
    | true => (f_M_punish z1 σ).bind (fun p => K (some (.int p.1)) p.2)
    | _ => none
  | _ => none
theorem cal_M_punish (G : am_G) : am_Cal G M_M_punish cF_M_punish := by
  intro ρ args σ K r e
  unfold cF_M_punish at e
  split at e
  · split at e
    · rename_i hq0
      obtain ⟨p, h1, h2⟩ := am_bind_some e
      rw [Nat.eq_of_beq_eq_true hq0]
      exact ⟨some (.int p.1), p.2, am_Met.of rfl (Nat.le_of_ble_eq_true rfl) (s_M_punish G _ σ p _ h1 ⟨rfl, rfl⟩), h2⟩
    · cases e
  · cases e
abbrev M_M_missed : am_MD := (yX12_missed, cX12_missed, 8, (some .long), 6, 135)
theorem dX12_missed_0 : decode cX12_missed 0 = .ok (.aload_n 0, 1) := by decide +kernel
theorem dX12_missed_1 : decode cX12_missed 1 = .ok (.iconst 0, 1) := by decide +kernel
theorem dX12_missed_2 : decode cX12_missed 2 = .ok (.putfield 102, 3) := by decide +kernel
theorem dX12_missed_5 : decode cX12_missed 5 = .ok (.iload_n 1, 1) := by decide +kernel
theorem dX12_missed_6 : decode cX12_missed 6 = .ok (.iconst 0, 1) := by decide +kernel
theorem dX12_missed_7 : decode cX12_missed 7 = .ok (.bipush 10, 2) := by decide +kernel
theorem dX12_missed_9 : decode cX12_missed 9 = .ok (.invokestatic 268, 3) := by decide +kernel
theorem dX12_missed_12 : decode cX12_missed 12 = .ok (.istore_n 3, 1) := by decide +kernel
theorem dX12_missed_13 : decode cX12_missed 13 = .ok (.iload_n 3, 1) := by decide +kernel
theorem dX12_missed_14 : decode cX12_missed 14 = .ok (.ifCond .ne 18, 3) := by decide +kernel
theorem dX12_missed_17 : decode cX12_missed 17 = .ok (.iload_n 2, 1) := by decide +kernel
theorem dX12_missed_18 : decode cX12_missed 18 = .ok (.i2l, 1) := by decide +kernel
theorem dX12_missed_19 : decode cX12_missed 19 = .ok (.lconst 0, 1) := by decide +kernel
theorem dX12_missed_20 : decode cX12_missed 20 = .ok (.lconst 1, 1) := by decide +kernel
theorem dX12_missed_21 : decode cX12_missed 21 = .ok (.invokestatic 108, 3) := by decide +kernel
theorem dX12_missed_24 : decode cX12_missed 24 = .ok (.ifCond .ne 8, 3) := by decide +kernel
theorem dX12_missed_27 : decode cX12_missed 27 = .ok (.bipush (-2), 2) := by decide +kernel
theorem dX12_missed_29 : decode cX12_missed 29 = .ok (.goto 4, 3) := by decide +kernel
theorem dX12_missed_32 : decode cX12_missed 32 = .ok (.iload_n 3, 1) := by decide +kernel
theorem dX12_missed_33 : decode cX12_missed 33 = .ok (.istore_n 3, 1) := by decide +kernel
theorem dX12_missed_34 : decode cX12_missed 34 = .ok (.iload_n 3, 1) := by decide +kernel
theorem dX12_missed_35 : decode cX12_missed 35 = .ok (.ifCond .ge 14, 3) := by decide +kernel
theorem dX12_missed_38 : decode cX12_missed 38 = .ok (.ldc2_w 282, 3) := by decide +kernel
theorem dX12_missed_41 : decode cX12_missed 41 = .ok (.aload_n 0, 1) := by decide +kernel
theorem dX12_missed_42 : decode cX12_missed 42 = .ok (.iload_n 3, 1) := by decide +kernel
theorem dX12_missed_43 : decode cX12_missed 43 = .ok (.invokevirtual 154, 3) := by decide +kernel
theorem dX12_missed_46 : decode cX12_missed 46 = .ok (.i2l, 1) := by decide +kernel
theorem dX12_missed_47 : decode cX12_missed 47 = .ok (.lsub, 1) := by decide +kernel
theorem dX12_missed_48 : decode cX12_missed 48 = .ok (.lreturn, 1) := by decide +kernel
theorem dX12_missed_49 : decode cX12_missed 49 = .ok (.aload_n 0, 1) := by decide +kernel
theorem dX12_missed_50 : decode cX12_missed 50 = .ok (.iload_n 1, 1) := by decide +kernel
theorem dX12_missed_51 : decode cX12_missed 51 = .ok (.invokevirtual 343, 3) := by decide +kernel
theorem dX12_missed_54 : decode cX12_missed 54 = .ok (.istore 4, 2) := by decide +kernel
theorem dX12_missed_56 : decode cX12_missed 56 = .ok (.aload_n 0, 1) := by decide +kernel
theorem dX12_missed_57 : decode cX12_missed 57 = .ok (.getfield 274, 3) := by decide +kernel
theorem dX12_missed_60 : decode cX12_missed 60 = .ok (.lstore 5, 2) := by decide +kernel
theorem dX12_missed_62 : decode cX12_missed 62 = .ok (.iconst 0, 1) := by decide +kernel
theorem dX12_missed_63 : decode cX12_missed 63 = .ok (.istore 7, 2) := by decide +kernel
theorem dX12_missed_65 : decode cX12_missed 65 = .ok (.iload 7, 2) := by decide +kernel
theorem dX12_missed_67 : decode cX12_missed 67 = .ok (.aload_n 0, 1) := by decide +kernel
theorem dX12_missed_68 : decode cX12_missed 68 = .ok (.getfield 105, 3) := by decide +kernel
theorem dX12_missed_71 : decode cX12_missed 71 = .ok (.if_icmp .ge 35, 3) := by decide +kernel
theorem dX12_missed_74 : decode cX12_missed 74 = .ok (.lload 5, 2) := by decide +kernel
theorem dX12_missed_76 : decode cX12_missed 76 = .ok (.iload 4, 2) := by decide +kernel
theorem dX12_missed_78 : decode cX12_missed 78 = .ok (.iload 7, 2) := by decide +kernel
theorem dX12_missed_80 : decode cX12_missed 80 = .ok (.invokestatic 115, 3) := by decide +kernel
theorem dX12_missed_83 : decode cX12_missed 83 = .ok (.ifCond .eq 13, 3) := by decide +kernel
theorem dX12_missed_86 : decode cX12_missed 86 = .ok (.aload_n 0, 1) := by decide +kernel
theorem dX12_missed_87 : decode cX12_missed 87 = .ok (.getfield 92, 3) := by decide +kernel
theorem dX12_missed_90 : decode cX12_missed 90 = .ok (.iload 7, 2) := by decide +kernel
theorem dX12_missed_92 : decode cX12_missed 92 = .ok (.laload, 1) := by decide +kernel
theorem dX12_missed_93 : decode cX12_missed 93 = .ok (.goto 4, 3) := by decide +kernel
theorem dX12_missed_96 : decode cX12_missed 96 = .ok (.lconst 0, 1) := by decide +kernel
theorem dX12_missed_97 : decode cX12_missed 97 = .ok (.lsub, 1) := by decide +kernel
theorem dX12_missed_98 : decode cX12_missed 98 = .ok (.lstore 5, 2) := by decide +kernel
theorem dX12_missed_100 : decode cX12_missed 100 = .ok (.iinc 7 1, 3) := by decide +kernel
theorem dX12_missed_103 : decode cX12_missed 103 = .ok (.goto (-38), 3) := by decide +kernel
theorem dX12_missed_106 : decode cX12_missed 106 = .ok (.lload 5, 2) := by decide +kernel
theorem dX12_missed_108 : decode cX12_missed 108 = .ok (.aload_n 0, 1) := by decide +kernel
theorem dX12_missed_109 : decode cX12_missed 109 = .ok (.getfield 274, 3) := by decide +kernel
theorem dX12_missed_112 : decode cX12_missed 112 = .ok (.iload_n 2, 1) := by decide +kernel
theorem dX12_missed_113 : decode cX12_missed 113 = .ok (.invokestatic 287, 3) := by decide +kernel
theorem dX12_missed_116 : decode cX12_missed 116 = .ok (.lreturn, 1) := by decide +kernel
abbrev Pl_M_missed_65 (G : am_G) : ((Int32 × Int32 × Int64 × Int32 × am_St) ⊕ (Int64 × am_St)) → am_AQ → Prop := am_PL G M_M_missed 65 (fun s : Int32 × Int32 × Int64 × Int32 × am_St => [(7, .int s.2.2.2.1), (5, .long s.2.2.1), (4, .int s.2.1), (2, .int s.1), (0, .ref 66)]) (fun s => s.2.2.2.2) am_Pl
noncomputable def g_M_missed_97 (x2 : Int32) (x4 : Int32) (x7 : Int32) (y0 : Int64) (y1 : Int64) (σ : am_St) : Option ((Int32 × Int32 × Int64 × Int32 × am_St) ⊕ (Int64 × am_St)) :=
  let v1 := y0 - y1
  let v2 := x7 + 1
  some (.inl (x2, x4, v1, v2, σ))
noncomputable def f_M_missed_97 (x2 : Int32) (x4 : Int32) (x7 : Int32) (y0 : Int64) (y1 : Int64) (σ : am_St) : Option ((Int32 × Int32 × Int64 × Int32 × am_St) ⊕ (Int64 × am_St)) := am_lk (g_M_missed_97 x2 x4 x7 y0 y1 σ)
theorem eq_M_missed_97 (x2 : Int32) (x4 : Int32) (x7 : Int32) (y0 : Int64) (y1 : Int64) (σ : am_St) : f_M_missed_97 x2 x4 x7 y0 y1 σ = g_M_missed_97 x2 x4 x7 y0 y1 σ := am_lk_eq _
set_option maxRecDepth 100000 in
set_option maxHeartbeats 4000000 in
theorem s_M_missed_97 (G : am_G) (x2 : Int32) (x4 : Int32) (x7 : Int32) (y0 : Int64) (y1 : Int64) (σ : am_St) (r : (Int32 × Int32 × Int64 × Int32 × am_St) ⊕ (Int64 × am_St)) (Q : am_AQ) (e : f_M_missed_97 x2 x4 x7 y0 y1 σ = some r) (hr : (Pl_M_missed_65 G) r Q) : am_AW G M_M_missed 97 [(7, .int x7), (4, .int x4), (2, .int x2), (0, .ref 66)] [.long y1, .long y0] σ Q :=
  (show am_Snd G M_M_missed 97 (Pl_M_missed_65 G) _ from (sn_lsub (pc := 97) dX12_missed_97 (sn_lstore (pc := 98) dX12_missed_98 (Nat.le_of_ble_eq_true rfl) (sn_iinc (pc := 100) (v := 1) dX12_missed_100 rfl (Nat.le_of_ble_eq_true rfl) (sn_goto (pc := 103) (tgt := 65) dX12_missed_103 rfl (sn_lf (pc := 65) (ln_a (i := 0) (q := 66) (ln_i (i := 2) (fun z0 => (ln_i (i := 4) (fun z1 => (ln_l (i := 5) (fun z2 => (ln_i (i := 7) (fun z3 => (ln_end (o := fun τ => (some (.inl (z0, z1, z2, z3, τ)) : Option ((Int32 × Int32 × Int64 × Int32 × am_St) ⊕ (Int64 × am_St)))) (fun _ _ _ e h => by cases e; exact h))))))))))))))))) _ _ _ _ _ ((eq_M_missed_97 x2 x4 x7 y0 y1 σ).symm.trans e) hr
noncomputable def b_M_missed_65 (x2 : Int32) (x4 : Int32) (x5 : Int64) (x7 : Int32) (σ : am_St) : Option ((Int32 × Int32 × Int64 × Int32 × am_St) ⊕ (Int64 × am_St)) :=
  if (σ.1 66 2) ≤ x7 then
    (f_M_partOf x5 (σ.2.1 66 43) x2 σ).bind (fun p1 =>
      some (.inr ((p1.1, p1.2))))
  else
    (f_M_has x4 x7 σ).bind (fun p2 =>
      if p2.1 = 0 then
        f_M_missed_97 x2 x4 x7 x5 0 p2.2
      else
        if am_ix x7 7 = true then
          f_M_missed_97 x2 x4 x7 x5 (p2.2.2.1 92 x7.toNatClampNeg) p2.2
        else none)
noncomputable def f_M_missed_65 (x2 : Int32) (x4 : Int32) (x5 : Int64) (x7 : Int32) (σ : am_St) : Option (Int64 × am_St) := am_lp (fun s : Int32 × Int32 × Int64 × Int32 × am_St => b_M_missed_65 s.1 s.2.1 s.2.2.1 s.2.2.2.1 s.2.2.2.2) (x2, x4, x5, x7, σ)
set_option maxRecDepth 100000 in
set_option maxHeartbeats 4000000 in
theorem sb_M_missed_65 (G : am_G) (x2 : Int32) (x4 : Int32) (x5 : Int64) (x7 : Int32) (σ : am_St) (r : (Int32 × Int32 × Int64 × Int32 × am_St) ⊕ (Int64 × am_St)) (Q : am_AQ) (e : b_M_missed_65 x2 x4 x5 x7 σ = some r) (hr : Pl_M_missed_65 G r Q) : am_AW G M_M_missed 65 [(7, .int x7), (5, .long x5), (4, .int x4), (2, .int x2), (0, .ref 66)] [] σ Q :=
  (show am_Snd G M_M_missed 65 (Pl_M_missed_65 G) _ from (sn_iload (pc := 65) dX12_missed_65 (sn_aload_n (pc := 67) (i := 0) dX12_missed_67 rfl (sn_gI (pc := 68) (h := 66) (f := 2) dX12_missed_68 am_CL_11 sh_66 rfl (Nat.le_of_ble_eq_true rfl) tw_943 (sn_icmp_ge (pc := 71) (tgt := 106) dX12_missed_71 rfl (sn_lload (pc := 106) dX12_missed_106 (sn_aload_n (pc := 108) (i := 0) dX12_missed_108 rfl (sn_gL (pc := 109) (h := 66) (f := 43) dX12_missed_109 am_CL_11 sh_66 rfl (Nat.le_of_ble_eq_true rfl) tw_984 (sn_iload_n (pc := 112) (i := 2) dX12_missed_112 rfl (sn_callS (pc := 113) (N := M_M_partOf) dX12_missed_113 (cal_M_partOf G) tw_1282 tw_1283 tw_12 tw_1284 dsc_X12_partOf rfl (sn_retl (pc := 116) (R := fun x τ => (some (.inr ((x, τ))) : Option ((Int32 × Int32 × Int64 × Int32 × am_St) ⊕ (Int64 × am_St)))) dX12_missed_116 rfl (fun _ _ _ _ e h => by cases e; exact h))))))) (sn_lload (pc := 74) dX12_missed_74 (sn_iload (pc := 76) dX12_missed_76 (sn_iload (pc := 78) dX12_missed_78 (sn_callS (pc := 80) (N := M_M_has) dX12_missed_80 (cal_M_has G) tw_1170 tw_1171 tw_12 tw_1172 dsc_X12_has rfl (sn_if_eq (pc := 83) (tgt := 96) dX12_missed_83 rfl (sn_lconst (pc := 96) (v := 0) dX12_missed_96 rfl (sn_lf (pc := 97) (ln_a (i := 0) (q := 66) (ln_i (i := 2) (fun z0 => (ln_i (i := 4) (fun z1 => (ln_i (i := 7) (fun z2 => (ln_sl (fun w1 => (ln_sl (fun w0 => (ln_end (o := fun τ => f_M_missed_97 z0 z1 z2 w0 w1 τ) (fun _ _ _ e h => s_M_missed_97 G z0 z1 z2 w0 w1 _ _ _ e h))))))))))))))) (sn_aload_n (pc := 86) (i := 0) dX12_missed_86 rfl (sn_gR (r0 := 92) (pc := 87) (h := 66) (f := 42) dX12_missed_87 am_CL_11 sh_66 rfl (Nat.le_of_ble_eq_true rfl) tw_983 (sn_iload (pc := 90) dX12_missed_90 (sn_aL (pc := 92) (h := 92) dX12_missed_92 sh_92 (sn_goto (pc := 93) (tgt := 97) dX12_missed_93 rfl (sn_lf (pc := 97) (ln_a (i := 0) (q := 66) (ln_i (i := 2) (fun z0 => (ln_i (i := 4) (fun z1 => (ln_i (i := 7) (fun z2 => (ln_sl (fun w1 => (ln_sl (fun w0 => (ln_end (o := fun τ => f_M_missed_97 z0 z1 z2 w0 w1 τ) (fun _ _ _ e h => s_M_missed_97 G z0 z1 z2 w0 w1 _ _ _ e h))))))))))))))))))))))))))))) _ _ _ _ _ e hr
theorem s_M_missed_65 (G : am_G) (x2 : Int32) (x4 : Int32) (x5 : Int64) (x7 : Int32) (σ : am_St) (r : Int64 × am_St) (Q : am_AQ) (e : f_M_missed_65 x2 x4 x5 x7 σ = some r) (hr : am_Pl r Q) : am_AW G M_M_missed 65 [(7, .int x7), (5, .long x5), (4, .int x4), (2, .int x2), (0, .ref 66)] [] σ Q :=
  am_loop (P := am_Pl) (L := fun s : Int32 × Int32 × Int64 × Int32 × am_St => [(7, .int s.2.2.2.1), (5, .long s.2.2.1), (4, .int s.2.1), (2, .int s.1), (0, .ref 66)]) (g := fun s => s.2.2.2.2) (fun s o Q e hr => sb_M_missed_65 G s.1 s.2.1 s.2.2.1 s.2.2.2.1 s.2.2.2.2 o Q e hr) (x2, x4, x5, x7, σ) r Q e hr
noncomputable def g_M_missed_33 (x1 : Int32) (x2 : Int32) (y0 : Int32) (σ : am_St) : Option (Int64 × am_St) :=
  if 0 ≤ y0 then
    (f_M_punished x1 σ).bind (fun p1 =>
      let v2 := p1.2.2.1 66 43
      f_M_missed_65 x2 p1.1 v2 0 p1.2)
  else
    (f_M_refuse y0 σ).bind (fun p3 =>
      some ((4000000000000000000 - p3.1.toInt64, p3.2)))
noncomputable def f_M_missed_33 (x1 : Int32) (x2 : Int32) (y0 : Int32) (σ : am_St) : Option (Int64 × am_St) := am_lk (g_M_missed_33 x1 x2 y0 σ)
theorem eq_M_missed_33 (x1 : Int32) (x2 : Int32) (y0 : Int32) (σ : am_St) : f_M_missed_33 x1 x2 y0 σ = g_M_missed_33 x1 x2 y0 σ := am_lk_eq _
set_option maxRecDepth 100000 in
set_option maxHeartbeats 4000000 in
theorem s_M_missed_33 (G : am_G) (x1 : Int32) (x2 : Int32) (y0 : Int32) (σ : am_St) (r : Int64 × am_St) (Q : am_AQ) (e : f_M_missed_33 x1 x2 y0 σ = some r) (hr : am_Pl r Q) : am_AW G M_M_missed 33 [(2, .int x2), (1, .int x1), (0, .ref 66)] [.int y0] σ Q :=
  (show am_Snd G M_M_missed 33 am_Pl _ from (sn_istore_n (pc := 33) (i := 3) dX12_missed_33 rfl (Nat.le_of_ble_eq_true rfl) (sn_iload_n (pc := 34) (i := 3) dX12_missed_34 rfl (sn_if_ge (pc := 35) (tgt := 49) dX12_missed_35 rfl (sn_aload_n (pc := 49) (i := 0) dX12_missed_49 rfl (sn_iload_n (pc := 50) (i := 1) dX12_missed_50 rfl (sn_callV (pc := 51) (N := M_M_punished) dX12_missed_51 (cal_M_punished G) sh_66 rfl tw_1420 tw_1422 tp_69 tw_12 tw_1423 dsc_X12_punished rfl (sn_istore (pc := 54) dX12_missed_54 (Nat.le_of_ble_eq_true rfl) (sn_aload_n (pc := 56) (i := 0) dX12_missed_56 rfl (sn_gL (pc := 57) (h := 66) (f := 43) dX12_missed_57 am_CL_11 sh_66 rfl (Nat.le_of_ble_eq_true rfl) tw_984 (sn_lstore (pc := 60) dX12_missed_60 (Nat.le_of_ble_eq_true rfl) (sn_iconst (pc := 62) (v := 0) dX12_missed_62 rfl (sn_istore (pc := 63) dX12_missed_63 (Nat.le_of_ble_eq_true rfl) (sn_lf (pc := 65) (ln_a (i := 0) (q := 66) (ln_i (i := 2) (fun z0 => (ln_i (i := 4) (fun z1 => (ln_l (i := 5) (fun z2 => (ln_i (i := 7) (fun z3 => (ln_end (o := fun τ => f_M_missed_65 z0 z1 z2 z3 τ) (fun _ _ _ e h => s_M_missed_65 G z0 z1 z2 z3 _ _ _ e h))))))))))))))))))))) (sn_ldc2 (pc := 38) dX12_missed_38 tw_1277 (sn_aload_n (pc := 41) (i := 0) dX12_missed_41 rfl (sn_iload_n (pc := 42) (i := 3) dX12_missed_42 rfl (sn_callV (pc := 43) (N := M_M_refuse) dX12_missed_43 (cal_M_refuse G) sh_66 rfl tw_1090 tw_1092 tp_23 tw_12 tw_1093 dsc_X12_refuse rfl (sn_i2l (pc := 46) dX12_missed_46 (sn_lsub (pc := 47) dX12_missed_47 (sn_retl (pc := 48) (R := fun x τ => (some ((x, τ)))) dX12_missed_48 rfl (fun _ _ _ _ e h => by cases e; exact h)))))))))))) _ _ _ _ _ ((eq_M_missed_33 x1 x2 y0 σ).symm.trans e) hr
noncomputable def g_M_missed_27 (x1 : Int32) (x2 : Int32) (σ : am_St) : Option (Int64 × am_St) :=
  f_M_missed_33 x1 x2 ((-2)) σ
noncomputable def f_M_missed_27 (x1 : Int32) (x2 : Int32) (σ : am_St) : Option (Int64 × am_St) := am_lk (g_M_missed_27 x1 x2 σ)
theorem eq_M_missed_27 (x1 : Int32) (x2 : Int32) (σ : am_St) : f_M_missed_27 x1 x2 σ = g_M_missed_27 x1 x2 σ := am_lk_eq _
set_option maxRecDepth 100000 in
set_option maxHeartbeats 4000000 in
theorem s_M_missed_27 (G : am_G) (x1 : Int32) (x2 : Int32) (σ : am_St) (r : Int64 × am_St) (Q : am_AQ) (e : f_M_missed_27 x1 x2 σ = some r) (hr : am_Pl r Q) : am_AW G M_M_missed 27 [(2, .int x2), (1, .int x1), (0, .ref 66)] [] σ Q :=
  (show am_Snd G M_M_missed 27 am_Pl _ from (sn_bipush (pc := 27) (v := (-2)) dX12_missed_27 (show (Int8.ofInt (-2)).toInt32 = (-2) by decide) (sn_goto (pc := 29) (tgt := 33) dX12_missed_29 rfl (sn_lf (pc := 33) (ln_a (i := 0) (q := 66) (ln_i (i := 1) (fun z0 => (ln_i (i := 2) (fun z1 => (ln_si (fun w0 => (ln_end (o := fun τ => f_M_missed_33 z0 z1 w0 τ) (fun _ _ _ e h => s_M_missed_33 G z0 z1 w0 _ _ _ e h))))))))))))) _ _ _ _ _ ((eq_M_missed_27 x1 x2 σ).symm.trans e) hr
noncomputable def g_M_missed_32 (x1 : Int32) (x2 : Int32) (x3 : Int32) (σ : am_St) : Option (Int64 × am_St) :=
  f_M_missed_33 x1 x2 x3 σ
noncomputable def f_M_missed_32 (x1 : Int32) (x2 : Int32) (x3 : Int32) (σ : am_St) : Option (Int64 × am_St) := am_lk (g_M_missed_32 x1 x2 x3 σ)
theorem eq_M_missed_32 (x1 : Int32) (x2 : Int32) (x3 : Int32) (σ : am_St) : f_M_missed_32 x1 x2 x3 σ = g_M_missed_32 x1 x2 x3 σ := am_lk_eq _
set_option maxRecDepth 100000 in
set_option maxHeartbeats 4000000 in
theorem s_M_missed_32 (G : am_G) (x1 : Int32) (x2 : Int32) (x3 : Int32) (σ : am_St) (r : Int64 × am_St) (Q : am_AQ) (e : f_M_missed_32 x1 x2 x3 σ = some r) (hr : am_Pl r Q) : am_AW G M_M_missed 32 [(3, .int x3), (2, .int x2), (1, .int x1), (0, .ref 66)] [] σ Q :=
  (show am_Snd G M_M_missed 32 am_Pl _ from (sn_iload_n (pc := 32) (i := 3) dX12_missed_32 rfl (sn_lf (pc := 33) (ln_a (i := 0) (q := 66) (ln_i (i := 1) (fun z0 => (ln_i (i := 2) (fun z1 => (ln_si (fun w0 => (ln_end (o := fun τ => f_M_missed_33 z0 z1 w0 τ) (fun _ _ _ e h => s_M_missed_33 G z0 z1 w0 _ _ _ e h)))))))))))) _ _ _ _ _ ((eq_M_missed_32 x1 x2 x3 σ).symm.trans e) hr
noncomputable def g_M_missed (x1 : Int32) (x2 : Int32) (σ : am_St) : Option (Int64 × am_St) :=
  let s1 := am_sI σ 66 22 0
  (f_M_wrongNumber x1 0 10 s1).bind (fun p2 =>
    if p2.1 = 0 then
      (f_M_in x2.toInt64 0 1 p2.2).bind (fun p3 =>
        if p3.1 = 0 then
          f_M_missed_27 x1 x2 p3.2
        else
          f_M_missed_32 x1 x2 p2.1 p3.2)
    else
      f_M_missed_32 x1 x2 p2.1 p2.2)
noncomputable def f_M_missed (x1 : Int32) (x2 : Int32) (σ : am_St) : Option (Int64 × am_St) := am_lk (g_M_missed x1 x2 σ)
theorem eq_M_missed (x1 : Int32) (x2 : Int32) (σ : am_St) : f_M_missed x1 x2 σ = g_M_missed x1 x2 σ := am_lk_eq _
set_option maxRecDepth 100000 in
set_option maxHeartbeats 4000000 in
theorem s_M_missed (G : am_G) (x1 : Int32) (x2 : Int32) (σ : am_St) (r : Int64 × am_St) (Q : am_AQ) (e : f_M_missed x1 x2 σ = some r) (hr : am_Pl r Q) : am_AW G M_M_missed 0 [(0, .ref 66), (1, .int x1), (2, .int x2)] [] σ Q :=
  (show am_Snd G M_M_missed 0 am_Pl _ from (sn_aload_n (pc := 0) (i := 0) dX12_missed_0 rfl (sn_iconst (pc := 1) (v := 0) dX12_missed_1 rfl (sn_pI (pc := 2) (h := 66) (f := 22) dX12_missed_2 am_CL_11 sh_66 rfl (Nat.le_of_ble_eq_true rfl) tw_963 rfl rfl (sn_iload_n (pc := 5) (i := 1) dX12_missed_5 rfl (sn_iconst (pc := 6) (v := 0) dX12_missed_6 rfl (sn_bipush (pc := 7) (v := 10) dX12_missed_7 rfl (sn_callS (pc := 9) (N := M_M_wrongNumber) dX12_missed_9 (cal_M_wrongNumber G) tw_1250 tw_1251 tw_12 tw_1252 dsc_X12_wrongNumber rfl (sn_istore_n (pc := 12) (i := 3) dX12_missed_12 rfl (Nat.le_of_ble_eq_true rfl) (sn_iload_n (pc := 13) (i := 3) dX12_missed_13 rfl (sn_if_ne (pc := 14) (tgt := 32) dX12_missed_14 rfl (sn_lf (pc := 32) (ln_a (i := 0) (q := 66) (ln_i (i := 1) (fun z0 => (ln_i (i := 2) (fun z1 => (ln_i (i := 3) (fun z2 => (ln_end (o := fun τ => f_M_missed_32 z0 z1 z2 τ) (fun _ _ _ e h => s_M_missed_32 G z0 z1 z2 _ _ _ e h)))))))))) (sn_iload_n (pc := 17) (i := 2) dX12_missed_17 rfl (sn_i2l (pc := 18) dX12_missed_18 (sn_lconst (pc := 19) (v := 0) dX12_missed_19 rfl (sn_lconst (pc := 20) (v := 1) dX12_missed_20 rfl (sn_callS (pc := 21) (N := M_M_in) dX12_missed_21 (cal_M_in G) tw_1116 tw_1117 tw_12 tw_1118 dsc_X12_in rfl (sn_if_ne (pc := 24) (tgt := 32) dX12_missed_24 rfl (sn_lf (pc := 32) (ln_a (i := 0) (q := 66) (ln_i (i := 1) (fun z0 => (ln_i (i := 2) (fun z1 => (ln_i (i := 3) (fun z2 => (ln_end (o := fun τ => f_M_missed_32 z0 z1 z2 τ) (fun _ _ _ e h => s_M_missed_32 G z0 z1 z2 _ _ _ e h)))))))))) (sn_lf (pc := 27) (ln_a (i := 0) (q := 66) (ln_i (i := 1) (fun z0 => (ln_i (i := 2) (fun z1 => (ln_end (o := fun τ => f_M_missed_27 z0 z1 τ) (fun _ _ _ e h => s_M_missed_27 G z0 z1 _ _ _ e h))))))))))))))))))))))))) _ _ _ _ _ ((eq_M_missed x1 x2 σ).symm.trans e) hr
noncomputable def cF_M_missed : am_Fn := fun _ args σ K => match args with
  | [.ref q0, .int z1, .int z2] => match Nat.beq q0 66 with
    | true => (f_M_missed z1 z2 σ).bind (fun p => K (some (.long p.1)) p.2)
    | _ => none
  | _ => none
theorem cal_M_missed (G : am_G) : am_Cal G M_M_missed cF_M_missed := by
  intro ρ args σ K r e
  unfold cF_M_missed at e
  split at e
  · split at e
    · rename_i hq0
      obtain ⟨p, h1, h2⟩ := am_bind_some e
      rw [Nat.eq_of_beq_eq_true hq0]
      exact ⟨some (.long p.1), p.2, am_Met.of rfl (Nat.le_of_ble_eq_true rfl) (s_M_missed G _ _ σ p _ h1 ⟨rfl, rfl⟩), h2⟩
    · cases e
  · cases e
abbrev M_M_learn : am_MD := (yX12_learn, cX12_learn, 10, (some .int), 7, 161)
theorem dX12_learn_0 : decode cX12_learn 0 = .ok (.aload_n 0, 1) := by decide +kernel
theorem dX12_learn_1 : decode cX12_learn 1 = .ok (.iconst 0, 1) := by decide +kernel
theorem dX12_learn_2 : decode cX12_learn 2 = .ok (.putfield 102, 3) := by decide +kernel
theorem dX12_learn_5 : decode cX12_learn 5 = .ok (.iload_n 1, 1) := by decide +kernel
theorem dX12_learn_6 : decode cX12_learn 6 = .ok (.iconst 1, 1) := by decide +kernel
theorem dX12_learn_7 : decode cX12_learn 7 = .ok (.if_icmp .lt 7, 3) := by decide +kernel
theorem dX12_learn_10 : decode cX12_learn 10 = .ok (.iload_n 3, 1) := by decide +kernel
theorem dX12_learn_11 : decode cX12_learn 11 = .ok (.ifCond .ge 8, 3) := by decide +kernel
theorem dX12_learn_14 : decode cX12_learn 14 = .ok (.bipush (-4), 2) := by decide +kernel
theorem dX12_learn_16 : decode cX12_learn 16 = .ok (.goto 38, 3) := by decide +kernel
theorem dX12_learn_19 : decode cX12_learn 19 = .ok (.iload_n 1, 1) := by decide +kernel
theorem dX12_learn_20 : decode cX12_learn 20 = .ok (.bipush 20, 2) := by decide +kernel
theorem dX12_learn_22 : decode cX12_learn 22 = .ok (.if_icmp .gt 9, 3) := by decide +kernel
theorem dX12_learn_25 : decode cX12_learn 25 = .ok (.iload_n 3, 1) := by decide +kernel
theorem dX12_learn_26 : decode cX12_learn 26 = .ok (.bipush 99, 2) := by decide +kernel
theorem dX12_learn_28 : decode cX12_learn 28 = .ok (.if_icmp .le 8, 3) := by decide +kernel
theorem dX12_learn_31 : decode cX12_learn 31 = .ok (.bipush (-6), 2) := by decide +kernel
theorem dX12_learn_33 : decode cX12_learn 33 = .ok (.goto 21, 3) := by decide +kernel
theorem dX12_learn_36 : decode cX12_learn 36 = .ok (.iload_n 2, 1) := by decide +kernel
theorem dX12_learn_37 : decode cX12_learn 37 = .ok (.i2l, 1) := by decide +kernel
theorem dX12_learn_38 : decode cX12_learn 38 = .ok (.lconst 0, 1) := by decide +kernel
theorem dX12_learn_39 : decode cX12_learn 39 = .ok (.ldc2_w 300, 3) := by decide +kernel
theorem dX12_learn_42 : decode cX12_learn 42 = .ok (.invokestatic 108, 3) := by decide +kernel
theorem dX12_learn_45 : decode cX12_learn 45 = .ok (.ifCond .ne 8, 3) := by decide +kernel
theorem dX12_learn_48 : decode cX12_learn 48 = .ok (.bipush (-2), 2) := by decide +kernel
theorem dX12_learn_50 : decode cX12_learn 50 = .ok (.goto 4, 3) := by decide +kernel
theorem dX12_learn_53 : decode cX12_learn 53 = .ok (.iconst 0, 1) := by decide +kernel
theorem dX12_learn_54 : decode cX12_learn 54 = .ok (.istore 4, 2) := by decide +kernel
theorem dX12_learn_56 : decode cX12_learn 56 = .ok (.iload 4, 2) := by decide +kernel
theorem dX12_learn_58 : decode cX12_learn 58 = .ok (.ifCond .ge 10, 3) := by decide +kernel
theorem dX12_learn_61 : decode cX12_learn 61 = .ok (.aload_n 0, 1) := by decide +kernel
theorem dX12_learn_62 : decode cX12_learn 62 = .ok (.iload 4, 2) := by decide +kernel
theorem dX12_learn_64 : decode cX12_learn 64 = .ok (.invokevirtual 154, 3) := by decide +kernel
theorem dX12_learn_67 : decode cX12_learn 67 = .ok (.ireturn, 1) := by decide +kernel
theorem dX12_learn_68 : decode cX12_learn 68 = .ok (.iconst 0, 1) := by decide +kernel
theorem dX12_learn_69 : decode cX12_learn 69 = .ok (.istore 5, 2) := by decide +kernel
theorem dX12_learn_71 : decode cX12_learn 71 = .ok (.iconst 0, 1) := by decide +kernel
theorem dX12_learn_72 : decode cX12_learn 72 = .ok (.istore 6, 2) := by decide +kernel
theorem dX12_learn_74 : decode cX12_learn 74 = .ok (.iload 6, 2) := by decide +kernel
theorem dX12_learn_76 : decode cX12_learn 76 = .ok (.aload_n 0, 1) := by decide +kernel
theorem dX12_learn_77 : decode cX12_learn 77 = .ok (.getfield 105, 3) := by decide +kernel
theorem dX12_learn_80 : decode cX12_learn 80 = .ok (.if_icmp .ge 110, 3) := by decide +kernel
theorem dX12_learn_83 : decode cX12_learn 83 = .ok (.aload_n 0, 1) := by decide +kernel
theorem dX12_learn_84 : decode cX12_learn 84 = .ok (.getfield 96, 3) := by decide +kernel
theorem dX12_learn_87 : decode cX12_learn 87 = .ok (.iload 6, 2) := by decide +kernel
theorem dX12_learn_89 : decode cX12_learn 89 = .ok (.aload_n 0, 1) := by decide +kernel
theorem dX12_learn_90 : decode cX12_learn 90 = .ok (.getfield 29, 3) := by decide +kernel
theorem dX12_learn_93 : decode cX12_learn 93 = .ok (.iload 6, 2) := by decide +kernel
theorem dX12_learn_95 : decode cX12_learn 95 = .ok (.iaload, 1) := by decide +kernel
theorem dX12_learn_96 : decode cX12_learn 96 = .ok (.iastore, 1) := by decide +kernel
theorem dX12_learn_97 : decode cX12_learn 97 = .ok (.aload_n 0, 1) := by decide +kernel
theorem dX12_learn_98 : decode cX12_learn 98 = .ok (.iload 6, 2) := by decide +kernel
theorem dX12_learn_100 : decode cX12_learn 100 = .ok (.iload_n 2, 1) := by decide +kernel
theorem dX12_learn_101 : decode cX12_learn 101 = .ok (.iload_n 3, 1) := by decide +kernel
theorem dX12_learn_102 : decode cX12_learn 102 = .ok (.invokevirtual 337, 3) := by decide +kernel
theorem dX12_learn_105 : decode cX12_learn 105 = .ok (.istore 7, 2) := by decide +kernel
theorem dX12_learn_107 : decode cX12_learn 107 = .ok (.iconst 0, 1) := by decide +kernel
theorem dX12_learn_108 : decode cX12_learn 108 = .ok (.istore 8, 2) := by decide +kernel
theorem dX12_learn_110 : decode cX12_learn 110 = .ok (.iload 8, 2) := by decide +kernel
theorem dX12_learn_112 : decode cX12_learn 112 = .ok (.iload_n 1, 1) := by decide +kernel
theorem dX12_learn_113 : decode cX12_learn 113 = .ok (.if_icmp .ge 59, 3) := by decide +kernel
theorem dX12_learn_116 : decode cX12_learn 116 = .ok (.aload_n 0, 1) := by decide +kernel
theorem dX12_learn_117 : decode cX12_learn 117 = .ok (.getfield 96, 3) := by decide +kernel
theorem dX12_learn_120 : decode cX12_learn 120 = .ok (.iload 6, 2) := by decide +kernel
theorem dX12_learn_122 : decode cX12_learn 122 = .ok (.iaload, 1) := by decide +kernel
theorem dX12_learn_123 : decode cX12_learn 123 = .ok (.iload 7, 2) := by decide +kernel
theorem dX12_learn_125 : decode cX12_learn 125 = .ok (.ifCond .eq 7, 3) := by decide +kernel
theorem dX12_learn_128 : decode cX12_learn 128 = .ok (.iconst (-1), 1) := by decide +kernel
theorem dX12_learn_129 : decode cX12_learn 129 = .ok (.goto 4, 3) := by decide +kernel
theorem dX12_learn_132 : decode cX12_learn 132 = .ok (.iconst 1, 1) := by decide +kernel
theorem dX12_learn_133 : decode cX12_learn 133 = .ok (.iadd, 1) := by decide +kernel
theorem dX12_learn_134 : decode cX12_learn 134 = .ok (.istore 9, 2) := by decide +kernel
theorem dX12_learn_136 : decode cX12_learn 136 = .ok (.aload_n 0, 1) := by decide +kernel
theorem dX12_learn_137 : decode cX12_learn 137 = .ok (.getfield 96, 3) := by decide +kernel
theorem dX12_learn_140 : decode cX12_learn 140 = .ok (.iload 6, 2) := by decide +kernel
theorem dX12_learn_142 : decode cX12_learn 142 = .ok (.iload 9, 2) := by decide +kernel
theorem dX12_learn_144 : decode cX12_learn 144 = .ok (.ifCond .ge 7, 3) := by decide +kernel
theorem dX12_learn_147 : decode cX12_learn 147 = .ok (.iconst 0, 1) := by decide +kernel
theorem dX12_learn_148 : decode cX12_learn 148 = .ok (.goto 17, 3) := by decide +kernel
theorem dX12_learn_151 : decode cX12_learn 151 = .ok (.iload 9, 2) := by decide +kernel
theorem dX12_learn_153 : decode cX12_learn 153 = .ok (.bipush 9, 2) := by decide +kernel
theorem dX12_learn_155 : decode cX12_learn 155 = .ok (.if_icmp .le 8, 3) := by decide +kernel
theorem dX12_learn_158 : decode cX12_learn 158 = .ok (.bipush 9, 2) := by decide +kernel
theorem dX12_learn_160 : decode cX12_learn 160 = .ok (.goto 5, 3) := by decide +kernel
theorem dX12_learn_163 : decode cX12_learn 163 = .ok (.iload 9, 2) := by decide +kernel
theorem dX12_learn_165 : decode cX12_learn 165 = .ok (.iastore, 1) := by decide +kernel
theorem dX12_learn_166 : decode cX12_learn 166 = .ok (.iinc 8 1, 3) := by decide +kernel
theorem dX12_learn_169 : decode cX12_learn 169 = .ok (.goto (-59), 3) := by decide +kernel
theorem dX12_learn_172 : decode cX12_learn 172 = .ok (.iload 5, 2) := by decide +kernel
theorem dX12_learn_174 : decode cX12_learn 174 = .ok (.aload_n 0, 1) := by decide +kernel
theorem dX12_learn_175 : decode cX12_learn 175 = .ok (.getfield 96, 3) := by decide +kernel
theorem dX12_learn_178 : decode cX12_learn 178 = .ok (.iload 6, 2) := by decide +kernel
theorem dX12_learn_180 : decode cX12_learn 180 = .ok (.iaload, 1) := by decide +kernel
theorem dX12_learn_181 : decode cX12_learn 181 = .ok (.iadd, 1) := by decide +kernel
theorem dX12_learn_182 : decode cX12_learn 182 = .ok (.istore 5, 2) := by decide +kernel
theorem dX12_learn_184 : decode cX12_learn 184 = .ok (.iinc 6 1, 3) := by decide +kernel
theorem dX12_learn_187 : decode cX12_learn 187 = .ok (.goto (-113), 3) := by decide +kernel
theorem dX12_learn_190 : decode cX12_learn 190 = .ok (.iload 5, 2) := by decide +kernel
theorem dX12_learn_192 : decode cX12_learn 192 = .ok (.ireturn, 1) := by decide +kernel
abbrev Pl_M_learn_74 (G : am_G) : ((Int32 × Int32 × Int32 × Int32 × Int32 × am_St) ⊕ (Int32 × am_St)) → am_AQ → Prop := am_PL G M_M_learn 74 (fun s : Int32 × Int32 × Int32 × Int32 × Int32 × am_St => [(6, .int s.2.2.2.2.1), (5, .int s.2.2.2.1), (3, .int s.2.2.1), (2, .int s.2.1), (1, .int s.1), (0, .ref 66)]) (fun s => s.2.2.2.2.2) am_Pi
abbrev Pl_M_learn_110 (G : am_G) : ((Int32 × Int32 × Int32 × Int32 × Int32 × Int32 × Int32 × am_St) ⊕ ((Int32 × Int32 × Int32 × Int32 × Int32 × am_St) ⊕ (Int32 × am_St))) → am_AQ → Prop := am_PL G M_M_learn 110 (fun s : Int32 × Int32 × Int32 × Int32 × Int32 × Int32 × Int32 × am_St => [(8, .int s.2.2.2.2.2.2.1), (7, .int s.2.2.2.2.2.1), (6, .int s.2.2.2.2.1), (5, .int s.2.2.2.1), (3, .int s.2.2.1), (2, .int s.2.1), (1, .int s.1), (0, .ref 66)]) (fun s => s.2.2.2.2.2.2.2) (Pl_M_learn_74 G)
noncomputable def g_M_learn_165 (x1 : Int32) (x2 : Int32) (x3 : Int32) (x5 : Int32) (x6 : Int32) (x7 : Int32) (x8 : Int32) (y1 : Int32) (y2 : Int32) (σ : am_St) : Option ((Int32 × Int32 × Int32 × Int32 × Int32 × Int32 × Int32 × am_St) ⊕ ((Int32 × Int32 × Int32 × Int32 × Int32 × am_St) ⊕ (Int32 × am_St))) :=
  if am_ix y1 4 = true then
    let s1 := am_sI σ 93 y1.toNatClampNeg y2
    let v2 := x8 + 1
    some (.inl (x1, x2, x3, x5, x6, x7, v2, s1))
  else none
noncomputable def f_M_learn_165 (x1 : Int32) (x2 : Int32) (x3 : Int32) (x5 : Int32) (x6 : Int32) (x7 : Int32) (x8 : Int32) (y1 : Int32) (y2 : Int32) (σ : am_St) : Option ((Int32 × Int32 × Int32 × Int32 × Int32 × Int32 × Int32 × am_St) ⊕ ((Int32 × Int32 × Int32 × Int32 × Int32 × am_St) ⊕ (Int32 × am_St))) := am_lk (g_M_learn_165 x1 x2 x3 x5 x6 x7 x8 y1 y2 σ)
theorem eq_M_learn_165 (x1 : Int32) (x2 : Int32) (x3 : Int32) (x5 : Int32) (x6 : Int32) (x7 : Int32) (x8 : Int32) (y1 : Int32) (y2 : Int32) (σ : am_St) : f_M_learn_165 x1 x2 x3 x5 x6 x7 x8 y1 y2 σ = g_M_learn_165 x1 x2 x3 x5 x6 x7 x8 y1 y2 σ := am_lk_eq _
set_option maxRecDepth 100000 in
set_option maxHeartbeats 4000000 in
theorem s_M_learn_165 (G : am_G) (x1 : Int32) (x2 : Int32) (x3 : Int32) (x5 : Int32) (x6 : Int32) (x7 : Int32) (x8 : Int32) (y1 : Int32) (y2 : Int32) (σ : am_St) (r : (Int32 × Int32 × Int32 × Int32 × Int32 × Int32 × Int32 × am_St) ⊕ ((Int32 × Int32 × Int32 × Int32 × Int32 × am_St) ⊕ (Int32 × am_St))) (Q : am_AQ) (e : f_M_learn_165 x1 x2 x3 x5 x6 x7 x8 y1 y2 σ = some r) (hr : (Pl_M_learn_110 G) r Q) : am_AW G M_M_learn 165 [(8, .int x8), (7, .int x7), (6, .int x6), (5, .int x5), (3, .int x3), (2, .int x2), (1, .int x1), (0, .ref 66)] [.int y2, .int y1, .ref 93] σ Q :=
  (show am_Snd G M_M_learn 165 (Pl_M_learn_110 G) _ from (sn_sI (pc := 165) (h := 93) dX12_learn_165 sh_93 (sn_iinc (pc := 166) (v := 1) dX12_learn_166 rfl (Nat.le_of_ble_eq_true rfl) (sn_goto (pc := 169) (tgt := 110) dX12_learn_169 rfl (sn_lf (pc := 110) (ln_a (i := 0) (q := 66) (ln_i (i := 1) (fun z0 => (ln_i (i := 2) (fun z1 => (ln_i (i := 3) (fun z2 => (ln_i (i := 5) (fun z3 => (ln_i (i := 6) (fun z4 => (ln_i (i := 7) (fun z5 => (ln_i (i := 8) (fun z6 => (ln_end (o := fun τ => (some (.inl (z0, z1, z2, z3, z4, z5, z6, τ)) : Option ((Int32 × Int32 × Int32 × Int32 × Int32 × Int32 × Int32 × am_St) ⊕ ((Int32 × Int32 × Int32 × Int32 × Int32 × am_St) ⊕ (Int32 × am_St))))) (fun _ _ _ e h => by cases e; exact h)))))))))))))))))))))) _ _ _ _ _ ((eq_M_learn_165 x1 x2 x3 x5 x6 x7 x8 y1 y2 σ).symm.trans e) hr
noncomputable def g_M_learn_133 (x1 : Int32) (x2 : Int32) (x3 : Int32) (x5 : Int32) (x6 : Int32) (x7 : Int32) (x8 : Int32) (y0 : Int32) (y1 : Int32) (σ : am_St) : Option ((Int32 × Int32 × Int32 × Int32 × Int32 × Int32 × Int32 × am_St) ⊕ ((Int32 × Int32 × Int32 × Int32 × Int32 × am_St) ⊕ (Int32 × am_St))) :=
  let v1 := y0 + y1
  if 0 ≤ v1 then
    if v1 ≤ 9 then
      f_M_learn_165 x1 x2 x3 x5 x6 x7 x8 x6 v1 σ
    else
      f_M_learn_165 x1 x2 x3 x5 x6 x7 x8 x6 9 σ
  else
    f_M_learn_165 x1 x2 x3 x5 x6 x7 x8 x6 0 σ
noncomputable def f_M_learn_133 (x1 : Int32) (x2 : Int32) (x3 : Int32) (x5 : Int32) (x6 : Int32) (x7 : Int32) (x8 : Int32) (y0 : Int32) (y1 : Int32) (σ : am_St) : Option ((Int32 × Int32 × Int32 × Int32 × Int32 × Int32 × Int32 × am_St) ⊕ ((Int32 × Int32 × Int32 × Int32 × Int32 × am_St) ⊕ (Int32 × am_St))) := am_lk (g_M_learn_133 x1 x2 x3 x5 x6 x7 x8 y0 y1 σ)
theorem eq_M_learn_133 (x1 : Int32) (x2 : Int32) (x3 : Int32) (x5 : Int32) (x6 : Int32) (x7 : Int32) (x8 : Int32) (y0 : Int32) (y1 : Int32) (σ : am_St) : f_M_learn_133 x1 x2 x3 x5 x6 x7 x8 y0 y1 σ = g_M_learn_133 x1 x2 x3 x5 x6 x7 x8 y0 y1 σ := am_lk_eq _
set_option maxRecDepth 100000 in
set_option maxHeartbeats 4000000 in
theorem s_M_learn_133 (G : am_G) (x1 : Int32) (x2 : Int32) (x3 : Int32) (x5 : Int32) (x6 : Int32) (x7 : Int32) (x8 : Int32) (y0 : Int32) (y1 : Int32) (σ : am_St) (r : (Int32 × Int32 × Int32 × Int32 × Int32 × Int32 × Int32 × am_St) ⊕ ((Int32 × Int32 × Int32 × Int32 × Int32 × am_St) ⊕ (Int32 × am_St))) (Q : am_AQ) (e : f_M_learn_133 x1 x2 x3 x5 x6 x7 x8 y0 y1 σ = some r) (hr : (Pl_M_learn_110 G) r Q) : am_AW G M_M_learn 133 [(8, .int x8), (7, .int x7), (6, .int x6), (5, .int x5), (3, .int x3), (2, .int x2), (1, .int x1), (0, .ref 66)] [.int y1, .int y0] σ Q :=
  (show am_Snd G M_M_learn 133 (Pl_M_learn_110 G) _ from (sn_iadd (pc := 133) dX12_learn_133 (sn_istore (pc := 134) dX12_learn_134 (Nat.le_of_ble_eq_true rfl) (sn_aload_n (pc := 136) (i := 0) dX12_learn_136 rfl (sn_gR (r0 := 93) (pc := 137) (h := 66) (f := 44) dX12_learn_137 am_CL_11 sh_66 rfl (Nat.le_of_ble_eq_true rfl) tw_985 (sn_iload (pc := 140) dX12_learn_140 (sn_iload (pc := 142) dX12_learn_142 (sn_if_ge (pc := 144) (tgt := 151) dX12_learn_144 rfl (sn_iload (pc := 151) dX12_learn_151 (sn_bipush (pc := 153) (v := 9) dX12_learn_153 rfl (sn_icmp_le (pc := 155) (tgt := 163) dX12_learn_155 rfl (sn_iload (pc := 163) dX12_learn_163 (sn_lf (pc := 165) (ln_a (i := 0) (q := 66) (ln_i (i := 1) (fun z0 => (ln_i (i := 2) (fun z1 => (ln_i (i := 3) (fun z2 => (ln_i (i := 5) (fun z3 => (ln_i (i := 6) (fun z4 => (ln_i (i := 7) (fun z5 => (ln_i (i := 8) (fun z6 => (ln_si (fun w2 => (ln_si (fun w1 => (ln_sa (q := 93) (ln_end (o := fun τ => f_M_learn_165 z0 z1 z2 z3 z4 z5 z6 w1 w2 τ) (fun _ _ _ e h => s_M_learn_165 G z0 z1 z2 z3 z4 z5 z6 w1 w2 _ _ _ e h)))))))))))))))))))))))) (sn_bipush (pc := 158) (v := 9) dX12_learn_158 rfl (sn_goto (pc := 160) (tgt := 165) dX12_learn_160 rfl (sn_lf (pc := 165) (ln_a (i := 0) (q := 66) (ln_i (i := 1) (fun z0 => (ln_i (i := 2) (fun z1 => (ln_i (i := 3) (fun z2 => (ln_i (i := 5) (fun z3 => (ln_i (i := 6) (fun z4 => (ln_i (i := 7) (fun z5 => (ln_i (i := 8) (fun z6 => (ln_si (fun w2 => (ln_si (fun w1 => (ln_sa (q := 93) (ln_end (o := fun τ => f_M_learn_165 z0 z1 z2 z3 z4 z5 z6 w1 w2 τ) (fun _ _ _ e h => s_M_learn_165 G z0 z1 z2 z3 z4 z5 z6 w1 w2 _ _ _ e h)))))))))))))))))))))))))))) (sn_iconst (pc := 147) (v := 0) dX12_learn_147 rfl (sn_goto (pc := 148) (tgt := 165) dX12_learn_148 rfl (sn_lf (pc := 165) (ln_a (i := 0) (q := 66) (ln_i (i := 1) (fun z0 => (ln_i (i := 2) (fun z1 => (ln_i (i := 3) (fun z2 => (ln_i (i := 5) (fun z3 => (ln_i (i := 6) (fun z4 => (ln_i (i := 7) (fun z5 => (ln_i (i := 8) (fun z6 => (ln_si (fun w2 => (ln_si (fun w1 => (ln_sa (q := 93) (ln_end (o := fun τ => f_M_learn_165 z0 z1 z2 z3 z4 z5 z6 w1 w2 τ) (fun _ _ _ e h => s_M_learn_165 G z0 z1 z2 z3 z4 z5 z6 w1 w2 _ _ _ e h))))))))))))))))))))))))))))))))) _ _ _ _ _ ((eq_M_learn_133 x1 x2 x3 x5 x6 x7 x8 y0 y1 σ).symm.trans e) hr
noncomputable def b_M_learn_110 (x1 : Int32) (x2 : Int32) (x3 : Int32) (x5 : Int32) (x6 : Int32) (x7 : Int32) (x8 : Int32) (σ : am_St) : Option ((Int32 × Int32 × Int32 × Int32 × Int32 × Int32 × Int32 × am_St) ⊕ ((Int32 × Int32 × Int32 × Int32 × Int32 × am_St) ⊕ (Int32 × am_St))) :=
  if x1 ≤ x8 then
    if am_ix x6 4 = true then
      let v1 := x5 + (σ.1 93 x6.toNatClampNeg)
      let v2 := x6 + 1
      some (.inr (.inl (x1, x2, x3, v1, v2, σ)))
    else none
  else
    if am_ix x6 4 = true then
      if x7 = 0 then
        f_M_learn_133 x1 x2 x3 x5 x6 x7 x8 (σ.1 93 x6.toNatClampNeg) 1 σ
      else
        f_M_learn_133 x1 x2 x3 x5 x6 x7 x8 (σ.1 93 x6.toNatClampNeg) ((-1)) σ
    else none
noncomputable def f_M_learn_110 (x1 : Int32) (x2 : Int32) (x3 : Int32) (x5 : Int32) (x6 : Int32) (x7 : Int32) (x8 : Int32) (σ : am_St) : Option ((Int32 × Int32 × Int32 × Int32 × Int32 × am_St) ⊕ (Int32 × am_St)) := am_lp (fun s : Int32 × Int32 × Int32 × Int32 × Int32 × Int32 × Int32 × am_St => b_M_learn_110 s.1 s.2.1 s.2.2.1 s.2.2.2.1 s.2.2.2.2.1 s.2.2.2.2.2.1 s.2.2.2.2.2.2.1 s.2.2.2.2.2.2.2) (x1, x2, x3, x5, x6, x7, x8, σ)
set_option maxRecDepth 100000 in
set_option maxHeartbeats 4000000 in
theorem sb_M_learn_110 (G : am_G) (x1 : Int32) (x2 : Int32) (x3 : Int32) (x5 : Int32) (x6 : Int32) (x7 : Int32) (x8 : Int32) (σ : am_St) (r : (Int32 × Int32 × Int32 × Int32 × Int32 × Int32 × Int32 × am_St) ⊕ ((Int32 × Int32 × Int32 × Int32 × Int32 × am_St) ⊕ (Int32 × am_St))) (Q : am_AQ) (e : b_M_learn_110 x1 x2 x3 x5 x6 x7 x8 σ = some r) (hr : Pl_M_learn_110 G r Q) : am_AW G M_M_learn 110 [(8, .int x8), (7, .int x7), (6, .int x6), (5, .int x5), (3, .int x3), (2, .int x2), (1, .int x1), (0, .ref 66)] [] σ Q :=
  (show am_Snd G M_M_learn 110 (Pl_M_learn_110 G) _ from (sn_iload (pc := 110) dX12_learn_110 (sn_iload_n (pc := 112) (i := 1) dX12_learn_112 rfl (sn_icmp_ge (pc := 113) (tgt := 172) dX12_learn_113 rfl (sn_iload (pc := 172) dX12_learn_172 (sn_aload_n (pc := 174) (i := 0) dX12_learn_174 rfl (sn_gR (r0 := 93) (pc := 175) (h := 66) (f := 44) dX12_learn_175 am_CL_11 sh_66 rfl (Nat.le_of_ble_eq_true rfl) tw_985 (sn_iload (pc := 178) dX12_learn_178 (sn_aI (pc := 180) (h := 93) dX12_learn_180 sh_93 (sn_iadd (pc := 181) dX12_learn_181 (sn_istore (pc := 182) dX12_learn_182 (Nat.le_of_ble_eq_true rfl) (sn_iinc (pc := 184) (v := 1) dX12_learn_184 rfl (Nat.le_of_ble_eq_true rfl) (sn_goto (pc := 187) (tgt := 74) dX12_learn_187 rfl (sn_lf (pc := 74) (ln_a (i := 0) (q := 66) (ln_i (i := 1) (fun z0 => (ln_i (i := 2) (fun z1 => (ln_i (i := 3) (fun z2 => (ln_i (i := 5) (fun z3 => (ln_i (i := 6) (fun z4 => (ln_end (o := fun τ => (some (.inr (.inl (z0, z1, z2, z3, z4, τ))) : Option ((Int32 × Int32 × Int32 × Int32 × Int32 × Int32 × Int32 × am_St) ⊕ ((Int32 × Int32 × Int32 × Int32 × Int32 × am_St) ⊕ (Int32 × am_St))))) (fun _ _ _ e h => by cases e; exact h))))))))))))))))))))))) (sn_aload_n (pc := 116) (i := 0) dX12_learn_116 rfl (sn_gR (r0 := 93) (pc := 117) (h := 66) (f := 44) dX12_learn_117 am_CL_11 sh_66 rfl (Nat.le_of_ble_eq_true rfl) tw_985 (sn_iload (pc := 120) dX12_learn_120 (sn_aI (pc := 122) (h := 93) dX12_learn_122 sh_93 (sn_iload (pc := 123) dX12_learn_123 (sn_if_eq (pc := 125) (tgt := 132) dX12_learn_125 rfl (sn_iconst (pc := 132) (v := 1) dX12_learn_132 rfl (sn_lf (pc := 133) (ln_a (i := 0) (q := 66) (ln_i (i := 1) (fun z0 => (ln_i (i := 2) (fun z1 => (ln_i (i := 3) (fun z2 => (ln_i (i := 5) (fun z3 => (ln_i (i := 6) (fun z4 => (ln_i (i := 7) (fun z5 => (ln_i (i := 8) (fun z6 => (ln_si (fun w1 => (ln_si (fun w0 => (ln_end (o := fun τ => f_M_learn_133 z0 z1 z2 z3 z4 z5 z6 w0 w1 τ) (fun _ _ _ e h => s_M_learn_133 G z0 z1 z2 z3 z4 z5 z6 w0 w1 _ _ _ e h))))))))))))))))))))))) (sn_iconst (pc := 128) (v := (-1)) dX12_learn_128 (show Int32.ofInt (-1) = (-1) by decide) (sn_goto (pc := 129) (tgt := 133) dX12_learn_129 rfl (sn_lf (pc := 133) (ln_a (i := 0) (q := 66) (ln_i (i := 1) (fun z0 => (ln_i (i := 2) (fun z1 => (ln_i (i := 3) (fun z2 => (ln_i (i := 5) (fun z3 => (ln_i (i := 6) (fun z4 => (ln_i (i := 7) (fun z5 => (ln_i (i := 8) (fun z6 => (ln_si (fun w1 => (ln_si (fun w0 => (ln_end (o := fun τ => f_M_learn_133 z0 z1 z2 z3 z4 z5 z6 w0 w1 τ) (fun _ _ _ e h => s_M_learn_133 G z0 z1 z2 z3 z4 z5 z6 w0 w1 _ _ _ e h)))))))))))))))))))))))))))))))))) _ _ _ _ _ e hr
theorem s_M_learn_110 (G : am_G) (x1 : Int32) (x2 : Int32) (x3 : Int32) (x5 : Int32) (x6 : Int32) (x7 : Int32) (x8 : Int32) (σ : am_St) (r : (Int32 × Int32 × Int32 × Int32 × Int32 × am_St) ⊕ (Int32 × am_St)) (Q : am_AQ) (e : f_M_learn_110 x1 x2 x3 x5 x6 x7 x8 σ = some r) (hr : (Pl_M_learn_74 G) r Q) : am_AW G M_M_learn 110 [(8, .int x8), (7, .int x7), (6, .int x6), (5, .int x5), (3, .int x3), (2, .int x2), (1, .int x1), (0, .ref 66)] [] σ Q :=
  am_loop (P := (Pl_M_learn_74 G)) (L := fun s : Int32 × Int32 × Int32 × Int32 × Int32 × Int32 × Int32 × am_St => [(8, .int s.2.2.2.2.2.2.1), (7, .int s.2.2.2.2.2.1), (6, .int s.2.2.2.2.1), (5, .int s.2.2.2.1), (3, .int s.2.2.1), (2, .int s.2.1), (1, .int s.1), (0, .ref 66)]) (g := fun s => s.2.2.2.2.2.2.2) (fun s o Q e hr => sb_M_learn_110 G s.1 s.2.1 s.2.2.1 s.2.2.2.1 s.2.2.2.2.1 s.2.2.2.2.2.1 s.2.2.2.2.2.2.1 s.2.2.2.2.2.2.2 o Q e hr) (x1, x2, x3, x5, x6, x7, x8, σ) r Q e hr
noncomputable def b_M_learn_74 (x1 : Int32) (x2 : Int32) (x3 : Int32) (x5 : Int32) (x6 : Int32) (σ : am_St) : Option ((Int32 × Int32 × Int32 × Int32 × Int32 × am_St) ⊕ (Int32 × am_St)) :=
  if (σ.1 66 2) ≤ x6 then
    some (.inr ((x5, σ)))
  else
    if am_ix x6 4 = true then
      if am_ix x6 4 = true then
        let s1 := am_sI σ 93 x6.toNatClampNeg (σ.1 71 x6.toNatClampNeg)
        (f_M_ownsUp x6 x2 x3 s1).bind (fun p2 =>
          f_M_learn_110 x1 x2 x3 x5 x6 p2.1 0 p2.2)
      else none
    else none
noncomputable def f_M_learn_74 (x1 : Int32) (x2 : Int32) (x3 : Int32) (x5 : Int32) (x6 : Int32) (σ : am_St) : Option (Int32 × am_St) := am_lp (fun s : Int32 × Int32 × Int32 × Int32 × Int32 × am_St => b_M_learn_74 s.1 s.2.1 s.2.2.1 s.2.2.2.1 s.2.2.2.2.1 s.2.2.2.2.2) (x1, x2, x3, x5, x6, σ)
set_option maxRecDepth 100000 in
set_option maxHeartbeats 4000000 in
theorem sb_M_learn_74 (G : am_G) (x1 : Int32) (x2 : Int32) (x3 : Int32) (x5 : Int32) (x6 : Int32) (σ : am_St) (r : (Int32 × Int32 × Int32 × Int32 × Int32 × am_St) ⊕ (Int32 × am_St)) (Q : am_AQ) (e : b_M_learn_74 x1 x2 x3 x5 x6 σ = some r) (hr : Pl_M_learn_74 G r Q) : am_AW G M_M_learn 74 [(6, .int x6), (5, .int x5), (3, .int x3), (2, .int x2), (1, .int x1), (0, .ref 66)] [] σ Q :=
  (show am_Snd G M_M_learn 74 (Pl_M_learn_74 G) _ from (sn_iload (pc := 74) dX12_learn_74 (sn_aload_n (pc := 76) (i := 0) dX12_learn_76 rfl (sn_gI (pc := 77) (h := 66) (f := 2) dX12_learn_77 am_CL_11 sh_66 rfl (Nat.le_of_ble_eq_true rfl) tw_943 (sn_icmp_ge (pc := 80) (tgt := 190) dX12_learn_80 rfl (sn_iload (pc := 190) dX12_learn_190 (sn_reti (pc := 192) (R := fun x τ => (some (.inr ((x, τ))) : Option ((Int32 × Int32 × Int32 × Int32 × Int32 × am_St) ⊕ (Int32 × am_St)))) dX12_learn_192 rfl (fun _ _ _ _ e h => by cases e; exact h))) (sn_aload_n (pc := 83) (i := 0) dX12_learn_83 rfl (sn_gR (r0 := 93) (pc := 84) (h := 66) (f := 44) dX12_learn_84 am_CL_11 sh_66 rfl (Nat.le_of_ble_eq_true rfl) tw_985 (sn_iload (pc := 87) dX12_learn_87 (sn_aload_n (pc := 89) (i := 0) dX12_learn_89 rfl (sn_gR (r0 := 71) (pc := 90) (h := 66) (f := 11) dX12_learn_90 am_CL_11 sh_66 rfl (Nat.le_of_ble_eq_true rfl) tw_952 (sn_iload (pc := 93) dX12_learn_93 (sn_aI (pc := 95) (h := 71) dX12_learn_95 sh_71 (sn_sI (pc := 96) (h := 93) dX12_learn_96 sh_93 (sn_aload_n (pc := 97) (i := 0) dX12_learn_97 rfl (sn_iload (pc := 98) dX12_learn_98 (sn_iload_n (pc := 100) (i := 2) dX12_learn_100 rfl (sn_iload_n (pc := 101) (i := 3) dX12_learn_101 rfl (sn_callV (pc := 102) (N := M_M_ownsUp) dX12_learn_102 (cal_M_ownsUp G) sh_66 rfl tw_1400 tw_1402 tp_67 tw_12 tw_1403 dsc_X12_ownsUp rfl (sn_istore (pc := 105) dX12_learn_105 (Nat.le_of_ble_eq_true rfl) (sn_iconst (pc := 107) (v := 0) dX12_learn_107 rfl (sn_istore (pc := 108) dX12_learn_108 (Nat.le_of_ble_eq_true rfl) (sn_lf (pc := 110) (ln_a (i := 0) (q := 66) (ln_i (i := 1) (fun z0 => (ln_i (i := 2) (fun z1 => (ln_i (i := 3) (fun z2 => (ln_i (i := 5) (fun z3 => (ln_i (i := 6) (fun z4 => (ln_i (i := 7) (fun z5 => (ln_i (i := 8) (fun z6 => (ln_end (o := fun τ => f_M_learn_110 z0 z1 z2 z3 z4 z5 z6 τ) (fun _ _ _ e h => s_M_learn_110 G z0 z1 z2 z3 z4 z5 z6 _ _ _ e h))))))))))))))))))))))))))))))))))))))) _ _ _ _ _ e hr
theorem s_M_learn_74 (G : am_G) (x1 : Int32) (x2 : Int32) (x3 : Int32) (x5 : Int32) (x6 : Int32) (σ : am_St) (r : Int32 × am_St) (Q : am_AQ) (e : f_M_learn_74 x1 x2 x3 x5 x6 σ = some r) (hr : am_Pi r Q) : am_AW G M_M_learn 74 [(6, .int x6), (5, .int x5), (3, .int x3), (2, .int x2), (1, .int x1), (0, .ref 66)] [] σ Q :=
  am_loop (P := am_Pi) (L := fun s : Int32 × Int32 × Int32 × Int32 × Int32 × am_St => [(6, .int s.2.2.2.2.1), (5, .int s.2.2.2.1), (3, .int s.2.2.1), (2, .int s.2.1), (1, .int s.1), (0, .ref 66)]) (g := fun s => s.2.2.2.2.2) (fun s o Q e hr => sb_M_learn_74 G s.1 s.2.1 s.2.2.1 s.2.2.2.1 s.2.2.2.2.1 s.2.2.2.2.2 o Q e hr) (x1, x2, x3, x5, x6, σ) r Q e hr
noncomputable def g_M_learn_54 (x1 : Int32) (x2 : Int32) (x3 : Int32) (y0 : Int32) (σ : am_St) : Option (Int32 × am_St) :=
  if 0 ≤ y0 then
    f_M_learn_74 x1 x2 x3 0 0 σ
  else
    (f_M_refuse y0 σ).bind (fun p1 =>
      some ((p1.1, p1.2)))
noncomputable def f_M_learn_54 (x1 : Int32) (x2 : Int32) (x3 : Int32) (y0 : Int32) (σ : am_St) : Option (Int32 × am_St) := am_lk (g_M_learn_54 x1 x2 x3 y0 σ)
theorem eq_M_learn_54 (x1 : Int32) (x2 : Int32) (x3 : Int32) (y0 : Int32) (σ : am_St) : f_M_learn_54 x1 x2 x3 y0 σ = g_M_learn_54 x1 x2 x3 y0 σ := am_lk_eq _
set_option maxRecDepth 100000 in
set_option maxHeartbeats 4000000 in
theorem s_M_learn_54 (G : am_G) (x1 : Int32) (x2 : Int32) (x3 : Int32) (y0 : Int32) (σ : am_St) (r : Int32 × am_St) (Q : am_AQ) (e : f_M_learn_54 x1 x2 x3 y0 σ = some r) (hr : am_Pi r Q) : am_AW G M_M_learn 54 [(3, .int x3), (2, .int x2), (1, .int x1), (0, .ref 66)] [.int y0] σ Q :=
  (show am_Snd G M_M_learn 54 am_Pi _ from (sn_istore (pc := 54) dX12_learn_54 (Nat.le_of_ble_eq_true rfl) (sn_iload (pc := 56) dX12_learn_56 (sn_if_ge (pc := 58) (tgt := 68) dX12_learn_58 rfl (sn_iconst (pc := 68) (v := 0) dX12_learn_68 rfl (sn_istore (pc := 69) dX12_learn_69 (Nat.le_of_ble_eq_true rfl) (sn_iconst (pc := 71) (v := 0) dX12_learn_71 rfl (sn_istore (pc := 72) dX12_learn_72 (Nat.le_of_ble_eq_true rfl) (sn_lf (pc := 74) (ln_a (i := 0) (q := 66) (ln_i (i := 1) (fun z0 => (ln_i (i := 2) (fun z1 => (ln_i (i := 3) (fun z2 => (ln_i (i := 5) (fun z3 => (ln_i (i := 6) (fun z4 => (ln_end (o := fun τ => f_M_learn_74 z0 z1 z2 z3 z4 τ) (fun _ _ _ e h => s_M_learn_74 G z0 z1 z2 z3 z4 _ _ _ e h)))))))))))))))))) (sn_aload_n (pc := 61) (i := 0) dX12_learn_61 rfl (sn_iload (pc := 62) dX12_learn_62 (sn_callV (pc := 64) (N := M_M_refuse) dX12_learn_64 (cal_M_refuse G) sh_66 rfl tw_1090 tw_1092 tp_23 tw_12 tw_1093 dsc_X12_refuse rfl (sn_reti (pc := 67) (R := fun x τ => (some ((x, τ)))) dX12_learn_67 rfl (fun _ _ _ _ e h => by cases e; exact h))))))))) _ _ _ _ _ ((eq_M_learn_54 x1 x2 x3 y0 σ).symm.trans e) hr
noncomputable def g_M_learn_14 (x1 : Int32) (x2 : Int32) (x3 : Int32) (σ : am_St) : Option (Int32 × am_St) :=
  f_M_learn_54 x1 x2 x3 ((-4)) σ
noncomputable def f_M_learn_14 (x1 : Int32) (x2 : Int32) (x3 : Int32) (σ : am_St) : Option (Int32 × am_St) := am_lk (g_M_learn_14 x1 x2 x3 σ)
theorem eq_M_learn_14 (x1 : Int32) (x2 : Int32) (x3 : Int32) (σ : am_St) : f_M_learn_14 x1 x2 x3 σ = g_M_learn_14 x1 x2 x3 σ := am_lk_eq _
set_option maxRecDepth 100000 in
set_option maxHeartbeats 4000000 in
theorem s_M_learn_14 (G : am_G) (x1 : Int32) (x2 : Int32) (x3 : Int32) (σ : am_St) (r : Int32 × am_St) (Q : am_AQ) (e : f_M_learn_14 x1 x2 x3 σ = some r) (hr : am_Pi r Q) : am_AW G M_M_learn 14 [(3, .int x3), (2, .int x2), (1, .int x1), (0, .ref 66)] [] σ Q :=
  (show am_Snd G M_M_learn 14 am_Pi _ from (sn_bipush (pc := 14) (v := (-4)) dX12_learn_14 (show (Int8.ofInt (-4)).toInt32 = (-4) by decide) (sn_goto (pc := 16) (tgt := 54) dX12_learn_16 rfl (sn_lf (pc := 54) (ln_a (i := 0) (q := 66) (ln_i (i := 1) (fun z0 => (ln_i (i := 2) (fun z1 => (ln_i (i := 3) (fun z2 => (ln_si (fun w0 => (ln_end (o := fun τ => f_M_learn_54 z0 z1 z2 w0 τ) (fun _ _ _ e h => s_M_learn_54 G z0 z1 z2 w0 _ _ _ e h))))))))))))))) _ _ _ _ _ ((eq_M_learn_14 x1 x2 x3 σ).symm.trans e) hr
noncomputable def g_M_learn_31 (x1 : Int32) (x2 : Int32) (x3 : Int32) (σ : am_St) : Option (Int32 × am_St) :=
  f_M_learn_54 x1 x2 x3 ((-6)) σ
noncomputable def f_M_learn_31 (x1 : Int32) (x2 : Int32) (x3 : Int32) (σ : am_St) : Option (Int32 × am_St) := am_lk (g_M_learn_31 x1 x2 x3 σ)
theorem eq_M_learn_31 (x1 : Int32) (x2 : Int32) (x3 : Int32) (σ : am_St) : f_M_learn_31 x1 x2 x3 σ = g_M_learn_31 x1 x2 x3 σ := am_lk_eq _
set_option maxRecDepth 100000 in
set_option maxHeartbeats 4000000 in
theorem s_M_learn_31 (G : am_G) (x1 : Int32) (x2 : Int32) (x3 : Int32) (σ : am_St) (r : Int32 × am_St) (Q : am_AQ) (e : f_M_learn_31 x1 x2 x3 σ = some r) (hr : am_Pi r Q) : am_AW G M_M_learn 31 [(3, .int x3), (2, .int x2), (1, .int x1), (0, .ref 66)] [] σ Q :=
  (show am_Snd G M_M_learn 31 am_Pi _ from (sn_bipush (pc := 31) (v := (-6)) dX12_learn_31 (show (Int8.ofInt (-6)).toInt32 = (-6) by decide) (sn_goto (pc := 33) (tgt := 54) dX12_learn_33 rfl (sn_lf (pc := 54) (ln_a (i := 0) (q := 66) (ln_i (i := 1) (fun z0 => (ln_i (i := 2) (fun z1 => (ln_i (i := 3) (fun z2 => (ln_si (fun w0 => (ln_end (o := fun τ => f_M_learn_54 z0 z1 z2 w0 τ) (fun _ _ _ e h => s_M_learn_54 G z0 z1 z2 w0 _ _ _ e h))))))))))))))) _ _ _ _ _ ((eq_M_learn_31 x1 x2 x3 σ).symm.trans e) hr
noncomputable def g_M_learn_48 (x1 : Int32) (x2 : Int32) (x3 : Int32) (σ : am_St) : Option (Int32 × am_St) :=
  f_M_learn_54 x1 x2 x3 ((-2)) σ
noncomputable def f_M_learn_48 (x1 : Int32) (x2 : Int32) (x3 : Int32) (σ : am_St) : Option (Int32 × am_St) := am_lk (g_M_learn_48 x1 x2 x3 σ)
theorem eq_M_learn_48 (x1 : Int32) (x2 : Int32) (x3 : Int32) (σ : am_St) : f_M_learn_48 x1 x2 x3 σ = g_M_learn_48 x1 x2 x3 σ := am_lk_eq _
set_option maxRecDepth 100000 in
set_option maxHeartbeats 4000000 in
theorem s_M_learn_48 (G : am_G) (x1 : Int32) (x2 : Int32) (x3 : Int32) (σ : am_St) (r : Int32 × am_St) (Q : am_AQ) (e : f_M_learn_48 x1 x2 x3 σ = some r) (hr : am_Pi r Q) : am_AW G M_M_learn 48 [(3, .int x3), (2, .int x2), (1, .int x1), (0, .ref 66)] [] σ Q :=
  (show am_Snd G M_M_learn 48 am_Pi _ from (sn_bipush (pc := 48) (v := (-2)) dX12_learn_48 (show (Int8.ofInt (-2)).toInt32 = (-2) by decide) (sn_goto (pc := 50) (tgt := 54) dX12_learn_50 rfl (sn_lf (pc := 54) (ln_a (i := 0) (q := 66) (ln_i (i := 1) (fun z0 => (ln_i (i := 2) (fun z1 => (ln_i (i := 3) (fun z2 => (ln_si (fun w0 => (ln_end (o := fun τ => f_M_learn_54 z0 z1 z2 w0 τ) (fun _ _ _ e h => s_M_learn_54 G z0 z1 z2 w0 _ _ _ e h))))))))))))))) _ _ _ _ _ ((eq_M_learn_48 x1 x2 x3 σ).symm.trans e) hr
noncomputable def g_M_learn_53 (x1 : Int32) (x2 : Int32) (x3 : Int32) (σ : am_St) : Option (Int32 × am_St) :=
  f_M_learn_54 x1 x2 x3 0 σ
noncomputable def f_M_learn_53 (x1 : Int32) (x2 : Int32) (x3 : Int32) (σ : am_St) : Option (Int32 × am_St) := am_lk (g_M_learn_53 x1 x2 x3 σ)
theorem eq_M_learn_53 (x1 : Int32) (x2 : Int32) (x3 : Int32) (σ : am_St) : f_M_learn_53 x1 x2 x3 σ = g_M_learn_53 x1 x2 x3 σ := am_lk_eq _
set_option maxRecDepth 100000 in
set_option maxHeartbeats 4000000 in
theorem s_M_learn_53 (G : am_G) (x1 : Int32) (x2 : Int32) (x3 : Int32) (σ : am_St) (r : Int32 × am_St) (Q : am_AQ) (e : f_M_learn_53 x1 x2 x3 σ = some r) (hr : am_Pi r Q) : am_AW G M_M_learn 53 [(3, .int x3), (2, .int x2), (1, .int x1), (0, .ref 66)] [] σ Q :=
  (show am_Snd G M_M_learn 53 am_Pi _ from (sn_iconst (pc := 53) (v := 0) dX12_learn_53 rfl (sn_lf (pc := 54) (ln_a (i := 0) (q := 66) (ln_i (i := 1) (fun z0 => (ln_i (i := 2) (fun z1 => (ln_i (i := 3) (fun z2 => (ln_si (fun w0 => (ln_end (o := fun τ => f_M_learn_54 z0 z1 z2 w0 τ) (fun _ _ _ e h => s_M_learn_54 G z0 z1 z2 w0 _ _ _ e h)))))))))))))) _ _ _ _ _ ((eq_M_learn_53 x1 x2 x3 σ).symm.trans e) hr
noncomputable def g_M_learn (x1 : Int32) (x2 : Int32) (x3 : Int32) (σ : am_St) : Option (Int32 × am_St) :=
  let s1 := am_sI σ 66 22 0
  if x1 < 1 then
    f_M_learn_14 x1 x2 x3 s1
  else
    if 0 ≤ x3 then
      if 20 < x1 then
        f_M_learn_31 x1 x2 x3 s1
      else
        if x3 ≤ 99 then
          (f_M_in x2.toInt64 0 3 s1).bind (fun p2 =>
            if p2.1 = 0 then
              f_M_learn_48 x1 x2 x3 p2.2
            else
              f_M_learn_53 x1 x2 x3 p2.2)
        else
          f_M_learn_31 x1 x2 x3 s1
    else
      f_M_learn_14 x1 x2 x3 s1
noncomputable def f_M_learn (x1 : Int32) (x2 : Int32) (x3 : Int32) (σ : am_St) : Option (Int32 × am_St) := am_lk (g_M_learn x1 x2 x3 σ)
theorem eq_M_learn (x1 : Int32) (x2 : Int32) (x3 : Int32) (σ : am_St) : f_M_learn x1 x2 x3 σ = g_M_learn x1 x2 x3 σ := am_lk_eq _
set_option maxRecDepth 100000 in
set_option maxHeartbeats 4000000 in
theorem s_M_learn (G : am_G) (x1 : Int32) (x2 : Int32) (x3 : Int32) (σ : am_St) (r : Int32 × am_St) (Q : am_AQ) (e : f_M_learn x1 x2 x3 σ = some r) (hr : am_Pi r Q) : am_AW G M_M_learn 0 [(0, .ref 66), (1, .int x1), (2, .int x2), (3, .int x3)] [] σ Q :=
  (show am_Snd G M_M_learn 0 am_Pi _ from (sn_aload_n (pc := 0) (i := 0) dX12_learn_0 rfl (sn_iconst (pc := 1) (v := 0) dX12_learn_1 rfl (sn_pI (pc := 2) (h := 66) (f := 22) dX12_learn_2 am_CL_11 sh_66 rfl (Nat.le_of_ble_eq_true rfl) tw_963 rfl rfl (sn_iload_n (pc := 5) (i := 1) dX12_learn_5 rfl (sn_iconst (pc := 6) (v := 1) dX12_learn_6 rfl (sn_icmp_lt (pc := 7) (tgt := 14) dX12_learn_7 rfl (sn_lf (pc := 14) (ln_a (i := 0) (q := 66) (ln_i (i := 1) (fun z0 => (ln_i (i := 2) (fun z1 => (ln_i (i := 3) (fun z2 => (ln_end (o := fun τ => f_M_learn_14 z0 z1 z2 τ) (fun _ _ _ e h => s_M_learn_14 G z0 z1 z2 _ _ _ e h)))))))))) (sn_iload_n (pc := 10) (i := 3) dX12_learn_10 rfl (sn_if_ge (pc := 11) (tgt := 19) dX12_learn_11 rfl (sn_iload_n (pc := 19) (i := 1) dX12_learn_19 rfl (sn_bipush (pc := 20) (v := 20) dX12_learn_20 rfl (sn_icmp_gt (pc := 22) (tgt := 31) dX12_learn_22 rfl (sn_lf (pc := 31) (ln_a (i := 0) (q := 66) (ln_i (i := 1) (fun z0 => (ln_i (i := 2) (fun z1 => (ln_i (i := 3) (fun z2 => (ln_end (o := fun τ => f_M_learn_31 z0 z1 z2 τ) (fun _ _ _ e h => s_M_learn_31 G z0 z1 z2 _ _ _ e h)))))))))) (sn_iload_n (pc := 25) (i := 3) dX12_learn_25 rfl (sn_bipush (pc := 26) (v := 99) dX12_learn_26 rfl (sn_icmp_le (pc := 28) (tgt := 36) dX12_learn_28 rfl (sn_iload_n (pc := 36) (i := 2) dX12_learn_36 rfl (sn_i2l (pc := 37) dX12_learn_37 (sn_lconst (pc := 38) (v := 0) dX12_learn_38 rfl (sn_ldc2 (pc := 39) dX12_learn_39 tw_1320 (sn_callS (pc := 42) (N := M_M_in) dX12_learn_42 (cal_M_in G) tw_1116 tw_1117 tw_12 tw_1118 dsc_X12_in rfl (sn_if_ne (pc := 45) (tgt := 53) dX12_learn_45 rfl (sn_lf (pc := 53) (ln_a (i := 0) (q := 66) (ln_i (i := 1) (fun z0 => (ln_i (i := 2) (fun z1 => (ln_i (i := 3) (fun z2 => (ln_end (o := fun τ => f_M_learn_53 z0 z1 z2 τ) (fun _ _ _ e h => s_M_learn_53 G z0 z1 z2 _ _ _ e h)))))))))) (sn_lf (pc := 48) (ln_a (i := 0) (q := 66) (ln_i (i := 1) (fun z0 => (ln_i (i := 2) (fun z1 => (ln_i (i := 3) (fun z2 => (ln_end (o := fun τ => f_M_learn_48 z0 z1 z2 τ) (fun _ _ _ e h => s_M_learn_48 G z0 z1 z2 _ _ _ e h)))))))))))))))) (sn_lf (pc := 31) (ln_a (i := 0) (q := 66) (ln_i (i := 1) (fun z0 => (ln_i (i := 2) (fun z1 => (ln_i (i := 3) (fun z2 => (ln_end (o := fun τ => f_M_learn_31 z0 z1 z2 τ) (fun _ _ _ e h => s_M_learn_31 G z0 z1 z2 _ _ _ e h)))))))))))))))) (sn_lf (pc := 14) (ln_a (i := 0) (q := 66) (ln_i (i := 1) (fun z0 => (ln_i (i := 2) (fun z1 => (ln_i (i := 3) (fun z2 => (ln_end (o := fun τ => f_M_learn_14 z0 z1 z2 τ) (fun _ _ _ e h => s_M_learn_14 G z0 z1 z2 _ _ _ e h))))))))))))))))))) _ _ _ _ _ ((eq_M_learn x1 x2 x3 σ).symm.trans e) hr
noncomputable def cF_M_learn : am_Fn := fun _ args σ K => match args with
  | [.ref q0, .int z1, .int z2, .int z3] => match Nat.beq q0 66 with
    | true => (f_M_learn z1 z2 z3 σ).bind (fun p => K (some (.int p.1)) p.2)
    | _ => none
  | _ => none
theorem cal_M_learn (G : am_G) : am_Cal G M_M_learn cF_M_learn := by
  intro ρ args σ K r e
  unfold cF_M_learn at e
  split at e
  · split at e
    · rename_i hq0
      obtain ⟨p, h1, h2⟩ := am_bind_some e
      rw [Nat.eq_of_beq_eq_true hq0]
      exact ⟨some (.int p.1), p.2, am_Met.of rfl (Nat.le_of_ble_eq_true rfl) (s_M_learn G _ _ _ σ p _ h1 ⟨rfl, rfl⟩), h2⟩
    · cases e
  · cases e
abbrev M_M_row : am_MD := (yX12_row, cX12_row, 2, (some .int), 1, 21)
theorem dX12_row_0 : decode cX12_row 0 = .ok (.aload_n 0, 1) := by decide +kernel
theorem dX12_row_1 : decode cX12_row 1 = .ok (.iconst 0, 1) := by decide +kernel
theorem dX12_row_2 : decode cX12_row 2 = .ok (.putfield 102, 3) := by decide +kernel
theorem dX12_row_5 : decode cX12_row 5 = .ok (.iload_n 1, 1) := by decide +kernel
theorem dX12_row_6 : decode cX12_row 6 = .ok (.ifCond .ge 10, 3) := by decide +kernel
theorem dX12_row_9 : decode cX12_row 9 = .ok (.aload_n 0, 1) := by decide +kernel
theorem dX12_row_10 : decode cX12_row 10 = .ok (.bipush (-4), 2) := by decide +kernel
theorem dX12_row_12 : decode cX12_row 12 = .ok (.invokevirtual 154, 3) := by decide +kernel
theorem dX12_row_15 : decode cX12_row 15 = .ok (.ireturn, 1) := by decide +kernel
theorem dX12_row_16 : decode cX12_row 16 = .ok (.iload_n 1, 1) := by decide +kernel
theorem dX12_row_17 : decode cX12_row 17 = .ok (.bipush 9, 2) := by decide +kernel
theorem dX12_row_19 : decode cX12_row 19 = .ok (.if_icmp .gt 12, 3) := by decide +kernel
theorem dX12_row_22 : decode cX12_row 22 = .ok (.aload_n 0, 1) := by decide +kernel
theorem dX12_row_23 : decode cX12_row 23 = .ok (.getfield 346, 3) := by decide +kernel
theorem dX12_row_26 : decode cX12_row 26 = .ok (.bipush 12, 2) := by decide +kernel
theorem dX12_row_28 : decode cX12_row 28 = .ok (.if_icmp .ne 10, 3) := by decide +kernel
theorem dX12_row_31 : decode cX12_row 31 = .ok (.aload_n 0, 1) := by decide +kernel
theorem dX12_row_32 : decode cX12_row 32 = .ok (.bipush (-6), 2) := by decide +kernel
theorem dX12_row_34 : decode cX12_row 34 = .ok (.invokevirtual 154, 3) := by decide +kernel
theorem dX12_row_37 : decode cX12_row 37 = .ok (.ireturn, 1) := by decide +kernel
theorem dX12_row_38 : decode cX12_row 38 = .ok (.aload_n 0, 1) := by decide +kernel
theorem dX12_row_39 : decode cX12_row 39 = .ok (.getfield 99, 3) := by decide +kernel
theorem dX12_row_42 : decode cX12_row 42 = .ok (.aload_n 0, 1) := by decide +kernel
theorem dX12_row_43 : decode cX12_row 43 = .ok (.getfield 346, 3) := by decide +kernel
theorem dX12_row_46 : decode cX12_row 46 = .ok (.iload_n 1, 1) := by decide +kernel
theorem dX12_row_47 : decode cX12_row 47 = .ok (.iastore, 1) := by decide +kernel
theorem dX12_row_48 : decode cX12_row 48 = .ok (.aload_n 0, 1) := by decide +kernel
theorem dX12_row_49 : decode cX12_row 49 = .ok (.dup, 1) := by decide +kernel
theorem dX12_row_50 : decode cX12_row 50 = .ok (.getfield 346, 3) := by decide +kernel
theorem dX12_row_53 : decode cX12_row 53 = .ok (.iconst 1, 1) := by decide +kernel
theorem dX12_row_54 : decode cX12_row 54 = .ok (.iadd, 1) := by decide +kernel
theorem dX12_row_55 : decode cX12_row 55 = .ok (.putfield 346, 3) := by decide +kernel
theorem dX12_row_58 : decode cX12_row 58 = .ok (.aload_n 0, 1) := by decide +kernel
theorem dX12_row_59 : decode cX12_row 59 = .ok (.getfield 346, 3) := by decide +kernel
theorem dX12_row_62 : decode cX12_row 62 = .ok (.ireturn, 1) := by decide +kernel
noncomputable def g_M_row_31 (σ : am_St) : Option (Int32 × am_St) :=
  (f_M_refuse (-6) σ).bind (fun p1 =>
    some ((p1.1, p1.2)))
noncomputable def f_M_row_31 (σ : am_St) : Option (Int32 × am_St) := am_lk (g_M_row_31  σ)
theorem eq_M_row_31 (σ : am_St) : f_M_row_31  σ = g_M_row_31  σ := am_lk_eq _
set_option maxRecDepth 100000 in
set_option maxHeartbeats 4000000 in
theorem s_M_row_31 (G : am_G) (σ : am_St) (r : Int32 × am_St) (Q : am_AQ) (e : f_M_row_31  σ = some r) (hr : am_Pi r Q) : am_AW G M_M_row 31 [(0, .ref 66)] [] σ Q :=
  (show am_Snd G M_M_row 31 am_Pi _ from (sn_aload_n (pc := 31) (i := 0) dX12_row_31 rfl (sn_bipush (pc := 32) (v := (-6)) dX12_row_32 (show (Int8.ofInt (-6)).toInt32 = (-6) by decide) (sn_callV (pc := 34) (N := M_M_refuse) dX12_row_34 (cal_M_refuse G) sh_66 rfl tw_1090 tw_1092 tp_23 tw_12 tw_1093 dsc_X12_refuse rfl (sn_reti (pc := 37) (R := fun x τ => (some ((x, τ)))) dX12_row_37 rfl (fun _ _ _ _ e h => by cases e; exact h)))))) _ _ _ _ _ ((eq_M_row_31  σ).symm.trans e) hr
noncomputable def g_M_row_58 (σ : am_St) : Option (Int32 × am_St) :=
  some ((σ.1 66 46, σ))
noncomputable def f_M_row_58 (σ : am_St) : Option (Int32 × am_St) := am_lk (g_M_row_58  σ)
theorem eq_M_row_58 (σ : am_St) : f_M_row_58  σ = g_M_row_58  σ := am_lk_eq _
set_option maxRecDepth 100000 in
set_option maxHeartbeats 4000000 in
theorem s_M_row_58 (G : am_G) (σ : am_St) (r : Int32 × am_St) (Q : am_AQ) (e : f_M_row_58  σ = some r) (hr : am_Pi r Q) : am_AW G M_M_row 58 [(0, .ref 66)] [] σ Q :=
  (show am_Snd G M_M_row 58 am_Pi _ from (sn_aload_n (pc := 58) (i := 0) dX12_row_58 rfl (sn_gI (pc := 59) (h := 66) (f := 46) dX12_row_59 am_CL_11 sh_66 rfl (Nat.le_of_ble_eq_true rfl) tw_987 (sn_reti (pc := 62) (R := fun x τ => (some ((x, τ)))) dX12_row_62 rfl (fun _ _ _ _ e h => by cases e; exact h))))) _ _ _ _ _ ((eq_M_row_58  σ).symm.trans e) hr
noncomputable def g_M_row (x1 : Int32) (σ : am_St) : Option (Int32 × am_St) :=
  let s1 := am_sI σ 66 22 0
  if 0 ≤ x1 then
    if 9 < x1 then
      f_M_row_31 s1
    else
      if (s1.1 66 46) = 12 then
        f_M_row_31 s1
      else
        if am_ix (s1.1 66 46) 12 = true then
          let s2 := am_sI s1 94 (s1.1 66 46).toNatClampNeg x1
          let s3 := am_sI s2 66 46 ((s2.1 66 46) + 1)
          f_M_row_58 s3
        else none
  else
    (f_M_refuse (-4) s1).bind (fun p4 =>
      some ((p4.1, p4.2)))
noncomputable def f_M_row (x1 : Int32) (σ : am_St) : Option (Int32 × am_St) := am_lk (g_M_row x1 σ)
theorem eq_M_row (x1 : Int32) (σ : am_St) : f_M_row x1 σ = g_M_row x1 σ := am_lk_eq _
set_option maxRecDepth 100000 in
set_option maxHeartbeats 4000000 in
theorem s_M_row (G : am_G) (x1 : Int32) (σ : am_St) (r : Int32 × am_St) (Q : am_AQ) (e : f_M_row x1 σ = some r) (hr : am_Pi r Q) : am_AW G M_M_row 0 [(0, .ref 66), (1, .int x1)] [] σ Q :=
  (show am_Snd G M_M_row 0 am_Pi _ from (sn_aload_n (pc := 0) (i := 0) dX12_row_0 rfl (sn_iconst (pc := 1) (v := 0) dX12_row_1 rfl (sn_pI (pc := 2) (h := 66) (f := 22) dX12_row_2 am_CL_11 sh_66 rfl (Nat.le_of_ble_eq_true rfl) tw_963 rfl rfl (sn_iload_n (pc := 5) (i := 1) dX12_row_5 rfl (sn_if_ge (pc := 6) (tgt := 16) dX12_row_6 rfl (sn_iload_n (pc := 16) (i := 1) dX12_row_16 rfl (sn_bipush (pc := 17) (v := 9) dX12_row_17 rfl (sn_icmp_gt (pc := 19) (tgt := 31) dX12_row_19 rfl (sn_lf (pc := 31) (ln_a (i := 0) (q := 66) (ln_end (o := fun τ => f_M_row_31 τ) (fun _ _ _ e h => s_M_row_31 G  _ _ _ e h)))) (sn_aload_n (pc := 22) (i := 0) dX12_row_22 rfl (sn_gI (pc := 23) (h := 66) (f := 46) dX12_row_23 am_CL_11 sh_66 rfl (Nat.le_of_ble_eq_true rfl) tw_987 (sn_bipush (pc := 26) (v := 12) dX12_row_26 rfl (sn_icmp_ne (pc := 28) (tgt := 38) dX12_row_28 rfl (sn_aload_n (pc := 38) (i := 0) dX12_row_38 rfl (sn_gR (r0 := 94) (pc := 39) (h := 66) (f := 45) dX12_row_39 am_CL_11 sh_66 rfl (Nat.le_of_ble_eq_true rfl) tw_986 (sn_aload_n (pc := 42) (i := 0) dX12_row_42 rfl (sn_gI (pc := 43) (h := 66) (f := 46) dX12_row_43 am_CL_11 sh_66 rfl (Nat.le_of_ble_eq_true rfl) tw_987 (sn_iload_n (pc := 46) (i := 1) dX12_row_46 rfl (sn_sI (pc := 47) (h := 94) dX12_row_47 sh_94 (sn_aload_n (pc := 48) (i := 0) dX12_row_48 rfl (sn_dup (pc := 49) dX12_row_49 (sn_gI (pc := 50) (h := 66) (f := 46) dX12_row_50 am_CL_11 sh_66 rfl (Nat.le_of_ble_eq_true rfl) tw_987 (sn_iconst (pc := 53) (v := 1) dX12_row_53 rfl (sn_iadd (pc := 54) dX12_row_54 (sn_pI (pc := 55) (h := 66) (f := 46) dX12_row_55 am_CL_11 sh_66 rfl (Nat.le_of_ble_eq_true rfl) tw_987 rfl rfl (sn_lf (pc := 58) (ln_a (i := 0) (q := 66) (ln_end (o := fun τ => f_M_row_58 τ) (fun _ _ _ e h => s_M_row_58 G  _ _ _ e h)))))))))))))))) (sn_lf (pc := 31) (ln_a (i := 0) (q := 66) (ln_end (o := fun τ => f_M_row_31 τ) (fun _ _ _ e h => s_M_row_31 G  _ _ _ e h))))))))))) (sn_aload_n (pc := 9) (i := 0) dX12_row_9 rfl (sn_bipush (pc := 10) (v := (-4)) dX12_row_10 (show (Int8.ofInt (-4)).toInt32 = (-4) by decide) (sn_callV (pc := 12) (N := M_M_refuse) dX12_row_12 (cal_M_refuse G) sh_66 rfl tw_1090 tw_1092 tp_23 tw_12 tw_1093 dsc_X12_refuse rfl (sn_reti (pc := 15) (R := fun x τ => (some ((x, τ)))) dX12_row_15 rfl (fun _ _ _ _ e h => by cases e; exact h))))))))))) _ _ _ _ _ ((eq_M_row x1 σ).symm.trans e) hr
noncomputable def cF_M_row : am_Fn := fun _ args σ K => match args with
  | [.ref q0, .int z1] => match Nat.beq q0 66 with
    | true => (f_M_row z1 σ).bind (fun p => K (some (.int p.1)) p.2)
    | _ => none
  | _ => none
theorem cal_M_row (G : am_G) : am_Cal G M_M_row cF_M_row := by
  intro ρ args σ K r e
  unfold cF_M_row at e
  split at e
  · split at e
    · rename_i hq0
      obtain ⟨p, h1, h2⟩ := am_bind_some e
      rw [Nat.eq_of_beq_eq_true hq0]
      exact ⟨some (.int p.1), p.2, am_Met.of rfl (Nat.le_of_ble_eq_true rfl) (s_M_row G _ σ p _ h1 ⟨rfl, rfl⟩), h2⟩
    · cases e
  · cases e
abbrev M_M_judge : am_MD := (yX12_judge, cX12_judge, 4, (some .int), 4, 92)
theorem dX12_judge_0 : decode cX12_judge 0 = .ok (.aload_n 0, 1) := by decide +kernel
theorem dX12_judge_1 : decode cX12_judge 1 = .ok (.iconst 0, 1) := by decide +kernel
theorem dX12_judge_2 : decode cX12_judge 2 = .ok (.putfield 102, 3) := by decide +kernel
theorem dX12_judge_5 : decode cX12_judge 5 = .ok (.aload_n 0, 1) := by decide +kernel
theorem dX12_judge_6 : decode cX12_judge 6 = .ok (.getfield 346, 3) := by decide +kernel
theorem dX12_judge_9 : decode cX12_judge 9 = .ok (.istore_n 1, 1) := by decide +kernel
theorem dX12_judge_10 : decode cX12_judge 10 = .ok (.aload_n 0, 1) := by decide +kernel
theorem dX12_judge_11 : decode cX12_judge 11 = .ok (.iconst 0, 1) := by decide +kernel
theorem dX12_judge_12 : decode cX12_judge 12 = .ok (.putfield 346, 3) := by decide +kernel
theorem dX12_judge_15 : decode cX12_judge 15 = .ok (.iconst 0, 1) := by decide +kernel
theorem dX12_judge_16 : decode cX12_judge 16 = .ok (.istore_n 2, 1) := by decide +kernel
theorem dX12_judge_17 : decode cX12_judge 17 = .ok (.iload_n 2, 1) := by decide +kernel
theorem dX12_judge_18 : decode cX12_judge 18 = .ok (.iconst 2, 1) := by decide +kernel
theorem dX12_judge_19 : decode cX12_judge 19 = .ok (.iadd, 1) := by decide +kernel
theorem dX12_judge_20 : decode cX12_judge 20 = .ok (.iload_n 1, 1) := by decide +kernel
theorem dX12_judge_21 : decode cX12_judge 21 = .ok (.if_icmp .ge 91, 3) := by decide +kernel
theorem dX12_judge_24 : decode cX12_judge 24 = .ok (.aload_n 0, 1) := by decide +kernel
theorem dX12_judge_25 : decode cX12_judge 25 = .ok (.aload_n 0, 1) := by decide +kernel
theorem dX12_judge_26 : decode cX12_judge 26 = .ok (.getfield 99, 3) := by decide +kernel
theorem dX12_judge_29 : decode cX12_judge 29 = .ok (.iload_n 2, 1) := by decide +kernel
theorem dX12_judge_30 : decode cX12_judge 30 = .ok (.iaload, 1) := by decide +kernel
theorem dX12_judge_31 : decode cX12_judge 31 = .ok (.invokevirtual 203, 3) := by decide +kernel
theorem dX12_judge_34 : decode cX12_judge 34 = .ok (.ifCond .ne 5, 3) := by decide +kernel
theorem dX12_judge_37 : decode cX12_judge 37 = .ok (.iload_n 2, 1) := by decide +kernel
theorem dX12_judge_38 : decode cX12_judge 38 = .ok (.ireturn, 1) := by decide +kernel
theorem dX12_judge_39 : decode cX12_judge 39 = .ok (.aload_n 0, 1) := by decide +kernel
theorem dX12_judge_40 : decode cX12_judge 40 = .ok (.aload_n 0, 1) := by decide +kernel
theorem dX12_judge_41 : decode cX12_judge 41 = .ok (.getfield 99, 3) := by decide +kernel
theorem dX12_judge_44 : decode cX12_judge 44 = .ok (.iload_n 2, 1) := by decide +kernel
theorem dX12_judge_45 : decode cX12_judge 45 = .ok (.iconst 1, 1) := by decide +kernel
theorem dX12_judge_46 : decode cX12_judge 46 = .ok (.iadd, 1) := by decide +kernel
theorem dX12_judge_47 : decode cX12_judge 47 = .ok (.iaload, 1) := by decide +kernel
theorem dX12_judge_48 : decode cX12_judge 48 = .ok (.invokevirtual 203, 3) := by decide +kernel
theorem dX12_judge_51 : decode cX12_judge 51 = .ok (.ifCond .ne 7, 3) := by decide +kernel
theorem dX12_judge_54 : decode cX12_judge 54 = .ok (.iload_n 2, 1) := by decide +kernel
theorem dX12_judge_55 : decode cX12_judge 55 = .ok (.iconst 1, 1) := by decide +kernel
theorem dX12_judge_56 : decode cX12_judge 56 = .ok (.iadd, 1) := by decide +kernel
theorem dX12_judge_57 : decode cX12_judge 57 = .ok (.ireturn, 1) := by decide +kernel
theorem dX12_judge_58 : decode cX12_judge 58 = .ok (.aload_n 0, 1) := by decide +kernel
theorem dX12_judge_59 : decode cX12_judge 59 = .ok (.aload_n 0, 1) := by decide +kernel
theorem dX12_judge_60 : decode cX12_judge 60 = .ok (.getfield 99, 3) := by decide +kernel
theorem dX12_judge_63 : decode cX12_judge 63 = .ok (.iload_n 2, 1) := by decide +kernel
theorem dX12_judge_64 : decode cX12_judge 64 = .ok (.iaload, 1) := by decide +kernel
theorem dX12_judge_65 : decode cX12_judge 65 = .ok (.aload_n 0, 1) := by decide +kernel
theorem dX12_judge_66 : decode cX12_judge 66 = .ok (.getfield 99, 3) := by decide +kernel
theorem dX12_judge_69 : decode cX12_judge 69 = .ok (.iload_n 2, 1) := by decide +kernel
theorem dX12_judge_70 : decode cX12_judge 70 = .ok (.iconst 1, 1) := by decide +kernel
theorem dX12_judge_71 : decode cX12_judge 71 = .ok (.iadd, 1) := by decide +kernel
theorem dX12_judge_72 : decode cX12_judge 72 = .ok (.iaload, 1) := by decide +kernel
theorem dX12_judge_73 : decode cX12_judge 73 = .ok (.aload_n 0, 1) := by decide +kernel
theorem dX12_judge_74 : decode cX12_judge 74 = .ok (.getfield 127, 3) := by decide +kernel
theorem dX12_judge_77 : decode cX12_judge 77 = .ok (.invokevirtual 317, 3) := by decide +kernel
theorem dX12_judge_80 : decode cX12_judge 80 = .ok (.istore_n 3, 1) := by decide +kernel
theorem dX12_judge_81 : decode cX12_judge 81 = .ok (.aload_n 0, 1) := by decide +kernel
theorem dX12_judge_82 : decode cX12_judge 82 = .ok (.getfield 99, 3) := by decide +kernel
theorem dX12_judge_85 : decode cX12_judge 85 = .ok (.iload_n 2, 1) := by decide +kernel
theorem dX12_judge_86 : decode cX12_judge 86 = .ok (.iconst 2, 1) := by decide +kernel
theorem dX12_judge_87 : decode cX12_judge 87 = .ok (.iadd, 1) := by decide +kernel
theorem dX12_judge_88 : decode cX12_judge 88 = .ok (.iaload, 1) := by decide +kernel
theorem dX12_judge_89 : decode cX12_judge 89 = .ok (.iload_n 3, 1) := by decide +kernel
theorem dX12_judge_90 : decode cX12_judge 90 = .ok (.ifCond .ge 8, 3) := by decide +kernel
theorem dX12_judge_93 : decode cX12_judge 93 = .ok (.bipush 9, 2) := by decide +kernel
theorem dX12_judge_95 : decode cX12_judge 95 = .ok (.goto 4, 3) := by decide +kernel
theorem dX12_judge_98 : decode cX12_judge 98 = .ok (.iload_n 3, 1) := by decide +kernel
theorem dX12_judge_99 : decode cX12_judge 99 = .ok (.if_icmp .eq 7, 3) := by decide +kernel
theorem dX12_judge_102 : decode cX12_judge 102 = .ok (.iload_n 2, 1) := by decide +kernel
theorem dX12_judge_103 : decode cX12_judge 103 = .ok (.iconst 2, 1) := by decide +kernel
theorem dX12_judge_104 : decode cX12_judge 104 = .ok (.iadd, 1) := by decide +kernel
theorem dX12_judge_105 : decode cX12_judge 105 = .ok (.ireturn, 1) := by decide +kernel
theorem dX12_judge_106 : decode cX12_judge 106 = .ok (.iinc 2 3, 3) := by decide +kernel
theorem dX12_judge_109 : decode cX12_judge 109 = .ok (.goto (-92), 3) := by decide +kernel
theorem dX12_judge_112 : decode cX12_judge 112 = .ok (.iload_n 2, 1) := by decide +kernel
theorem dX12_judge_113 : decode cX12_judge 113 = .ok (.iload_n 1, 1) := by decide +kernel
theorem dX12_judge_114 : decode cX12_judge 114 = .ok (.if_icmp .ge 7, 3) := by decide +kernel
theorem dX12_judge_117 : decode cX12_judge 117 = .ok (.iload_n 2, 1) := by decide +kernel
theorem dX12_judge_118 : decode cX12_judge 118 = .ok (.goto 5, 3) := by decide +kernel
theorem dX12_judge_121 : decode cX12_judge 121 = .ok (.bipush (-9), 2) := by decide +kernel
theorem dX12_judge_123 : decode cX12_judge 123 = .ok (.ireturn, 1) := by decide +kernel
abbrev Pl_M_judge_17 (G : am_G) : ((Int32 × Int32 × am_St) ⊕ (Int32 × am_St)) → am_AQ → Prop := am_PL G M_M_judge 17 (fun s : Int32 × Int32 × am_St => [(2, .int s.2.1), (1, .int s.1), (0, .ref 66)]) (fun s => s.2.2) am_Pi
noncomputable def g_M_judge_54 (x2 : Int32) (σ : am_St) : Option (Int32 × am_St) :=
  some ((x2 + 1, σ))
noncomputable def f_M_judge_54 (x2 : Int32) (σ : am_St) : Option (Int32 × am_St) := am_lk (g_M_judge_54 x2 σ)
theorem eq_M_judge_54 (x2 : Int32) (σ : am_St) : f_M_judge_54 x2 σ = g_M_judge_54 x2 σ := am_lk_eq _
set_option maxRecDepth 100000 in
set_option maxHeartbeats 4000000 in
theorem s_M_judge_54 (G : am_G) (x2 : Int32) (σ : am_St) (r : Int32 × am_St) (Q : am_AQ) (e : f_M_judge_54 x2 σ = some r) (hr : am_Pi r Q) : am_AW G M_M_judge 54 [(2, .int x2)] [] σ Q :=
  (show am_Snd G M_M_judge 54 am_Pi _ from (sn_iload_n (pc := 54) (i := 2) dX12_judge_54 rfl (sn_iconst (pc := 55) (v := 1) dX12_judge_55 rfl (sn_iadd (pc := 56) dX12_judge_56 (sn_reti (pc := 57) (R := fun x τ => (some ((x, τ)))) dX12_judge_57 rfl (fun _ _ _ _ e h => by cases e; exact h)))))) _ _ _ _ _ ((eq_M_judge_54 x2 σ).symm.trans e) hr
noncomputable def g_M_judge_99 (x1 : Int32) (x2 : Int32) (y0 : Int32) (y1 : Int32) (σ : am_St) : Option ((Int32 × Int32 × am_St) ⊕ (Int32 × am_St)) :=
  if y0 = y1 then
    let v1 := x2 + 3
    some (.inl (x1, v1, σ))
  else
    some (.inr ((x2 + 2, σ)))
noncomputable def f_M_judge_99 (x1 : Int32) (x2 : Int32) (y0 : Int32) (y1 : Int32) (σ : am_St) : Option ((Int32 × Int32 × am_St) ⊕ (Int32 × am_St)) := am_lk (g_M_judge_99 x1 x2 y0 y1 σ)
theorem eq_M_judge_99 (x1 : Int32) (x2 : Int32) (y0 : Int32) (y1 : Int32) (σ : am_St) : f_M_judge_99 x1 x2 y0 y1 σ = g_M_judge_99 x1 x2 y0 y1 σ := am_lk_eq _
set_option maxRecDepth 100000 in
set_option maxHeartbeats 4000000 in
theorem s_M_judge_99 (G : am_G) (x1 : Int32) (x2 : Int32) (y0 : Int32) (y1 : Int32) (σ : am_St) (r : (Int32 × Int32 × am_St) ⊕ (Int32 × am_St)) (Q : am_AQ) (e : f_M_judge_99 x1 x2 y0 y1 σ = some r) (hr : (Pl_M_judge_17 G) r Q) : am_AW G M_M_judge 99 [(2, .int x2), (1, .int x1), (0, .ref 66)] [.int y1, .int y0] σ Q :=
  (show am_Snd G M_M_judge 99 (Pl_M_judge_17 G) _ from (sn_icmp_eq (pc := 99) (tgt := 106) dX12_judge_99 rfl (sn_iinc (pc := 106) (v := 3) dX12_judge_106 rfl (Nat.le_of_ble_eq_true rfl) (sn_goto (pc := 109) (tgt := 17) dX12_judge_109 rfl (sn_lf (pc := 17) (ln_a (i := 0) (q := 66) (ln_i (i := 1) (fun z0 => (ln_i (i := 2) (fun z1 => (ln_end (o := fun τ => (some (.inl (z0, z1, τ)) : Option ((Int32 × Int32 × am_St) ⊕ (Int32 × am_St)))) (fun _ _ _ e h => by cases e; exact h)))))))))) (sn_iload_n (pc := 102) (i := 2) dX12_judge_102 rfl (sn_iconst (pc := 103) (v := 2) dX12_judge_103 rfl (sn_iadd (pc := 104) dX12_judge_104 (sn_reti (pc := 105) (R := fun x τ => (some (.inr ((x, τ))) : Option ((Int32 × Int32 × am_St) ⊕ (Int32 × am_St)))) dX12_judge_105 rfl (fun _ _ _ _ e h => by cases e; exact h))))))) _ _ _ _ _ ((eq_M_judge_99 x1 x2 y0 y1 σ).symm.trans e) hr
noncomputable def g_M_judge_58 (x1 : Int32) (x2 : Int32) (σ : am_St) : Option ((Int32 × Int32 × am_St) ⊕ (Int32 × am_St)) :=
  if am_ix x2 12 = true then
    if am_ix (x2 + 1) 12 = true then
      (f_M_saysOf (σ.1 94 x2.toNatClampNeg) (σ.1 94 (x2 + 1).toNatClampNeg) (σ.1 66 6) σ).bind (fun p1 =>
        if am_ix (x2 + 2) 12 = true then
          if 0 ≤ p1.1 then
            f_M_judge_99 x1 x2 (p1.2.1 94 (x2 + 2).toNatClampNeg) p1.1 p1.2
          else
            f_M_judge_99 x1 x2 (p1.2.1 94 (x2 + 2).toNatClampNeg) 9 p1.2
        else none)
    else none
  else none
noncomputable def f_M_judge_58 (x1 : Int32) (x2 : Int32) (σ : am_St) : Option ((Int32 × Int32 × am_St) ⊕ (Int32 × am_St)) := am_lk (g_M_judge_58 x1 x2 σ)
theorem eq_M_judge_58 (x1 : Int32) (x2 : Int32) (σ : am_St) : f_M_judge_58 x1 x2 σ = g_M_judge_58 x1 x2 σ := am_lk_eq _
set_option maxRecDepth 100000 in
set_option maxHeartbeats 4000000 in
theorem s_M_judge_58 (G : am_G) (x1 : Int32) (x2 : Int32) (σ : am_St) (r : (Int32 × Int32 × am_St) ⊕ (Int32 × am_St)) (Q : am_AQ) (e : f_M_judge_58 x1 x2 σ = some r) (hr : (Pl_M_judge_17 G) r Q) : am_AW G M_M_judge 58 [(2, .int x2), (1, .int x1), (0, .ref 66)] [] σ Q :=
  (show am_Snd G M_M_judge 58 (Pl_M_judge_17 G) _ from (sn_aload_n (pc := 58) (i := 0) dX12_judge_58 rfl (sn_aload_n (pc := 59) (i := 0) dX12_judge_59 rfl (sn_gR (r0 := 94) (pc := 60) (h := 66) (f := 45) dX12_judge_60 am_CL_11 sh_66 rfl (Nat.le_of_ble_eq_true rfl) tw_986 (sn_iload_n (pc := 63) (i := 2) dX12_judge_63 rfl (sn_aI (pc := 64) (h := 94) dX12_judge_64 sh_94 (sn_aload_n (pc := 65) (i := 0) dX12_judge_65 rfl (sn_gR (r0 := 94) (pc := 66) (h := 66) (f := 45) dX12_judge_66 am_CL_11 sh_66 rfl (Nat.le_of_ble_eq_true rfl) tw_986 (sn_iload_n (pc := 69) (i := 2) dX12_judge_69 rfl (sn_iconst (pc := 70) (v := 1) dX12_judge_70 rfl (sn_iadd (pc := 71) dX12_judge_71 (sn_aI (pc := 72) (h := 94) dX12_judge_72 sh_94 (sn_aload_n (pc := 73) (i := 0) dX12_judge_73 rfl (sn_gI (pc := 74) (h := 66) (f := 6) dX12_judge_74 am_CL_11 sh_66 rfl (Nat.le_of_ble_eq_true rfl) tw_947 (sn_callV (pc := 77) (N := M_M_saysOf) dX12_judge_77 (cal_M_saysOf G) sh_66 rfl tw_1348 tw_1350 tp_60 tw_12 tw_1351 dsc_X12_saysOf rfl (sn_istore_n (pc := 80) (i := 3) dX12_judge_80 rfl (Nat.le_of_ble_eq_true rfl) (sn_aload_n (pc := 81) (i := 0) dX12_judge_81 rfl (sn_gR (r0 := 94) (pc := 82) (h := 66) (f := 45) dX12_judge_82 am_CL_11 sh_66 rfl (Nat.le_of_ble_eq_true rfl) tw_986 (sn_iload_n (pc := 85) (i := 2) dX12_judge_85 rfl (sn_iconst (pc := 86) (v := 2) dX12_judge_86 rfl (sn_iadd (pc := 87) dX12_judge_87 (sn_aI (pc := 88) (h := 94) dX12_judge_88 sh_94 (sn_iload_n (pc := 89) (i := 3) dX12_judge_89 rfl (sn_if_ge (pc := 90) (tgt := 98) dX12_judge_90 rfl (sn_iload_n (pc := 98) (i := 3) dX12_judge_98 rfl (sn_lf (pc := 99) (ln_a (i := 0) (q := 66) (ln_i (i := 1) (fun z0 => (ln_i (i := 2) (fun z1 => (ln_si (fun w1 => (ln_si (fun w0 => (ln_end (o := fun τ => f_M_judge_99 z0 z1 w0 w1 τ) (fun _ _ _ e h => s_M_judge_99 G z0 z1 w0 w1 _ _ _ e h))))))))))))) (sn_bipush (pc := 93) (v := 9) dX12_judge_93 rfl (sn_goto (pc := 95) (tgt := 99) dX12_judge_95 rfl (sn_lf (pc := 99) (ln_a (i := 0) (q := 66) (ln_i (i := 1) (fun z0 => (ln_i (i := 2) (fun z1 => (ln_si (fun w1 => (ln_si (fun w0 => (ln_end (o := fun τ => f_M_judge_99 z0 z1 w0 w1 τ) (fun _ _ _ e h => s_M_judge_99 G z0 z1 w0 w1 _ _ _ e h)))))))))))))))))))))))))))))))))))))) _ _ _ _ _ ((eq_M_judge_58 x1 x2 σ).symm.trans e) hr
noncomputable def b_M_judge_17 (x1 : Int32) (x2 : Int32) (σ : am_St) : Option ((Int32 × Int32 × am_St) ⊕ (Int32 × am_St)) :=
  if x1 ≤ (x2 + 2) then
    if x1 ≤ x2 then
      some (.inr (((-9), σ)))
    else
      some (.inr ((x2, σ)))
  else
    if am_ix x2 12 = true then
      (f_M_isChild (σ.1 94 x2.toNatClampNeg) σ).bind (fun p1 =>
        if p1.1 = 0 then
          some (.inr ((x2, p1.2)))
        else
          if am_ix (x2 + 1) 12 = true then
            (f_M_isChild (p1.2.1 94 (x2 + 1).toNatClampNeg) p1.2).bind (fun p2 =>
              if p2.1 = 0 then
                (f_M_judge_54 x2 p2.2).map (fun r => .inr r)
              else
                f_M_judge_58 x1 x2 p2.2)
          else none)
    else none
noncomputable def f_M_judge_17 (x1 : Int32) (x2 : Int32) (σ : am_St) : Option (Int32 × am_St) := am_lp (fun s : Int32 × Int32 × am_St => b_M_judge_17 s.1 s.2.1 s.2.2) (x1, x2, σ)
set_option maxRecDepth 100000 in
set_option maxHeartbeats 4000000 in
theorem sb_M_judge_17 (G : am_G) (x1 : Int32) (x2 : Int32) (σ : am_St) (r : (Int32 × Int32 × am_St) ⊕ (Int32 × am_St)) (Q : am_AQ) (e : b_M_judge_17 x1 x2 σ = some r) (hr : Pl_M_judge_17 G r Q) : am_AW G M_M_judge 17 [(2, .int x2), (1, .int x1), (0, .ref 66)] [] σ Q :=
  (show am_Snd G M_M_judge 17 (Pl_M_judge_17 G) _ from (sn_iload_n (pc := 17) (i := 2) dX12_judge_17 rfl (sn_iconst (pc := 18) (v := 2) dX12_judge_18 rfl (sn_iadd (pc := 19) dX12_judge_19 (sn_iload_n (pc := 20) (i := 1) dX12_judge_20 rfl (sn_icmp_ge (pc := 21) (tgt := 112) dX12_judge_21 rfl (sn_iload_n (pc := 112) (i := 2) dX12_judge_112 rfl (sn_iload_n (pc := 113) (i := 1) dX12_judge_113 rfl (sn_icmp_ge (pc := 114) (tgt := 121) dX12_judge_114 rfl (sn_bipush (pc := 121) (v := (-9)) dX12_judge_121 (show (Int8.ofInt (-9)).toInt32 = (-9) by decide) (sn_reti (pc := 123) (R := fun x τ => (some (.inr ((x, τ))) : Option ((Int32 × Int32 × am_St) ⊕ (Int32 × am_St)))) dX12_judge_123 rfl (fun _ _ _ _ e h => by cases e; exact h))) (sn_iload_n (pc := 117) (i := 2) dX12_judge_117 rfl (sn_goto (pc := 118) (tgt := 123) dX12_judge_118 rfl (sn_reti (pc := 123) (R := fun x τ => (some (.inr ((x, τ))) : Option ((Int32 × Int32 × am_St) ⊕ (Int32 × am_St)))) dX12_judge_123 rfl (fun _ _ _ _ e h => by cases e; exact h))))))) (sn_aload_n (pc := 24) (i := 0) dX12_judge_24 rfl (sn_aload_n (pc := 25) (i := 0) dX12_judge_25 rfl (sn_gR (r0 := 94) (pc := 26) (h := 66) (f := 45) dX12_judge_26 am_CL_11 sh_66 rfl (Nat.le_of_ble_eq_true rfl) tw_986 (sn_iload_n (pc := 29) (i := 2) dX12_judge_29 rfl (sn_aI (pc := 30) (h := 94) dX12_judge_30 sh_94 (sn_callV (pc := 31) (N := M_M_isChild) dX12_judge_31 (cal_M_isChild G) sh_66 rfl tw_1181 tw_1183 tp_42 tw_12 tw_1184 dsc_X12_isChild rfl (sn_if_ne (pc := 34) (tgt := 39) dX12_judge_34 rfl (sn_aload_n (pc := 39) (i := 0) dX12_judge_39 rfl (sn_aload_n (pc := 40) (i := 0) dX12_judge_40 rfl (sn_gR (r0 := 94) (pc := 41) (h := 66) (f := 45) dX12_judge_41 am_CL_11 sh_66 rfl (Nat.le_of_ble_eq_true rfl) tw_986 (sn_iload_n (pc := 44) (i := 2) dX12_judge_44 rfl (sn_iconst (pc := 45) (v := 1) dX12_judge_45 rfl (sn_iadd (pc := 46) dX12_judge_46 (sn_aI (pc := 47) (h := 94) dX12_judge_47 sh_94 (sn_callV (pc := 48) (N := M_M_isChild) dX12_judge_48 (cal_M_isChild G) sh_66 rfl tw_1181 tw_1183 tp_42 tw_12 tw_1184 dsc_X12_isChild rfl (sn_if_ne (pc := 51) (tgt := 58) dX12_judge_51 rfl (sn_lf (pc := 58) (ln_a (i := 0) (q := 66) (ln_i (i := 1) (fun z0 => (ln_i (i := 2) (fun z1 => (ln_end (o := fun τ => f_M_judge_58 z0 z1 τ) (fun _ _ _ e h => s_M_judge_58 G z0 z1 _ _ _ e h)))))))) (sn_lf (pc := 54) (ln_i (i := 2) (fun z0 => (ln_end (o := fun τ => ((f_M_judge_54 z0 τ).map (fun r => .inr r) : Option ((Int32 × Int32 × am_St) ⊕ (Int32 × am_St)))) (fun _ _ _ e h => by obtain ⟨r9, e9, rfl⟩ := am_map_some e; exact s_M_judge_54 G z0 _ _ _ e9 h)))))))))))))) (sn_iload_n (pc := 37) (i := 2) dX12_judge_37 rfl (sn_reti (pc := 38) (R := fun x τ => (some (.inr ((x, τ))) : Option ((Int32 × Int32 × am_St) ⊕ (Int32 × am_St)))) dX12_judge_38 rfl (fun _ _ _ _ e h => by cases e; exact h)))))))))))))))) _ _ _ _ _ e hr
theorem s_M_judge_17 (G : am_G) (x1 : Int32) (x2 : Int32) (σ : am_St) (r : Int32 × am_St) (Q : am_AQ) (e : f_M_judge_17 x1 x2 σ = some r) (hr : am_Pi r Q) : am_AW G M_M_judge 17 [(2, .int x2), (1, .int x1), (0, .ref 66)] [] σ Q :=
  am_loop (P := am_Pi) (L := fun s : Int32 × Int32 × am_St => [(2, .int s.2.1), (1, .int s.1), (0, .ref 66)]) (g := fun s => s.2.2) (fun s o Q e hr => sb_M_judge_17 G s.1 s.2.1 s.2.2 o Q e hr) (x1, x2, σ) r Q e hr
noncomputable def g_M_judge (σ : am_St) : Option (Int32 × am_St) :=
  let s1 := am_sI σ 66 22 0
  let v2 := s1.1 66 46
  let s3 := am_sI s1 66 46 0
  f_M_judge_17 v2 0 s3
noncomputable def f_M_judge (σ : am_St) : Option (Int32 × am_St) := am_lk (g_M_judge  σ)
theorem eq_M_judge (σ : am_St) : f_M_judge  σ = g_M_judge  σ := am_lk_eq _
set_option maxRecDepth 100000 in
set_option maxHeartbeats 4000000 in
theorem s_M_judge (G : am_G) (σ : am_St) (r : Int32 × am_St) (Q : am_AQ) (e : f_M_judge  σ = some r) (hr : am_Pi r Q) : am_AW G M_M_judge 0 [(0, .ref 66)] [] σ Q :=
  (show am_Snd G M_M_judge 0 am_Pi _ from (sn_aload_n (pc := 0) (i := 0) dX12_judge_0 rfl (sn_iconst (pc := 1) (v := 0) dX12_judge_1 rfl (sn_pI (pc := 2) (h := 66) (f := 22) dX12_judge_2 am_CL_11 sh_66 rfl (Nat.le_of_ble_eq_true rfl) tw_963 rfl rfl (sn_aload_n (pc := 5) (i := 0) dX12_judge_5 rfl (sn_gI (pc := 6) (h := 66) (f := 46) dX12_judge_6 am_CL_11 sh_66 rfl (Nat.le_of_ble_eq_true rfl) tw_987 (sn_istore_n (pc := 9) (i := 1) dX12_judge_9 rfl (Nat.le_of_ble_eq_true rfl) (sn_aload_n (pc := 10) (i := 0) dX12_judge_10 rfl (sn_iconst (pc := 11) (v := 0) dX12_judge_11 rfl (sn_pI (pc := 12) (h := 66) (f := 46) dX12_judge_12 am_CL_11 sh_66 rfl (Nat.le_of_ble_eq_true rfl) tw_987 rfl rfl (sn_iconst (pc := 15) (v := 0) dX12_judge_15 rfl (sn_istore_n (pc := 16) (i := 2) dX12_judge_16 rfl (Nat.le_of_ble_eq_true rfl) (sn_lf (pc := 17) (ln_a (i := 0) (q := 66) (ln_i (i := 1) (fun z0 => (ln_i (i := 2) (fun z1 => (ln_end (o := fun τ => f_M_judge_17 z0 z1 τ) (fun _ _ _ e h => s_M_judge_17 G z0 z1 _ _ _ e h)))))))))))))))))))) _ _ _ _ _ ((eq_M_judge  σ).symm.trans e) hr
noncomputable def cF_M_judge : am_Fn := fun _ args σ K => match args with
  | [.ref q0] => match Nat.beq q0 66 with
    | true => (f_M_judge σ).bind (fun p => K (some (.int p.1)) p.2)
    | _ => none
  | _ => none
theorem cal_M_judge (G : am_G) : am_Cal G M_M_judge cF_M_judge := by
  intro ρ args σ K r e
  unfold cF_M_judge at e
  split at e
  · split at e
    · rename_i hq0
      obtain ⟨p, h1, h2⟩ := am_bind_some e
      rw [Nat.eq_of_beq_eq_true hq0]
      exact ⟨some (.int p.1), p.2, am_Met.of rfl (Nat.le_of_ble_eq_true rfl) (s_M_judge G  σ p _ h1 ⟨rfl, rfl⟩), h2⟩
    · cases e
  · cases e
abbrev M_M_draw : am_MD := (yX12_draw, cX12_draw, 2, (some .int), 0, 0)
theorem dX12_draw_0 : decode cX12_draw 0 = .ok (.aload_n 0, 1) := by decide +kernel
theorem dX12_draw_1 : decode cX12_draw 1 = .ok (.aload_n 0, 1) := by decide +kernel
theorem dX12_draw_2 : decode cX12_draw 2 = .ok (.getfield 349, 3) := by decide +kernel
theorem dX12_draw_5 : decode cX12_draw 5 = .ok (.ldc_w 352, 3) := by decide +kernel
theorem dX12_draw_8 : decode cX12_draw 8 = .ok (.imul, 1) := by decide +kernel
theorem dX12_draw_9 : decode cX12_draw 9 = .ok (.sipush 12345, 3) := by decide +kernel
theorem dX12_draw_12 : decode cX12_draw 12 = .ok (.iadd, 1) := by decide +kernel
theorem dX12_draw_13 : decode cX12_draw 13 = .ok (.putfield 349, 3) := by decide +kernel
theorem dX12_draw_16 : decode cX12_draw 16 = .ok (.aload_n 0, 1) := by decide +kernel
theorem dX12_draw_17 : decode cX12_draw 17 = .ok (.getfield 349, 3) := by decide +kernel
theorem dX12_draw_20 : decode cX12_draw 20 = .ok (.ldc_w 353, 3) := by decide +kernel
theorem dX12_draw_23 : decode cX12_draw 23 = .ok (.iand, 1) := by decide +kernel
theorem dX12_draw_24 : decode cX12_draw 24 = .ok (.ldc_w 354, 3) := by decide +kernel
theorem dX12_draw_27 : decode cX12_draw 27 = .ok (.idiv, 1) := by decide +kernel
theorem dX12_draw_28 : decode cX12_draw 28 = .ok (.iload_n 1, 1) := by decide +kernel
theorem dX12_draw_29 : decode cX12_draw 29 = .ok (.irem, 1) := by decide +kernel
theorem dX12_draw_30 : decode cX12_draw 30 = .ok (.ireturn, 1) := by decide +kernel
noncomputable def g_M_draw (x1 : Int32) (σ : am_St) : Option (Int32 × am_St) :=
  let s1 := am_sI σ 66 47 (((σ.1 66 47) * 1103515245) + 12345)
  if x1 = 0 then none else
    some ((am_rem (((s1.1 66 47) &&& 2147483647) / 65536) x1, s1))
noncomputable def f_M_draw (x1 : Int32) (σ : am_St) : Option (Int32 × am_St) := am_lk (g_M_draw x1 σ)
theorem eq_M_draw (x1 : Int32) (σ : am_St) : f_M_draw x1 σ = g_M_draw x1 σ := am_lk_eq _
set_option maxRecDepth 100000 in
set_option maxHeartbeats 4000000 in
theorem s_M_draw (G : am_G) (x1 : Int32) (σ : am_St) (r : Int32 × am_St) (Q : am_AQ) (e : f_M_draw x1 σ = some r) (hr : am_Pi r Q) : am_AW G M_M_draw 0 [(0, .ref 66), (1, .int x1)] [] σ Q :=
  (show am_Snd G M_M_draw 0 am_Pi _ from (sn_aload_n (pc := 0) (i := 0) dX12_draw_0 rfl (sn_aload_n (pc := 1) (i := 0) dX12_draw_1 rfl (sn_gI (pc := 2) (h := 66) (f := 47) dX12_draw_2 am_CL_11 sh_66 rfl (Nat.le_of_ble_eq_true rfl) tw_988 (sn_ldcw (pc := 5) dX12_draw_5 tw_1452 (sn_imul (pc := 8) dX12_draw_8 (sn_sipush (pc := 9) (v := 12345) dX12_draw_9 rfl (sn_iadd (pc := 12) dX12_draw_12 (sn_pI (pc := 13) (h := 66) (f := 47) dX12_draw_13 am_CL_11 sh_66 rfl (Nat.le_of_ble_eq_true rfl) tw_988 rfl rfl (sn_aload_n (pc := 16) (i := 0) dX12_draw_16 rfl (sn_gI (pc := 17) (h := 66) (f := 47) dX12_draw_17 am_CL_11 sh_66 rfl (Nat.le_of_ble_eq_true rfl) tw_988 (sn_ldcw (pc := 20) dX12_draw_20 tw_1453 (sn_iand (pc := 23) dX12_draw_23 (sn_ldcw (pc := 24) dX12_draw_24 tw_1454 (sn_idiv (pc := 27) dX12_draw_27 (sn_iload_n (pc := 28) (i := 1) dX12_draw_28 rfl (sn_irem (pc := 29) dX12_draw_29 (sn_reti (pc := 30) (R := fun x τ => (some ((x, τ)))) dX12_draw_30 rfl (fun _ _ _ _ e h => by cases e; exact h))))))))))))))))))) _ _ _ _ _ ((eq_M_draw x1 σ).symm.trans e) hr
noncomputable def cF_M_draw : am_Fn := fun _ args σ K => match args with
  | [.ref q0, .int z1] => match Nat.beq q0 66 with
    | true => (f_M_draw z1 σ).bind (fun p => K (some (.int p.1)) p.2)
    | _ => none
  | _ => none
theorem cal_M_draw (G : am_G) : am_Cal G M_M_draw cF_M_draw := by
  intro ρ args σ K r e
  unfold cF_M_draw at e
  split at e
  · split at e
    · rename_i hq0
      obtain ⟨p, h1, h2⟩ := am_bind_some e
      rw [Nat.eq_of_beq_eq_true hq0]
      exact ⟨some (.int p.1), p.2, am_Met.of rfl (Nat.le_of_ble_eq_true rfl) (s_M_draw G _ σ p _ h1 ⟨rfl, rfl⟩), h2⟩
    · cases e
  · cases e
abbrev M_M_nextTo : am_MD := (yX12_nextTo, cX12_nextTo, 5, (some .int), 1, 21)
theorem dX12_nextTo_0 : decode cX12_nextTo 0 = .ok (.iload_n 2, 1) := by decide +kernel
theorem dX12_nextTo_1 : decode cX12_nextTo 1 = .ok (.istore_n 3, 1) := by decide +kernel
theorem dX12_nextTo_2 : decode cX12_nextTo 2 = .ok (.iconst 0, 1) := by decide +kernel
theorem dX12_nextTo_3 : decode cX12_nextTo 3 = .ok (.istore 4, 2) := by decide +kernel
theorem dX12_nextTo_5 : decode cX12_nextTo 5 = .ok (.aload_n 0, 1) := by decide +kernel
theorem dX12_nextTo_6 : decode cX12_nextTo 6 = .ok (.getfield 16, 3) := by decide +kernel
theorem dX12_nextTo_9 : decode cX12_nextTo 9 = .ok (.iload_n 1, 1) := by decide +kernel
theorem dX12_nextTo_10 : decode cX12_nextTo 10 = .ok (.iaload, 1) := by decide +kernel
theorem dX12_nextTo_11 : decode cX12_nextTo 11 = .ok (.iload 4, 2) := by decide +kernel
theorem dX12_nextTo_13 : decode cX12_nextTo 13 = .ok (.invokestatic 115, 3) := by decide +kernel
theorem dX12_nextTo_16 : decode cX12_nextTo 16 = .ok (.ifCond .eq 8, 3) := by decide +kernel
theorem dX12_nextTo_19 : decode cX12_nextTo 19 = .ok (.iload_n 3, 1) := by decide +kernel
theorem dX12_nextTo_20 : decode cX12_nextTo 20 = .ok (.iconst 1, 1) := by decide +kernel
theorem dX12_nextTo_21 : decode cX12_nextTo 21 = .ok (.if_icmp .le 31, 3) := by decide +kernel
theorem dX12_nextTo_24 : decode cX12_nextTo 24 = .ok (.iload_n 3, 1) := by decide +kernel
theorem dX12_nextTo_25 : decode cX12_nextTo 25 = .ok (.aload_n 0, 1) := by decide +kernel
theorem dX12_nextTo_26 : decode cX12_nextTo 26 = .ok (.getfield 16, 3) := by decide +kernel
theorem dX12_nextTo_29 : decode cX12_nextTo 29 = .ok (.iload_n 1, 1) := by decide +kernel
theorem dX12_nextTo_30 : decode cX12_nextTo 30 = .ok (.iaload, 1) := by decide +kernel
theorem dX12_nextTo_31 : decode cX12_nextTo 31 = .ok (.iload 4, 2) := by decide +kernel
theorem dX12_nextTo_33 : decode cX12_nextTo 33 = .ok (.invokestatic 115, 3) := by decide +kernel
theorem dX12_nextTo_36 : decode cX12_nextTo 36 = .ok (.ifCond .eq 7, 3) := by decide +kernel
theorem dX12_nextTo_39 : decode cX12_nextTo 39 = .ok (.iconst 1, 1) := by decide +kernel
theorem dX12_nextTo_40 : decode cX12_nextTo 40 = .ok (.goto 4, 3) := by decide +kernel
theorem dX12_nextTo_43 : decode cX12_nextTo 43 = .ok (.iconst 0, 1) := by decide +kernel
theorem dX12_nextTo_44 : decode cX12_nextTo 44 = .ok (.isub, 1) := by decide +kernel
theorem dX12_nextTo_45 : decode cX12_nextTo 45 = .ok (.istore_n 3, 1) := by decide +kernel
theorem dX12_nextTo_46 : decode cX12_nextTo 46 = .ok (.iinc 4 1, 3) := by decide +kernel
theorem dX12_nextTo_49 : decode cX12_nextTo 49 = .ok (.goto (-44), 3) := by decide +kernel
theorem dX12_nextTo_52 : decode cX12_nextTo 52 = .ok (.iload 4, 2) := by decide +kernel
theorem dX12_nextTo_54 : decode cX12_nextTo 54 = .ok (.ireturn, 1) := by decide +kernel
abbrev Pl_M_nextTo_5 (G : am_G) : ((Int32 × Int32 × Int32 × am_St) ⊕ (Int32 × am_St)) → am_AQ → Prop := am_PL G M_M_nextTo 5 (fun s : Int32 × Int32 × Int32 × am_St => [(4, .int s.2.2.1), (3, .int s.2.1), (1, .int s.1), (0, .ref 66)]) (fun s => s.2.2.2) am_Pi
noncomputable def g_M_nextTo_44 (x1 : Int32) (x4 : Int32) (y0 : Int32) (y1 : Int32) (σ : am_St) : Option ((Int32 × Int32 × Int32 × am_St) ⊕ (Int32 × am_St)) :=
  let v1 := y0 - y1
  let v2 := x4 + 1
  some (.inl (x1, v1, v2, σ))
noncomputable def f_M_nextTo_44 (x1 : Int32) (x4 : Int32) (y0 : Int32) (y1 : Int32) (σ : am_St) : Option ((Int32 × Int32 × Int32 × am_St) ⊕ (Int32 × am_St)) := am_lk (g_M_nextTo_44 x1 x4 y0 y1 σ)
theorem eq_M_nextTo_44 (x1 : Int32) (x4 : Int32) (y0 : Int32) (y1 : Int32) (σ : am_St) : f_M_nextTo_44 x1 x4 y0 y1 σ = g_M_nextTo_44 x1 x4 y0 y1 σ := am_lk_eq _
set_option maxRecDepth 100000 in
set_option maxHeartbeats 4000000 in
theorem s_M_nextTo_44 (G : am_G) (x1 : Int32) (x4 : Int32) (y0 : Int32) (y1 : Int32) (σ : am_St) (r : (Int32 × Int32 × Int32 × am_St) ⊕ (Int32 × am_St)) (Q : am_AQ) (e : f_M_nextTo_44 x1 x4 y0 y1 σ = some r) (hr : (Pl_M_nextTo_5 G) r Q) : am_AW G M_M_nextTo 44 [(4, .int x4), (1, .int x1), (0, .ref 66)] [.int y1, .int y0] σ Q :=
  (show am_Snd G M_M_nextTo 44 (Pl_M_nextTo_5 G) _ from (sn_isub (pc := 44) dX12_nextTo_44 (sn_istore_n (pc := 45) (i := 3) dX12_nextTo_45 rfl (Nat.le_of_ble_eq_true rfl) (sn_iinc (pc := 46) (v := 1) dX12_nextTo_46 rfl (Nat.le_of_ble_eq_true rfl) (sn_goto (pc := 49) (tgt := 5) dX12_nextTo_49 rfl (sn_lf (pc := 5) (ln_a (i := 0) (q := 66) (ln_i (i := 1) (fun z0 => (ln_i (i := 3) (fun z1 => (ln_i (i := 4) (fun z2 => (ln_end (o := fun τ => (some (.inl (z0, z1, z2, τ)) : Option ((Int32 × Int32 × Int32 × am_St) ⊕ (Int32 × am_St)))) (fun _ _ _ e h => by cases e; exact h))))))))))))))) _ _ _ _ _ ((eq_M_nextTo_44 x1 x4 y0 y1 σ).symm.trans e) hr
noncomputable def g_M_nextTo_24 (x1 : Int32) (x3 : Int32) (x4 : Int32) (σ : am_St) : Option ((Int32 × Int32 × Int32 × am_St) ⊕ (Int32 × am_St)) :=
  if am_ix x1 4 = true then
    (f_M_has (σ.1 67 x1.toNatClampNeg) x4 σ).bind (fun p1 =>
      if p1.1 = 0 then
        f_M_nextTo_44 x1 x4 x3 0 p1.2
      else
        f_M_nextTo_44 x1 x4 x3 1 p1.2)
  else none
noncomputable def f_M_nextTo_24 (x1 : Int32) (x3 : Int32) (x4 : Int32) (σ : am_St) : Option ((Int32 × Int32 × Int32 × am_St) ⊕ (Int32 × am_St)) := am_lk (g_M_nextTo_24 x1 x3 x4 σ)
theorem eq_M_nextTo_24 (x1 : Int32) (x3 : Int32) (x4 : Int32) (σ : am_St) : f_M_nextTo_24 x1 x3 x4 σ = g_M_nextTo_24 x1 x3 x4 σ := am_lk_eq _
set_option maxRecDepth 100000 in
set_option maxHeartbeats 4000000 in
theorem s_M_nextTo_24 (G : am_G) (x1 : Int32) (x3 : Int32) (x4 : Int32) (σ : am_St) (r : (Int32 × Int32 × Int32 × am_St) ⊕ (Int32 × am_St)) (Q : am_AQ) (e : f_M_nextTo_24 x1 x3 x4 σ = some r) (hr : (Pl_M_nextTo_5 G) r Q) : am_AW G M_M_nextTo 24 [(4, .int x4), (3, .int x3), (1, .int x1), (0, .ref 66)] [] σ Q :=
  (show am_Snd G M_M_nextTo 24 (Pl_M_nextTo_5 G) _ from (sn_iload_n (pc := 24) (i := 3) dX12_nextTo_24 rfl (sn_aload_n (pc := 25) (i := 0) dX12_nextTo_25 rfl (sn_gR (r0 := 67) (pc := 26) (h := 66) (f := 7) dX12_nextTo_26 am_CL_11 sh_66 rfl (Nat.le_of_ble_eq_true rfl) tw_948 (sn_iload_n (pc := 29) (i := 1) dX12_nextTo_29 rfl (sn_aI (pc := 30) (h := 67) dX12_nextTo_30 sh_67 (sn_iload (pc := 31) dX12_nextTo_31 (sn_callS (pc := 33) (N := M_M_has) dX12_nextTo_33 (cal_M_has G) tw_1170 tw_1171 tw_12 tw_1172 dsc_X12_has rfl (sn_if_eq (pc := 36) (tgt := 43) dX12_nextTo_36 rfl (sn_iconst (pc := 43) (v := 0) dX12_nextTo_43 rfl (sn_lf (pc := 44) (ln_a (i := 0) (q := 66) (ln_i (i := 1) (fun z0 => (ln_i (i := 4) (fun z1 => (ln_si (fun w1 => (ln_si (fun w0 => (ln_end (o := fun τ => f_M_nextTo_44 z0 z1 w0 w1 τ) (fun _ _ _ e h => s_M_nextTo_44 G z0 z1 w0 w1 _ _ _ e h))))))))))))) (sn_iconst (pc := 39) (v := 1) dX12_nextTo_39 rfl (sn_goto (pc := 40) (tgt := 44) dX12_nextTo_40 rfl (sn_lf (pc := 44) (ln_a (i := 0) (q := 66) (ln_i (i := 1) (fun z0 => (ln_i (i := 4) (fun z1 => (ln_si (fun w1 => (ln_si (fun w0 => (ln_end (o := fun τ => f_M_nextTo_44 z0 z1 w0 w1 τ) (fun _ _ _ e h => s_M_nextTo_44 G z0 z1 w0 w1 _ _ _ e h))))))))))))))))))))))) _ _ _ _ _ ((eq_M_nextTo_24 x1 x3 x4 σ).symm.trans e) hr
noncomputable def b_M_nextTo_5 (x1 : Int32) (x3 : Int32) (x4 : Int32) (σ : am_St) : Option ((Int32 × Int32 × Int32 × am_St) ⊕ (Int32 × am_St)) :=
  if am_ix x1 4 = true then
    (f_M_has (σ.1 67 x1.toNatClampNeg) x4 σ).bind (fun p1 =>
      if p1.1 = 0 then
        f_M_nextTo_24 x1 x3 x4 p1.2
      else
        if x3 ≤ 1 then
          some (.inr ((x4, p1.2)))
        else
          f_M_nextTo_24 x1 x3 x4 p1.2)
  else none
noncomputable def f_M_nextTo_5 (x1 : Int32) (x3 : Int32) (x4 : Int32) (σ : am_St) : Option (Int32 × am_St) := am_lp (fun s : Int32 × Int32 × Int32 × am_St => b_M_nextTo_5 s.1 s.2.1 s.2.2.1 s.2.2.2) (x1, x3, x4, σ)
set_option maxRecDepth 100000 in
set_option maxHeartbeats 4000000 in
theorem sb_M_nextTo_5 (G : am_G) (x1 : Int32) (x3 : Int32) (x4 : Int32) (σ : am_St) (r : (Int32 × Int32 × Int32 × am_St) ⊕ (Int32 × am_St)) (Q : am_AQ) (e : b_M_nextTo_5 x1 x3 x4 σ = some r) (hr : Pl_M_nextTo_5 G r Q) : am_AW G M_M_nextTo 5 [(4, .int x4), (3, .int x3), (1, .int x1), (0, .ref 66)] [] σ Q :=
  (show am_Snd G M_M_nextTo 5 (Pl_M_nextTo_5 G) _ from (sn_aload_n (pc := 5) (i := 0) dX12_nextTo_5 rfl (sn_gR (r0 := 67) (pc := 6) (h := 66) (f := 7) dX12_nextTo_6 am_CL_11 sh_66 rfl (Nat.le_of_ble_eq_true rfl) tw_948 (sn_iload_n (pc := 9) (i := 1) dX12_nextTo_9 rfl (sn_aI (pc := 10) (h := 67) dX12_nextTo_10 sh_67 (sn_iload (pc := 11) dX12_nextTo_11 (sn_callS (pc := 13) (N := M_M_has) dX12_nextTo_13 (cal_M_has G) tw_1170 tw_1171 tw_12 tw_1172 dsc_X12_has rfl (sn_if_eq (pc := 16) (tgt := 24) dX12_nextTo_16 rfl (sn_lf (pc := 24) (ln_a (i := 0) (q := 66) (ln_i (i := 1) (fun z0 => (ln_i (i := 3) (fun z1 => (ln_i (i := 4) (fun z2 => (ln_end (o := fun τ => f_M_nextTo_24 z0 z1 z2 τ) (fun _ _ _ e h => s_M_nextTo_24 G z0 z1 z2 _ _ _ e h)))))))))) (sn_iload_n (pc := 19) (i := 3) dX12_nextTo_19 rfl (sn_iconst (pc := 20) (v := 1) dX12_nextTo_20 rfl (sn_icmp_le (pc := 21) (tgt := 52) dX12_nextTo_21 rfl (sn_iload (pc := 52) dX12_nextTo_52 (sn_reti (pc := 54) (R := fun x τ => (some (.inr ((x, τ))) : Option ((Int32 × Int32 × Int32 × am_St) ⊕ (Int32 × am_St)))) dX12_nextTo_54 rfl (fun _ _ _ _ e h => by cases e; exact h))) (sn_lf (pc := 24) (ln_a (i := 0) (q := 66) (ln_i (i := 1) (fun z0 => (ln_i (i := 3) (fun z1 => (ln_i (i := 4) (fun z2 => (ln_end (o := fun τ => f_M_nextTo_24 z0 z1 z2 τ) (fun _ _ _ e h => s_M_nextTo_24 G z0 z1 z2 _ _ _ e h))))))))))))))))))))) _ _ _ _ _ e hr
theorem s_M_nextTo_5 (G : am_G) (x1 : Int32) (x3 : Int32) (x4 : Int32) (σ : am_St) (r : Int32 × am_St) (Q : am_AQ) (e : f_M_nextTo_5 x1 x3 x4 σ = some r) (hr : am_Pi r Q) : am_AW G M_M_nextTo 5 [(4, .int x4), (3, .int x3), (1, .int x1), (0, .ref 66)] [] σ Q :=
  am_loop (P := am_Pi) (L := fun s : Int32 × Int32 × Int32 × am_St => [(4, .int s.2.2.1), (3, .int s.2.1), (1, .int s.1), (0, .ref 66)]) (g := fun s => s.2.2.2) (fun s o Q e hr => sb_M_nextTo_5 G s.1 s.2.1 s.2.2.1 s.2.2.2 o Q e hr) (x1, x3, x4, σ) r Q e hr
noncomputable def g_M_nextTo (x1 : Int32) (x2 : Int32) (σ : am_St) : Option (Int32 × am_St) :=
  f_M_nextTo_5 x1 x2 0 σ
noncomputable def f_M_nextTo (x1 : Int32) (x2 : Int32) (σ : am_St) : Option (Int32 × am_St) := am_lk (g_M_nextTo x1 x2 σ)
theorem eq_M_nextTo (x1 : Int32) (x2 : Int32) (σ : am_St) : f_M_nextTo x1 x2 σ = g_M_nextTo x1 x2 σ := am_lk_eq _
set_option maxRecDepth 100000 in
set_option maxHeartbeats 4000000 in
theorem s_M_nextTo (G : am_G) (x1 : Int32) (x2 : Int32) (σ : am_St) (r : Int32 × am_St) (Q : am_AQ) (e : f_M_nextTo x1 x2 σ = some r) (hr : am_Pi r Q) : am_AW G M_M_nextTo 0 [(0, .ref 66), (1, .int x1), (2, .int x2)] [] σ Q :=
  (show am_Snd G M_M_nextTo 0 am_Pi _ from (sn_iload_n (pc := 0) (i := 2) dX12_nextTo_0 rfl (sn_istore_n (pc := 1) (i := 3) dX12_nextTo_1 rfl (Nat.le_of_ble_eq_true rfl) (sn_iconst (pc := 2) (v := 0) dX12_nextTo_2 rfl (sn_istore (pc := 3) dX12_nextTo_3 (Nat.le_of_ble_eq_true rfl) (sn_lf (pc := 5) (ln_a (i := 0) (q := 66) (ln_i (i := 1) (fun z0 => (ln_i (i := 3) (fun z1 => (ln_i (i := 4) (fun z2 => (ln_end (o := fun τ => f_M_nextTo_5 z0 z1 z2 τ) (fun _ _ _ e h => s_M_nextTo_5 G z0 z1 z2 _ _ _ e h))))))))))))))) _ _ _ _ _ ((eq_M_nextTo x1 x2 σ).symm.trans e) hr
noncomputable def cF_M_nextTo : am_Fn := fun _ args σ K => match args with
  | [.ref q0, .int z1, .int z2] => match Nat.beq q0 66 with
    | true => (f_M_nextTo z1 z2 σ).bind (fun p => K (some (.int p.1)) p.2)
    | _ => none
  | _ => none
theorem cal_M_nextTo (G : am_G) : am_Cal G M_M_nextTo cF_M_nextTo := by
  intro ρ args σ K r e
  unfold cF_M_nextTo at e
  split at e
  · split at e
    · rename_i hq0
      obtain ⟨p, h1, h2⟩ := am_bind_some e
      rw [Nat.eq_of_beq_eq_true hq0]
      exact ⟨some (.int p.1), p.2, am_Met.of rfl (Nat.le_of_ble_eq_true rfl) (s_M_nextTo G _ _ σ p _ h1 ⟨rfl, rfl⟩), h2⟩
    · cases e
  · cases e
abbrev M_M_goesThere : am_MD := (yX12_goesThere, cX12_goesThere, 5, (some .boolean), 2, 45)
theorem dX12_goesThere_0 : decode cX12_goesThere 0 = .ok (.aload_n 0, 1) := by decide +kernel
theorem dX12_goesThere_1 : decode cX12_goesThere 1 = .ok (.aload_n 0, 1) := by decide +kernel
theorem dX12_goesThere_2 : decode cX12_goesThere 2 = .ok (.getfield 7, 3) := by decide +kernel
theorem dX12_goesThere_5 : decode cX12_goesThere 5 = .ok (.invokevirtual 355, 3) := by decide +kernel
theorem dX12_goesThere_8 : decode cX12_goesThere 8 = .ok (.istore_n 1, 1) := by decide +kernel
theorem dX12_goesThere_9 : decode cX12_goesThere 9 = .ok (.aload_n 0, 1) := by decide +kernel
theorem dX12_goesThere_10 : decode cX12_goesThere 10 = .ok (.getfield 127, 3) := by decide +kernel
theorem dX12_goesThere_13 : decode cX12_goesThere 13 = .ok (.ifCond .ne 15, 3) := by decide +kernel
theorem dX12_goesThere_16 : decode cX12_goesThere 16 = .ok (.iload_n 1, 1) := by decide +kernel
theorem dX12_goesThere_17 : decode cX12_goesThere 17 = .ok (.aload_n 0, 1) := by decide +kernel
theorem dX12_goesThere_18 : decode cX12_goesThere 18 = .ok (.getfield 130, 3) := by decide +kernel
theorem dX12_goesThere_21 : decode cX12_goesThere 21 = .ok (.if_icmp .ne 7, 3) := by decide +kernel
theorem dX12_goesThere_24 : decode cX12_goesThere 24 = .ok (.iconst 1, 1) := by decide +kernel
theorem dX12_goesThere_25 : decode cX12_goesThere 25 = .ok (.goto 4, 3) := by decide +kernel
theorem dX12_goesThere_28 : decode cX12_goesThere 28 = .ok (.iconst 0, 1) := by decide +kernel
theorem dX12_goesThere_29 : decode cX12_goesThere 29 = .ok (.istore_n 2, 1) := by decide +kernel
theorem dX12_goesThere_30 : decode cX12_goesThere 30 = .ok (.iconst 1, 1) := by decide +kernel
theorem dX12_goesThere_31 : decode cX12_goesThere 31 = .ok (.istore_n 3, 1) := by decide +kernel
theorem dX12_goesThere_32 : decode cX12_goesThere 32 = .ok (.iload_n 3, 1) := by decide +kernel
theorem dX12_goesThere_33 : decode cX12_goesThere 33 = .ok (.aload_n 0, 1) := by decide +kernel
theorem dX12_goesThere_34 : decode cX12_goesThere 34 = .ok (.getfield 13, 3) := by decide +kernel
theorem dX12_goesThere_37 : decode cX12_goesThere 37 = .ok (.if_icmp .ge 69, 3) := by decide +kernel
theorem dX12_goesThere_40 : decode cX12_goesThere 40 = .ok (.aload_n 0, 1) := by decide +kernel
theorem dX12_goesThere_41 : decode cX12_goesThere 41 = .ok (.aload_n 0, 1) := by decide +kernel
theorem dX12_goesThere_42 : decode cX12_goesThere 42 = .ok (.getfield 16, 3) := by decide +kernel
theorem dX12_goesThere_45 : decode cX12_goesThere 45 = .ok (.iload_n 1, 1) := by decide +kernel
theorem dX12_goesThere_46 : decode cX12_goesThere 46 = .ok (.iaload, 1) := by decide +kernel
theorem dX12_goesThere_47 : decode cX12_goesThere 47 = .ok (.invokestatic 297, 3) := by decide +kernel
theorem dX12_goesThere_50 : decode cX12_goesThere 50 = .ok (.iconst 1, 1) := by decide +kernel
theorem dX12_goesThere_51 : decode cX12_goesThere 51 = .ok (.iadd, 1) := by decide +kernel
theorem dX12_goesThere_52 : decode cX12_goesThere 52 = .ok (.invokevirtual 355, 3) := by decide +kernel
theorem dX12_goesThere_55 : decode cX12_goesThere 55 = .ok (.istore 4, 2) := by decide +kernel
theorem dX12_goesThere_57 : decode cX12_goesThere 57 = .ok (.iload 4, 2) := by decide +kernel
theorem dX12_goesThere_59 : decode cX12_goesThere 59 = .ok (.ifCond .ne 7, 3) := by decide +kernel
theorem dX12_goesThere_62 : decode cX12_goesThere 62 = .ok (.iload_n 1, 1) := by decide +kernel
theorem dX12_goesThere_63 : decode cX12_goesThere 63 = .ok (.goto 10, 3) := by decide +kernel
theorem dX12_goesThere_66 : decode cX12_goesThere 66 = .ok (.aload_n 0, 1) := by decide +kernel
theorem dX12_goesThere_67 : decode cX12_goesThere 67 = .ok (.iload_n 1, 1) := by decide +kernel
theorem dX12_goesThere_68 : decode cX12_goesThere 68 = .ok (.iload 4, 2) := by decide +kernel
theorem dX12_goesThere_70 : decode cX12_goesThere 70 = .ok (.invokevirtual 358, 3) := by decide +kernel
theorem dX12_goesThere_73 : decode cX12_goesThere 73 = .ok (.istore_n 1, 1) := by decide +kernel
theorem dX12_goesThere_74 : decode cX12_goesThere 74 = .ok (.iload_n 2, 1) := by decide +kernel
theorem dX12_goesThere_75 : decode cX12_goesThere 75 = .ok (.ifCond .ne 19, 3) := by decide +kernel
theorem dX12_goesThere_78 : decode cX12_goesThere 78 = .ok (.aload_n 0, 1) := by decide +kernel
theorem dX12_goesThere_79 : decode cX12_goesThere 79 = .ok (.getfield 127, 3) := by decide +kernel
theorem dX12_goesThere_82 : decode cX12_goesThere 82 = .ok (.iload_n 3, 1) := by decide +kernel
theorem dX12_goesThere_83 : decode cX12_goesThere 83 = .ok (.if_icmp .ne 15, 3) := by decide +kernel
theorem dX12_goesThere_86 : decode cX12_goesThere 86 = .ok (.iload_n 1, 1) := by decide +kernel
theorem dX12_goesThere_87 : decode cX12_goesThere 87 = .ok (.aload_n 0, 1) := by decide +kernel
theorem dX12_goesThere_88 : decode cX12_goesThere 88 = .ok (.getfield 130, 3) := by decide +kernel
theorem dX12_goesThere_91 : decode cX12_goesThere 91 = .ok (.if_icmp .ne 7, 3) := by decide +kernel
theorem dX12_goesThere_94 : decode cX12_goesThere 94 = .ok (.iconst 1, 1) := by decide +kernel
theorem dX12_goesThere_95 : decode cX12_goesThere 95 = .ok (.goto 4, 3) := by decide +kernel
theorem dX12_goesThere_98 : decode cX12_goesThere 98 = .ok (.iconst 0, 1) := by decide +kernel
theorem dX12_goesThere_99 : decode cX12_goesThere 99 = .ok (.istore_n 2, 1) := by decide +kernel
theorem dX12_goesThere_100 : decode cX12_goesThere 100 = .ok (.iinc 3 1, 3) := by decide +kernel
theorem dX12_goesThere_103 : decode cX12_goesThere 103 = .ok (.goto (-71), 3) := by decide +kernel
theorem dX12_goesThere_106 : decode cX12_goesThere 106 = .ok (.iload_n 2, 1) := by decide +kernel
theorem dX12_goesThere_107 : decode cX12_goesThere 107 = .ok (.ireturn, 1) := by decide +kernel
abbrev Pl_M_goesThere_32 (G : am_G) : ((Int32 × Int32 × Int32 × am_St) ⊕ (Int32 × am_St)) → am_AQ → Prop := am_PL G M_M_goesThere 32 (fun s : Int32 × Int32 × Int32 × am_St => [(3, .int s.2.2.1), (2, .int s.2.1), (1, .int s.1), (0, .ref 66)]) (fun s => s.2.2.2) am_Pi
noncomputable def g_M_goesThere_99 (x1 : Int32) (x3 : Int32) (y0 : Int32) (σ : am_St) : Option ((Int32 × Int32 × Int32 × am_St) ⊕ (Int32 × am_St)) :=
  let v1 := x3 + 1
  some (.inl (x1, y0, v1, σ))
noncomputable def f_M_goesThere_99 (x1 : Int32) (x3 : Int32) (y0 : Int32) (σ : am_St) : Option ((Int32 × Int32 × Int32 × am_St) ⊕ (Int32 × am_St)) := am_lk (g_M_goesThere_99 x1 x3 y0 σ)
theorem eq_M_goesThere_99 (x1 : Int32) (x3 : Int32) (y0 : Int32) (σ : am_St) : f_M_goesThere_99 x1 x3 y0 σ = g_M_goesThere_99 x1 x3 y0 σ := am_lk_eq _
set_option maxRecDepth 100000 in
set_option maxHeartbeats 4000000 in
theorem s_M_goesThere_99 (G : am_G) (x1 : Int32) (x3 : Int32) (y0 : Int32) (σ : am_St) (r : (Int32 × Int32 × Int32 × am_St) ⊕ (Int32 × am_St)) (Q : am_AQ) (e : f_M_goesThere_99 x1 x3 y0 σ = some r) (hr : (Pl_M_goesThere_32 G) r Q) : am_AW G M_M_goesThere 99 [(3, .int x3), (1, .int x1), (0, .ref 66)] [.int y0] σ Q :=
  (show am_Snd G M_M_goesThere 99 (Pl_M_goesThere_32 G) _ from (sn_istore_n (pc := 99) (i := 2) dX12_goesThere_99 rfl (Nat.le_of_ble_eq_true rfl) (sn_iinc (pc := 100) (v := 1) dX12_goesThere_100 rfl (Nat.le_of_ble_eq_true rfl) (sn_goto (pc := 103) (tgt := 32) dX12_goesThere_103 rfl (sn_lf (pc := 32) (ln_a (i := 0) (q := 66) (ln_i (i := 1) (fun z0 => (ln_i (i := 2) (fun z1 => (ln_i (i := 3) (fun z2 => (ln_end (o := fun τ => (some (.inl (z0, z1, z2, τ)) : Option ((Int32 × Int32 × Int32 × am_St) ⊕ (Int32 × am_St)))) (fun _ _ _ e h => by cases e; exact h)))))))))))))) _ _ _ _ _ ((eq_M_goesThere_99 x1 x3 y0 σ).symm.trans e) hr
noncomputable def g_M_goesThere_94 (x1 : Int32) (x3 : Int32) (σ : am_St) : Option ((Int32 × Int32 × Int32 × am_St) ⊕ (Int32 × am_St)) :=
  f_M_goesThere_99 x1 x3 1 σ
noncomputable def f_M_goesThere_94 (x1 : Int32) (x3 : Int32) (σ : am_St) : Option ((Int32 × Int32 × Int32 × am_St) ⊕ (Int32 × am_St)) := am_lk (g_M_goesThere_94 x1 x3 σ)
theorem eq_M_goesThere_94 (x1 : Int32) (x3 : Int32) (σ : am_St) : f_M_goesThere_94 x1 x3 σ = g_M_goesThere_94 x1 x3 σ := am_lk_eq _
set_option maxRecDepth 100000 in
set_option maxHeartbeats 4000000 in
theorem s_M_goesThere_94 (G : am_G) (x1 : Int32) (x3 : Int32) (σ : am_St) (r : (Int32 × Int32 × Int32 × am_St) ⊕ (Int32 × am_St)) (Q : am_AQ) (e : f_M_goesThere_94 x1 x3 σ = some r) (hr : (Pl_M_goesThere_32 G) r Q) : am_AW G M_M_goesThere 94 [(3, .int x3), (1, .int x1), (0, .ref 66)] [] σ Q :=
  (show am_Snd G M_M_goesThere 94 (Pl_M_goesThere_32 G) _ from (sn_iconst (pc := 94) (v := 1) dX12_goesThere_94 rfl (sn_goto (pc := 95) (tgt := 99) dX12_goesThere_95 rfl (sn_lf (pc := 99) (ln_a (i := 0) (q := 66) (ln_i (i := 1) (fun z0 => (ln_i (i := 3) (fun z1 => (ln_si (fun w0 => (ln_end (o := fun τ => f_M_goesThere_99 z0 z1 w0 τ) (fun _ _ _ e h => s_M_goesThere_99 G z0 z1 w0 _ _ _ e h))))))))))))) _ _ _ _ _ ((eq_M_goesThere_94 x1 x3 σ).symm.trans e) hr
noncomputable def g_M_goesThere_98 (x1 : Int32) (x3 : Int32) (σ : am_St) : Option ((Int32 × Int32 × Int32 × am_St) ⊕ (Int32 × am_St)) :=
  f_M_goesThere_99 x1 x3 0 σ
noncomputable def f_M_goesThere_98 (x1 : Int32) (x3 : Int32) (σ : am_St) : Option ((Int32 × Int32 × Int32 × am_St) ⊕ (Int32 × am_St)) := am_lk (g_M_goesThere_98 x1 x3 σ)
theorem eq_M_goesThere_98 (x1 : Int32) (x3 : Int32) (σ : am_St) : f_M_goesThere_98 x1 x3 σ = g_M_goesThere_98 x1 x3 σ := am_lk_eq _
set_option maxRecDepth 100000 in
set_option maxHeartbeats 4000000 in
theorem s_M_goesThere_98 (G : am_G) (x1 : Int32) (x3 : Int32) (σ : am_St) (r : (Int32 × Int32 × Int32 × am_St) ⊕ (Int32 × am_St)) (Q : am_AQ) (e : f_M_goesThere_98 x1 x3 σ = some r) (hr : (Pl_M_goesThere_32 G) r Q) : am_AW G M_M_goesThere 98 [(3, .int x3), (1, .int x1), (0, .ref 66)] [] σ Q :=
  (show am_Snd G M_M_goesThere 98 (Pl_M_goesThere_32 G) _ from (sn_iconst (pc := 98) (v := 0) dX12_goesThere_98 rfl (sn_lf (pc := 99) (ln_a (i := 0) (q := 66) (ln_i (i := 1) (fun z0 => (ln_i (i := 3) (fun z1 => (ln_si (fun w0 => (ln_end (o := fun τ => f_M_goesThere_99 z0 z1 w0 τ) (fun _ _ _ e h => s_M_goesThere_99 G z0 z1 w0 _ _ _ e h)))))))))))) _ _ _ _ _ ((eq_M_goesThere_98 x1 x3 σ).symm.trans e) hr
noncomputable def g_M_goesThere_73 (x2 : Int32) (x3 : Int32) (y0 : Int32) (σ : am_St) : Option ((Int32 × Int32 × Int32 × am_St) ⊕ (Int32 × am_St)) :=
  if x2 = 0 then
    if (σ.1 66 6) = x3 then
      if y0 = (σ.1 66 5) then
        f_M_goesThere_94 y0 x3 σ
      else
        f_M_goesThere_98 y0 x3 σ
    else
      f_M_goesThere_98 y0 x3 σ
  else
    f_M_goesThere_94 y0 x3 σ
noncomputable def f_M_goesThere_73 (x2 : Int32) (x3 : Int32) (y0 : Int32) (σ : am_St) : Option ((Int32 × Int32 × Int32 × am_St) ⊕ (Int32 × am_St)) := am_lk (g_M_goesThere_73 x2 x3 y0 σ)
theorem eq_M_goesThere_73 (x2 : Int32) (x3 : Int32) (y0 : Int32) (σ : am_St) : f_M_goesThere_73 x2 x3 y0 σ = g_M_goesThere_73 x2 x3 y0 σ := am_lk_eq _
set_option maxRecDepth 100000 in
set_option maxHeartbeats 4000000 in
theorem s_M_goesThere_73 (G : am_G) (x2 : Int32) (x3 : Int32) (y0 : Int32) (σ : am_St) (r : (Int32 × Int32 × Int32 × am_St) ⊕ (Int32 × am_St)) (Q : am_AQ) (e : f_M_goesThere_73 x2 x3 y0 σ = some r) (hr : (Pl_M_goesThere_32 G) r Q) : am_AW G M_M_goesThere 73 [(3, .int x3), (2, .int x2), (0, .ref 66)] [.int y0] σ Q :=
  (show am_Snd G M_M_goesThere 73 (Pl_M_goesThere_32 G) _ from (sn_istore_n (pc := 73) (i := 1) dX12_goesThere_73 rfl (Nat.le_of_ble_eq_true rfl) (sn_iload_n (pc := 74) (i := 2) dX12_goesThere_74 rfl (sn_if_ne (pc := 75) (tgt := 94) dX12_goesThere_75 rfl (sn_lf (pc := 94) (ln_a (i := 0) (q := 66) (ln_i (i := 1) (fun z0 => (ln_i (i := 3) (fun z1 => (ln_end (o := fun τ => f_M_goesThere_94 z0 z1 τ) (fun _ _ _ e h => s_M_goesThere_94 G z0 z1 _ _ _ e h)))))))) (sn_aload_n (pc := 78) (i := 0) dX12_goesThere_78 rfl (sn_gI (pc := 79) (h := 66) (f := 6) dX12_goesThere_79 am_CL_11 sh_66 rfl (Nat.le_of_ble_eq_true rfl) tw_947 (sn_iload_n (pc := 82) (i := 3) dX12_goesThere_82 rfl (sn_icmp_ne (pc := 83) (tgt := 98) dX12_goesThere_83 rfl (sn_lf (pc := 98) (ln_a (i := 0) (q := 66) (ln_i (i := 1) (fun z0 => (ln_i (i := 3) (fun z1 => (ln_end (o := fun τ => f_M_goesThere_98 z0 z1 τ) (fun _ _ _ e h => s_M_goesThere_98 G z0 z1 _ _ _ e h)))))))) (sn_iload_n (pc := 86) (i := 1) dX12_goesThere_86 rfl (sn_aload_n (pc := 87) (i := 0) dX12_goesThere_87 rfl (sn_gI (pc := 88) (h := 66) (f := 5) dX12_goesThere_88 am_CL_11 sh_66 rfl (Nat.le_of_ble_eq_true rfl) tw_946 (sn_icmp_ne (pc := 91) (tgt := 98) dX12_goesThere_91 rfl (sn_lf (pc := 98) (ln_a (i := 0) (q := 66) (ln_i (i := 1) (fun z0 => (ln_i (i := 3) (fun z1 => (ln_end (o := fun τ => f_M_goesThere_98 z0 z1 τ) (fun _ _ _ e h => s_M_goesThere_98 G z0 z1 _ _ _ e h)))))))) (sn_lf (pc := 94) (ln_a (i := 0) (q := 66) (ln_i (i := 1) (fun z0 => (ln_i (i := 3) (fun z1 => (ln_end (o := fun τ => f_M_goesThere_94 z0 z1 τ) (fun _ _ _ e h => s_M_goesThere_94 G z0 z1 _ _ _ e h)))))))))))))))))))) _ _ _ _ _ ((eq_M_goesThere_73 x2 x3 y0 σ).symm.trans e) hr
noncomputable def g_M_goesThere_57 (x1 : Int32) (x2 : Int32) (x3 : Int32) (x4 : Int32) (σ : am_St) : Option ((Int32 × Int32 × Int32 × am_St) ⊕ (Int32 × am_St)) :=
  if x4 = 0 then
    f_M_goesThere_73 x2 x3 x1 σ
  else
    (f_M_nextTo x1 x4 σ).bind (fun p1 =>
      f_M_goesThere_73 x2 x3 p1.1 p1.2)
noncomputable def f_M_goesThere_57 (x1 : Int32) (x2 : Int32) (x3 : Int32) (x4 : Int32) (σ : am_St) : Option ((Int32 × Int32 × Int32 × am_St) ⊕ (Int32 × am_St)) := am_lk (g_M_goesThere_57 x1 x2 x3 x4 σ)
theorem eq_M_goesThere_57 (x1 : Int32) (x2 : Int32) (x3 : Int32) (x4 : Int32) (σ : am_St) : f_M_goesThere_57 x1 x2 x3 x4 σ = g_M_goesThere_57 x1 x2 x3 x4 σ := am_lk_eq _
set_option maxRecDepth 100000 in
set_option maxHeartbeats 4000000 in
theorem s_M_goesThere_57 (G : am_G) (x1 : Int32) (x2 : Int32) (x3 : Int32) (x4 : Int32) (σ : am_St) (r : (Int32 × Int32 × Int32 × am_St) ⊕ (Int32 × am_St)) (Q : am_AQ) (e : f_M_goesThere_57 x1 x2 x3 x4 σ = some r) (hr : (Pl_M_goesThere_32 G) r Q) : am_AW G M_M_goesThere 57 [(4, .int x4), (3, .int x3), (2, .int x2), (1, .int x1), (0, .ref 66)] [] σ Q :=
  (show am_Snd G M_M_goesThere 57 (Pl_M_goesThere_32 G) _ from (sn_iload (pc := 57) dX12_goesThere_57 (sn_if_ne (pc := 59) (tgt := 66) dX12_goesThere_59 rfl (sn_aload_n (pc := 66) (i := 0) dX12_goesThere_66 rfl (sn_iload_n (pc := 67) (i := 1) dX12_goesThere_67 rfl (sn_iload (pc := 68) dX12_goesThere_68 (sn_callV (pc := 70) (N := M_M_nextTo) dX12_goesThere_70 (cal_M_nextTo G) sh_66 rfl tw_1455 tw_1457 tp_72 tw_12 tw_1458 dsc_X12_nextTo rfl (sn_lf (pc := 73) (ln_a (i := 0) (q := 66) (ln_i (i := 2) (fun z0 => (ln_i (i := 3) (fun z1 => (ln_si (fun w0 => (ln_end (o := fun τ => f_M_goesThere_73 z0 z1 w0 τ) (fun _ _ _ e h => s_M_goesThere_73 G z0 z1 w0 _ _ _ e h)))))))))))))) (sn_iload_n (pc := 62) (i := 1) dX12_goesThere_62 rfl (sn_goto (pc := 63) (tgt := 73) dX12_goesThere_63 rfl (sn_lf (pc := 73) (ln_a (i := 0) (q := 66) (ln_i (i := 2) (fun z0 => (ln_i (i := 3) (fun z1 => (ln_si (fun w0 => (ln_end (o := fun τ => f_M_goesThere_73 z0 z1 w0 τ) (fun _ _ _ e h => s_M_goesThere_73 G z0 z1 w0 _ _ _ e h))))))))))))))) _ _ _ _ _ ((eq_M_goesThere_57 x1 x2 x3 x4 σ).symm.trans e) hr
noncomputable def b_M_goesThere_32 (x1 : Int32) (x2 : Int32) (x3 : Int32) (σ : am_St) : Option ((Int32 × Int32 × Int32 × am_St) ⊕ (Int32 × am_St)) :=
  if (σ.1 66 1) ≤ x3 then
    if x2 &&& 1 = x2 then some (.inr ((x2, σ))) else none
  else
    if am_ix x1 4 = true then
      (f_M_ones (σ.1 67 x1.toNatClampNeg) σ).bind (fun p1 =>
        (f_M_draw (p1.1 + 1) p1.2).bind (fun p2 =>
          f_M_goesThere_57 x1 x2 x3 p2.1 p2.2))
    else none
noncomputable def f_M_goesThere_32 (x1 : Int32) (x2 : Int32) (x3 : Int32) (σ : am_St) : Option (Int32 × am_St) := am_lp (fun s : Int32 × Int32 × Int32 × am_St => b_M_goesThere_32 s.1 s.2.1 s.2.2.1 s.2.2.2) (x1, x2, x3, σ)
set_option maxRecDepth 100000 in
set_option maxHeartbeats 4000000 in
theorem sb_M_goesThere_32 (G : am_G) (x1 : Int32) (x2 : Int32) (x3 : Int32) (σ : am_St) (r : (Int32 × Int32 × Int32 × am_St) ⊕ (Int32 × am_St)) (Q : am_AQ) (e : b_M_goesThere_32 x1 x2 x3 σ = some r) (hr : Pl_M_goesThere_32 G r Q) : am_AW G M_M_goesThere 32 [(3, .int x3), (2, .int x2), (1, .int x1), (0, .ref 66)] [] σ Q :=
  (show am_Snd G M_M_goesThere 32 (Pl_M_goesThere_32 G) _ from (sn_iload_n (pc := 32) (i := 3) dX12_goesThere_32 rfl (sn_aload_n (pc := 33) (i := 0) dX12_goesThere_33 rfl (sn_gI (pc := 34) (h := 66) (f := 1) dX12_goesThere_34 am_CL_11 sh_66 rfl (Nat.le_of_ble_eq_true rfl) tw_942 (sn_icmp_ge (pc := 37) (tgt := 106) dX12_goesThere_37 rfl (sn_iload_n (pc := 106) (i := 2) dX12_goesThere_106 rfl (sn_retz (pc := 107) (R := fun x τ => (some (.inr ((x, τ))) : Option ((Int32 × Int32 × Int32 × am_St) ⊕ (Int32 × am_St)))) dX12_goesThere_107 rfl (fun _ _ _ _ e h => by cases e; exact h))) (sn_aload_n (pc := 40) (i := 0) dX12_goesThere_40 rfl (sn_aload_n (pc := 41) (i := 0) dX12_goesThere_41 rfl (sn_gR (r0 := 67) (pc := 42) (h := 66) (f := 7) dX12_goesThere_42 am_CL_11 sh_66 rfl (Nat.le_of_ble_eq_true rfl) tw_948 (sn_iload_n (pc := 45) (i := 1) dX12_goesThere_45 rfl (sn_aI (pc := 46) (h := 67) dX12_goesThere_46 sh_67 (sn_callS (pc := 47) (N := M_M_ones) dX12_goesThere_47 (cal_M_ones G) tw_1325 tw_1326 tw_12 tw_1327 dsc_X12_ones rfl (sn_iconst (pc := 50) (v := 1) dX12_goesThere_50 rfl (sn_iadd (pc := 51) dX12_goesThere_51 (sn_callV (pc := 52) (N := M_M_draw) dX12_goesThere_52 (cal_M_draw G) sh_66 rfl tw_1448 tw_1450 tp_71 tw_12 tw_1451 dsc_X12_draw rfl (sn_istore (pc := 55) dX12_goesThere_55 (Nat.le_of_ble_eq_true rfl) (sn_lf (pc := 57) (ln_a (i := 0) (q := 66) (ln_i (i := 1) (fun z0 => (ln_i (i := 2) (fun z1 => (ln_i (i := 3) (fun z2 => (ln_i (i := 4) (fun z3 => (ln_end (o := fun τ => f_M_goesThere_57 z0 z1 z2 z3 τ) (fun _ _ _ e h => s_M_goesThere_57 G z0 z1 z2 z3 _ _ _ e h))))))))))))))))))))))))))) _ _ _ _ _ e hr
theorem s_M_goesThere_32 (G : am_G) (x1 : Int32) (x2 : Int32) (x3 : Int32) (σ : am_St) (r : Int32 × am_St) (Q : am_AQ) (e : f_M_goesThere_32 x1 x2 x3 σ = some r) (hr : am_Pi r Q) : am_AW G M_M_goesThere 32 [(3, .int x3), (2, .int x2), (1, .int x1), (0, .ref 66)] [] σ Q :=
  am_loop (P := am_Pi) (L := fun s : Int32 × Int32 × Int32 × am_St => [(3, .int s.2.2.1), (2, .int s.2.1), (1, .int s.1), (0, .ref 66)]) (g := fun s => s.2.2.2) (fun s o Q e hr => sb_M_goesThere_32 G s.1 s.2.1 s.2.2.1 s.2.2.2 o Q e hr) (x1, x2, x3, σ) r Q e hr
noncomputable def g_M_goesThere_29 (x1 : Int32) (y0 : Int32) (σ : am_St) : Option (Int32 × am_St) :=
  f_M_goesThere_32 x1 y0 1 σ
noncomputable def f_M_goesThere_29 (x1 : Int32) (y0 : Int32) (σ : am_St) : Option (Int32 × am_St) := am_lk (g_M_goesThere_29 x1 y0 σ)
theorem eq_M_goesThere_29 (x1 : Int32) (y0 : Int32) (σ : am_St) : f_M_goesThere_29 x1 y0 σ = g_M_goesThere_29 x1 y0 σ := am_lk_eq _
set_option maxRecDepth 100000 in
set_option maxHeartbeats 4000000 in
theorem s_M_goesThere_29 (G : am_G) (x1 : Int32) (y0 : Int32) (σ : am_St) (r : Int32 × am_St) (Q : am_AQ) (e : f_M_goesThere_29 x1 y0 σ = some r) (hr : am_Pi r Q) : am_AW G M_M_goesThere 29 [(1, .int x1), (0, .ref 66)] [.int y0] σ Q :=
  (show am_Snd G M_M_goesThere 29 am_Pi _ from (sn_istore_n (pc := 29) (i := 2) dX12_goesThere_29 rfl (Nat.le_of_ble_eq_true rfl) (sn_iconst (pc := 30) (v := 1) dX12_goesThere_30 rfl (sn_istore_n (pc := 31) (i := 3) dX12_goesThere_31 rfl (Nat.le_of_ble_eq_true rfl) (sn_lf (pc := 32) (ln_a (i := 0) (q := 66) (ln_i (i := 1) (fun z0 => (ln_i (i := 2) (fun z1 => (ln_i (i := 3) (fun z2 => (ln_end (o := fun τ => f_M_goesThere_32 z0 z1 z2 τ) (fun _ _ _ e h => s_M_goesThere_32 G z0 z1 z2 _ _ _ e h)))))))))))))) _ _ _ _ _ ((eq_M_goesThere_29 x1 y0 σ).symm.trans e) hr
noncomputable def g_M_goesThere_28 (x1 : Int32) (σ : am_St) : Option (Int32 × am_St) :=
  f_M_goesThere_29 x1 0 σ
noncomputable def f_M_goesThere_28 (x1 : Int32) (σ : am_St) : Option (Int32 × am_St) := am_lk (g_M_goesThere_28 x1 σ)
theorem eq_M_goesThere_28 (x1 : Int32) (σ : am_St) : f_M_goesThere_28 x1 σ = g_M_goesThere_28 x1 σ := am_lk_eq _
set_option maxRecDepth 100000 in
set_option maxHeartbeats 4000000 in
theorem s_M_goesThere_28 (G : am_G) (x1 : Int32) (σ : am_St) (r : Int32 × am_St) (Q : am_AQ) (e : f_M_goesThere_28 x1 σ = some r) (hr : am_Pi r Q) : am_AW G M_M_goesThere 28 [(1, .int x1), (0, .ref 66)] [] σ Q :=
  (show am_Snd G M_M_goesThere 28 am_Pi _ from (sn_iconst (pc := 28) (v := 0) dX12_goesThere_28 rfl (sn_lf (pc := 29) (ln_a (i := 0) (q := 66) (ln_i (i := 1) (fun z0 => (ln_si (fun w0 => (ln_end (o := fun τ => f_M_goesThere_29 z0 w0 τ) (fun _ _ _ e h => s_M_goesThere_29 G z0 w0 _ _ _ e h)))))))))) _ _ _ _ _ ((eq_M_goesThere_28 x1 σ).symm.trans e) hr
noncomputable def g_M_goesThere (σ : am_St) : Option (Int32 × am_St) :=
  (f_M_draw (σ.1 66 0) σ).bind (fun p1 =>
    if (p1.2.1 66 6) = 0 then
      if p1.1 = (p1.2.1 66 5) then
        f_M_goesThere_29 p1.1 1 p1.2
      else
        f_M_goesThere_28 p1.1 p1.2
    else
      f_M_goesThere_28 p1.1 p1.2)
noncomputable def f_M_goesThere (σ : am_St) : Option (Int32 × am_St) := am_lk (g_M_goesThere  σ)
theorem eq_M_goesThere (σ : am_St) : f_M_goesThere  σ = g_M_goesThere  σ := am_lk_eq _
set_option maxRecDepth 100000 in
set_option maxHeartbeats 4000000 in
theorem s_M_goesThere (G : am_G) (σ : am_St) (r : Int32 × am_St) (Q : am_AQ) (e : f_M_goesThere  σ = some r) (hr : am_Pi r Q) : am_AW G M_M_goesThere 0 [(0, .ref 66)] [] σ Q :=
  (show am_Snd G M_M_goesThere 0 am_Pi _ from (sn_aload_n (pc := 0) (i := 0) dX12_goesThere_0 rfl (sn_aload_n (pc := 1) (i := 0) dX12_goesThere_1 rfl (sn_gI (pc := 2) (h := 66) (f := 0) dX12_goesThere_2 am_CL_11 sh_66 rfl (Nat.le_of_ble_eq_true rfl) tw_941 (sn_callV (pc := 5) (N := M_M_draw) dX12_goesThere_5 (cal_M_draw G) sh_66 rfl tw_1448 tw_1450 tp_71 tw_12 tw_1451 dsc_X12_draw rfl (sn_istore_n (pc := 8) (i := 1) dX12_goesThere_8 rfl (Nat.le_of_ble_eq_true rfl) (sn_aload_n (pc := 9) (i := 0) dX12_goesThere_9 rfl (sn_gI (pc := 10) (h := 66) (f := 6) dX12_goesThere_10 am_CL_11 sh_66 rfl (Nat.le_of_ble_eq_true rfl) tw_947 (sn_if_ne (pc := 13) (tgt := 28) dX12_goesThere_13 rfl (sn_lf (pc := 28) (ln_a (i := 0) (q := 66) (ln_i (i := 1) (fun z0 => (ln_end (o := fun τ => f_M_goesThere_28 z0 τ) (fun _ _ _ e h => s_M_goesThere_28 G z0 _ _ _ e h)))))) (sn_iload_n (pc := 16) (i := 1) dX12_goesThere_16 rfl (sn_aload_n (pc := 17) (i := 0) dX12_goesThere_17 rfl (sn_gI (pc := 18) (h := 66) (f := 5) dX12_goesThere_18 am_CL_11 sh_66 rfl (Nat.le_of_ble_eq_true rfl) tw_946 (sn_icmp_ne (pc := 21) (tgt := 28) dX12_goesThere_21 rfl (sn_lf (pc := 28) (ln_a (i := 0) (q := 66) (ln_i (i := 1) (fun z0 => (ln_end (o := fun τ => f_M_goesThere_28 z0 τ) (fun _ _ _ e h => s_M_goesThere_28 G z0 _ _ _ e h)))))) (sn_iconst (pc := 24) (v := 1) dX12_goesThere_24 rfl (sn_goto (pc := 25) (tgt := 29) dX12_goesThere_25 rfl (sn_lf (pc := 29) (ln_a (i := 0) (q := 66) (ln_i (i := 1) (fun z0 => (ln_si (fun w0 => (ln_end (o := fun τ => f_M_goesThere_29 z0 w0 τ) (fun _ _ _ e h => s_M_goesThere_29 G z0 w0 _ _ _ e h))))))))))))))))))))))) _ _ _ _ _ ((eq_M_goesThere  σ).symm.trans e) hr
noncomputable def cF_M_goesThere : am_Fn := fun _ args σ K => match args with
  | [.ref q0] => match Nat.beq q0 66 with
    | true => (f_M_goesThere σ).bind (fun p => K (some (.int p.1)) p.2)
    | _ => none
  | _ => none
theorem cal_M_goesThere (G : am_G) : am_Cal G M_M_goesThere cF_M_goesThere := by
  intro ρ args σ K r e
  unfold cF_M_goesThere at e
  split at e
  · split at e
    · rename_i hq0
      obtain ⟨p, h1, h2⟩ := am_bind_some e
      rw [Nat.eq_of_beq_eq_true hq0]
      exact ⟨some (.int p.1), p.2, am_Met.of rfl (Nat.le_of_ble_eq_true rfl) (s_M_goesThere G  σ p _ h1 ⟨rfl, rfl⟩), h2⟩
    · cases e
  · cases e
