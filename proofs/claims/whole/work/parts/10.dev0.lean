abbrev M_T_isFull : am_MD := (yX4_isFull, cX4_isFull, 1, (some .boolean), 0, 0)
theorem dX4_isFull_0 : decode cX4_isFull 0 = .ok (.aload_n 0, 1) := by decide +kernel
theorem dX4_isFull_1 : decode cX4_isFull 1 = .ok (.getfield 15, 3) := by decide +kernel
theorem dX4_isFull_4 : decode cX4_isFull 4 = .ok (.bipush 96, 2) := by decide +kernel
theorem dX4_isFull_6 : decode cX4_isFull 6 = .ok (.if_icmp .lt 7, 3) := by decide +kernel
theorem dX4_isFull_9 : decode cX4_isFull 9 = .ok (.iconst 1, 1) := by decide +kernel
theorem dX4_isFull_10 : decode cX4_isFull 10 = .ok (.goto 4, 3) := by decide +kernel
theorem dX4_isFull_13 : decode cX4_isFull 13 = .ok (.iconst 0, 1) := by decide +kernel
theorem dX4_isFull_14 : decode cX4_isFull 14 = .ok (.ireturn, 1) := by decide +kernel
noncomputable def g_T_isFull (σ : am_St) : Option (Int32 × am_St) :=
  if (σ.1 35 1) < 96 then
    some ((0, σ))
  else
    some ((1, σ))
noncomputable def f_T_isFull (σ : am_St) : Option (Int32 × am_St) := am_lk (g_T_isFull  σ)
theorem eq_T_isFull (σ : am_St) : f_T_isFull  σ = g_T_isFull  σ := am_lk_eq _
set_option maxRecDepth 100000 in
set_option maxHeartbeats 4000000 in
theorem s_T_isFull (G : am_G) (σ : am_St) (r : Int32 × am_St) (Q : am_AQ) (e : f_T_isFull  σ = some r) (hr : am_Pi r Q) : am_AW G M_T_isFull 0 [(0, .ref 35)] [] σ Q :=
  (show am_Snd G M_T_isFull 0 am_Pi _ from (sn_aload_n (pc := 0) (i := 0) dX4_isFull_0 rfl (sn_gI (pc := 1) (h := 35) (f := 1) dX4_isFull_1 am_CL_4 sh_35 rfl (Nat.le_of_ble_eq_true rfl) tw_161 (sn_bipush (pc := 4) (v := 96) dX4_isFull_4 rfl (sn_icmp_lt (pc := 6) (tgt := 13) dX4_isFull_6 rfl (sn_iconst (pc := 13) (v := 0) dX4_isFull_13 rfl (sn_retz (pc := 14) (R := fun x τ => (some ((x, τ)))) dX4_isFull_14 rfl (fun _ _ _ _ e h => by cases e; exact h))) (sn_iconst (pc := 9) (v := 1) dX4_isFull_9 rfl (sn_goto (pc := 10) (tgt := 14) dX4_isFull_10 rfl (sn_retz (pc := 14) (R := fun x τ => (some ((x, τ)))) dX4_isFull_14 rfl (fun _ _ _ _ e h => by cases e; exact h))))))))) _ _ _ _ _ ((eq_T_isFull  σ).symm.trans e) hr
noncomputable def cF_T_isFull : am_Fn := fun _ args σ K => match args with
  | [.ref q0] => match Nat.beq q0 35 with
    | true => (f_T_isFull σ).bind (fun p => K (some (.int p.1)) p.2)
    | _ => none
  | _ => none
theorem cal_T_isFull (G : am_G) : am_Cal G M_T_isFull cF_T_isFull := by
  intro ρ args σ K r e
  unfold cF_T_isFull at e
  split at e
  · split at e
    · rename_i hq0
      obtain ⟨p, h1, h2⟩ := am_bind_some e
      rw [Nat.eq_of_beq_eq_true hq0]
      exact ⟨some (.int p.1), p.2, am_Met.of rfl (Nat.le_of_ble_eq_true rfl) (s_T_isFull G  σ p _ h1 ⟨rfl, rfl⟩), h2⟩
    · cases e
  · cases e
abbrev M_T_add : am_MD := (yX4_add, cX4_add, 2, (some .int), 0, 0)
theorem dX4_add_0 : decode cX4_add 0 = .ok (.aload_n 0, 1) := by decide +kernel
theorem dX4_add_1 : decode cX4_add 1 = .ok (.getfield 15, 3) := by decide +kernel
theorem dX4_add_4 : decode cX4_add 4 = .ok (.ifCond .lt 32, 3) := by decide +kernel
theorem dX4_add_7 : decode cX4_add 7 = .ok (.aload_n 0, 1) := by decide +kernel
theorem dX4_add_8 : decode cX4_add 8 = .ok (.getfield 15, 3) := by decide +kernel
theorem dX4_add_11 : decode cX4_add 11 = .ok (.bipush 96, 2) := by decide +kernel
theorem dX4_add_13 : decode cX4_add 13 = .ok (.if_icmp .ge 23, 3) := by decide +kernel
theorem dX4_add_16 : decode cX4_add 16 = .ok (.aload_n 0, 1) := by decide +kernel
theorem dX4_add_17 : decode cX4_add 17 = .ok (.getfield 9, 3) := by decide +kernel
theorem dX4_add_20 : decode cX4_add 20 = .ok (.aload_n 0, 1) := by decide +kernel
theorem dX4_add_21 : decode cX4_add 21 = .ok (.getfield 15, 3) := by decide +kernel
theorem dX4_add_24 : decode cX4_add 24 = .ok (.iload_n 1, 1) := by decide +kernel
theorem dX4_add_25 : decode cX4_add 25 = .ok (.iastore, 1) := by decide +kernel
theorem dX4_add_26 : decode cX4_add 26 = .ok (.aload_n 0, 1) := by decide +kernel
theorem dX4_add_27 : decode cX4_add 27 = .ok (.dup, 1) := by decide +kernel
theorem dX4_add_28 : decode cX4_add 28 = .ok (.getfield 15, 3) := by decide +kernel
theorem dX4_add_31 : decode cX4_add 31 = .ok (.iconst 1, 1) := by decide +kernel
theorem dX4_add_32 : decode cX4_add 32 = .ok (.iadd, 1) := by decide +kernel
theorem dX4_add_33 : decode cX4_add 33 = .ok (.putfield 15, 3) := by decide +kernel
theorem dX4_add_36 : decode cX4_add 36 = .ok (.aload_n 0, 1) := by decide +kernel
theorem dX4_add_37 : decode cX4_add 37 = .ok (.getfield 15, 3) := by decide +kernel
theorem dX4_add_40 : decode cX4_add 40 = .ok (.ireturn, 1) := by decide +kernel
noncomputable def g_T_add_36 (σ : am_St) : Option (Int32 × am_St) :=
  some ((σ.1 35 1, σ))
noncomputable def f_T_add_36 (σ : am_St) : Option (Int32 × am_St) := am_lk (g_T_add_36  σ)
theorem eq_T_add_36 (σ : am_St) : f_T_add_36  σ = g_T_add_36  σ := am_lk_eq _
set_option maxRecDepth 100000 in
set_option maxHeartbeats 4000000 in
theorem s_T_add_36 (G : am_G) (σ : am_St) (r : Int32 × am_St) (Q : am_AQ) (e : f_T_add_36  σ = some r) (hr : am_Pi r Q) : am_AW G M_T_add 36 [(0, .ref 35)] [] σ Q :=
  (show am_Snd G M_T_add 36 am_Pi _ from (sn_aload_n (pc := 36) (i := 0) dX4_add_36 rfl (sn_gI (pc := 37) (h := 35) (f := 1) dX4_add_37 am_CL_4 sh_35 rfl (Nat.le_of_ble_eq_true rfl) tw_161 (sn_reti (pc := 40) (R := fun x τ => (some ((x, τ)))) dX4_add_40 rfl (fun _ _ _ _ e h => by cases e; exact h))))) _ _ _ _ _ ((eq_T_add_36  σ).symm.trans e) hr
noncomputable def g_T_add (x1 : Int32) (σ : am_St) : Option (Int32 × am_St) :=
  if (σ.1 35 1) < 0 then
    f_T_add_36 σ
  else
    if 96 ≤ (σ.1 35 1) then
      f_T_add_36 σ
    else
      if am_ix (σ.1 35 1) 96 = true then
        let s1 := am_sI σ 36 (σ.1 35 1).toNatClampNeg x1
        let s2 := am_sI s1 35 1 ((s1.1 35 1) + 1)
        f_T_add_36 s2
      else none
noncomputable def f_T_add (x1 : Int32) (σ : am_St) : Option (Int32 × am_St) := am_lk (g_T_add x1 σ)
theorem eq_T_add (x1 : Int32) (σ : am_St) : f_T_add x1 σ = g_T_add x1 σ := am_lk_eq _
set_option maxRecDepth 100000 in
set_option maxHeartbeats 4000000 in
theorem s_T_add (G : am_G) (x1 : Int32) (σ : am_St) (r : Int32 × am_St) (Q : am_AQ) (e : f_T_add x1 σ = some r) (hr : am_Pi r Q) : am_AW G M_T_add 0 [(0, .ref 35), (1, .int x1)] [] σ Q :=
  (show am_Snd G M_T_add 0 am_Pi _ from (sn_aload_n (pc := 0) (i := 0) dX4_add_0 rfl (sn_gI (pc := 1) (h := 35) (f := 1) dX4_add_1 am_CL_4 sh_35 rfl (Nat.le_of_ble_eq_true rfl) tw_161 (sn_if_lt (pc := 4) (tgt := 36) dX4_add_4 rfl (sn_lf (pc := 36) (ln_a (i := 0) (q := 35) (ln_end (o := fun τ => f_T_add_36 τ) (fun _ _ _ e h => s_T_add_36 G  _ _ _ e h)))) (sn_aload_n (pc := 7) (i := 0) dX4_add_7 rfl (sn_gI (pc := 8) (h := 35) (f := 1) dX4_add_8 am_CL_4 sh_35 rfl (Nat.le_of_ble_eq_true rfl) tw_161 (sn_bipush (pc := 11) (v := 96) dX4_add_11 rfl (sn_icmp_ge (pc := 13) (tgt := 36) dX4_add_13 rfl (sn_lf (pc := 36) (ln_a (i := 0) (q := 35) (ln_end (o := fun τ => f_T_add_36 τ) (fun _ _ _ e h => s_T_add_36 G  _ _ _ e h)))) (sn_aload_n (pc := 16) (i := 0) dX4_add_16 rfl (sn_gR (r0 := 36) (pc := 17) (h := 35) (f := 0) dX4_add_17 am_CL_4 sh_35 rfl (Nat.le_of_ble_eq_true rfl) tw_160 (sn_aload_n (pc := 20) (i := 0) dX4_add_20 rfl (sn_gI (pc := 21) (h := 35) (f := 1) dX4_add_21 am_CL_4 sh_35 rfl (Nat.le_of_ble_eq_true rfl) tw_161 (sn_iload_n (pc := 24) (i := 1) dX4_add_24 rfl (sn_sI (pc := 25) (h := 36) dX4_add_25 sh_36 (sn_aload_n (pc := 26) (i := 0) dX4_add_26 rfl (sn_dup (pc := 27) dX4_add_27 (sn_gI (pc := 28) (h := 35) (f := 1) dX4_add_28 am_CL_4 sh_35 rfl (Nat.le_of_ble_eq_true rfl) tw_161 (sn_iconst (pc := 31) (v := 1) dX4_add_31 rfl (sn_iadd (pc := 32) dX4_add_32 (sn_pI (pc := 33) (h := 35) (f := 1) dX4_add_33 am_CL_4 sh_35 rfl (Nat.le_of_ble_eq_true rfl) tw_161 rfl rfl (sn_lf (pc := 36) (ln_a (i := 0) (q := 35) (ln_end (o := fun τ => f_T_add_36 τ) (fun _ _ _ e h => s_T_add_36 G  _ _ _ e h)))))))))))))))))))))))) _ _ _ _ _ ((eq_T_add x1 σ).symm.trans e) hr
noncomputable def cF_T_add : am_Fn := fun _ args σ K => match args with
  | [.ref q0, .int z1] => match Nat.beq q0 35 with
    | true => (f_T_add z1 σ).bind (fun p => K (some (.int p.1)) p.2)
    | _ => none
  | _ => none
theorem cal_T_add (G : am_G) : am_Cal G M_T_add cF_T_add := by
  intro ρ args σ K r e
  unfold cF_T_add at e
  split at e
  · split at e
    · rename_i hq0
      obtain ⟨p, h1, h2⟩ := am_bind_some e
      rw [Nat.eq_of_beq_eq_true hq0]
      exact ⟨some (.int p.1), p.2, am_Met.of rfl (Nat.le_of_ble_eq_true rfl) (s_T_add G _ σ p _ h1 ⟨rfl, rfl⟩), h2⟩
    · cases e
  · cases e
abbrev M_X_refuse : am_MD := (yX11_refuse, cX11_refuse, 3, (some .int), 0, 0)
theorem dX11_refuse_0 : decode cX11_refuse 0 = .ok (.iload_n 1, 1) := by decide +kernel
theorem dX11_refuse_1 : decode cX11_refuse 1 = .ok (.ineg, 1) := by decide +kernel
theorem dX11_refuse_2 : decode cX11_refuse 2 = .ok (.istore_n 2, 1) := by decide +kernel
theorem dX11_refuse_3 : decode cX11_refuse 3 = .ok (.iload_n 2, 1) := by decide +kernel
theorem dX11_refuse_4 : decode cX11_refuse 4 = .ok (.ifCond .le 22, 3) := by decide +kernel
theorem dX11_refuse_7 : decode cX11_refuse 7 = .ok (.iload_n 2, 1) := by decide +kernel
theorem dX11_refuse_8 : decode cX11_refuse 8 = .ok (.aload_n 0, 1) := by decide +kernel
theorem dX11_refuse_9 : decode cX11_refuse 9 = .ok (.getfield 52, 3) := by decide +kernel
theorem dX11_refuse_12 : decode cX11_refuse 12 = .ok (.arraylength, 1) := by decide +kernel
theorem dX11_refuse_13 : decode cX11_refuse 13 = .ok (.if_icmp .ge 13, 3) := by decide +kernel
theorem dX11_refuse_16 : decode cX11_refuse 16 = .ok (.aload_n 0, 1) := by decide +kernel
theorem dX11_refuse_17 : decode cX11_refuse 17 = .ok (.getfield 52, 3) := by decide +kernel
theorem dX11_refuse_20 : decode cX11_refuse 20 = .ok (.iload_n 2, 1) := by decide +kernel
theorem dX11_refuse_21 : decode cX11_refuse 21 = .ok (.dup2, 1) := by decide +kernel
theorem dX11_refuse_22 : decode cX11_refuse 22 = .ok (.iaload, 1) := by decide +kernel
theorem dX11_refuse_23 : decode cX11_refuse 23 = .ok (.iconst 1, 1) := by decide +kernel
theorem dX11_refuse_24 : decode cX11_refuse 24 = .ok (.iadd, 1) := by decide +kernel
theorem dX11_refuse_25 : decode cX11_refuse 25 = .ok (.iastore, 1) := by decide +kernel
theorem dX11_refuse_26 : decode cX11_refuse 26 = .ok (.iload_n 1, 1) := by decide +kernel
theorem dX11_refuse_27 : decode cX11_refuse 27 = .ok (.ireturn, 1) := by decide +kernel
noncomputable def g_X_refuse (x1 : Int32) (σ : am_St) : Option (Int32 × am_St) :=
  let v1 := -x1
  if v1 ≤ 0 then
    some ((x1, σ))
  else
    if 7 ≤ v1 then
      some ((x1, σ))
    else
      if am_ix v1 7 = true then
        if am_ix v1 7 = true then
          let s2 := am_sI σ 65 v1.toNatClampNeg ((σ.1 65 v1.toNatClampNeg) + 1)
          some ((x1, s2))
        else none
      else none
noncomputable def f_X_refuse (x1 : Int32) (σ : am_St) : Option (Int32 × am_St) := am_lk (g_X_refuse x1 σ)
theorem eq_X_refuse (x1 : Int32) (σ : am_St) : f_X_refuse x1 σ = g_X_refuse x1 σ := am_lk_eq _
set_option maxRecDepth 100000 in
set_option maxHeartbeats 4000000 in
theorem s_X_refuse (G : am_G) (x1 : Int32) (σ : am_St) (r : Int32 × am_St) (Q : am_AQ) (e : f_X_refuse x1 σ = some r) (hr : am_Pi r Q) : am_AW G M_X_refuse 0 [(0, .ref 0), (1, .int x1)] [] σ Q :=
  (show am_Snd G M_X_refuse 0 am_Pi _ from (sn_iload_n (pc := 0) (i := 1) dX11_refuse_0 rfl (sn_ineg (pc := 1) dX11_refuse_1 (sn_istore_n (pc := 2) (i := 2) dX11_refuse_2 rfl (Nat.le_of_ble_eq_true rfl) (sn_iload_n (pc := 3) (i := 2) dX11_refuse_3 rfl (sn_if_le (pc := 4) (tgt := 26) dX11_refuse_4 rfl (sn_iload_n (pc := 26) (i := 1) dX11_refuse_26 rfl (sn_reti (pc := 27) (R := fun x τ => (some ((x, τ)))) dX11_refuse_27 rfl (fun _ _ _ _ e h => by cases e; exact h))) (sn_iload_n (pc := 7) (i := 2) dX11_refuse_7 rfl (sn_aload_n (pc := 8) (i := 0) dX11_refuse_8 rfl (sn_gR (r0 := 65) (pc := 9) (h := 0) (f := 8) dX11_refuse_9 am_CL_10 sh_0 rfl (Nat.le_of_ble_eq_true rfl) tw_227 (sn_len (pc := 12) (h := 65) (v := 7) dX11_refuse_12 sh_65 rfl (sn_icmp_ge (pc := 13) (tgt := 26) dX11_refuse_13 rfl (sn_iload_n (pc := 26) (i := 1) dX11_refuse_26 rfl (sn_reti (pc := 27) (R := fun x τ => (some ((x, τ)))) dX11_refuse_27 rfl (fun _ _ _ _ e h => by cases e; exact h))) (sn_aload_n (pc := 16) (i := 0) dX11_refuse_16 rfl (sn_gR (r0 := 65) (pc := 17) (h := 0) (f := 8) dX11_refuse_17 am_CL_10 sh_0 rfl (Nat.le_of_ble_eq_true rfl) tw_227 (sn_iload_n (pc := 20) (i := 2) dX11_refuse_20 rfl (sn_dup2 (pc := 21) dX11_refuse_21 (sn_aI (pc := 22) (h := 65) dX11_refuse_22 sh_65 (sn_iconst (pc := 23) (v := 1) dX11_refuse_23 rfl (sn_iadd (pc := 24) dX11_refuse_24 (sn_sI (pc := 25) (h := 65) dX11_refuse_25 sh_65 (sn_iload_n (pc := 26) (i := 1) dX11_refuse_26 rfl (sn_reti (pc := 27) (R := fun x τ => (some ((x, τ)))) dX11_refuse_27 rfl (fun _ _ _ _ e h => by cases e; exact h)))))))))))))))))))))) _ _ _ _ _ ((eq_X_refuse x1 σ).symm.trans e) hr
noncomputable def cF_X_refuse : am_Fn := fun _ args σ K => match args with
  | [.ref q0, .int z1] => match Nat.beq q0 0 with
    | true => (f_X_refuse z1 σ).bind (fun p => K (some (.int p.1)) p.2)
    | _ => none
  | _ => none
theorem cal_X_refuse (G : am_G) : am_Cal G M_X_refuse cF_X_refuse := by
  intro ρ args σ K r e
  unfold cF_X_refuse at e
  split at e
  · split at e
    · rename_i hq0
      obtain ⟨p, h1, h2⟩ := am_bind_some e
      rw [Nat.eq_of_beq_eq_true hq0]
      exact ⟨some (.int p.1), p.2, am_Met.of rfl (Nat.le_of_ble_eq_true rfl) (s_X_refuse G _ σ p _ h1 ⟨rfl, rfl⟩), h2⟩
    · cases e
  · cases e
abbrev M_X_feed : am_MD := (yX11_feed, cX11_feed, 2, (some .int), 1, 22)
theorem dX11_feed_0 : decode cX11_feed 0 = .ok (.iload_n 1, 1) := by decide +kernel
theorem dX11_feed_1 : decode cX11_feed 1 = .ok (.ifCond .ge 10, 3) := by decide +kernel
theorem dX11_feed_4 : decode cX11_feed 4 = .ok (.aload_n 0, 1) := by decide +kernel
theorem dX11_feed_5 : decode cX11_feed 5 = .ok (.bipush (-4), 2) := by decide +kernel
theorem dX11_feed_7 : decode cX11_feed 7 = .ok (.invokevirtual 55, 3) := by decide +kernel
theorem dX11_feed_10 : decode cX11_feed 10 = .ok (.ireturn, 1) := by decide +kernel
theorem dX11_feed_11 : decode cX11_feed 11 = .ok (.iload_n 1, 1) := by decide +kernel
theorem dX11_feed_12 : decode cX11_feed 12 = .ok (.sipush 255, 3) := by decide +kernel
theorem dX11_feed_15 : decode cX11_feed 15 = .ok (.if_icmp .gt 13, 3) := by decide +kernel
theorem dX11_feed_18 : decode cX11_feed 18 = .ok (.aload_n 0, 1) := by decide +kernel
theorem dX11_feed_19 : decode cX11_feed 19 = .ok (.getfield 26, 3) := by decide +kernel
theorem dX11_feed_22 : decode cX11_feed 22 = .ok (.invokevirtual 59, 3) := by decide +kernel
theorem dX11_feed_25 : decode cX11_feed 25 = .ok (.ifCond .eq 10, 3) := by decide +kernel
theorem dX11_feed_28 : decode cX11_feed 28 = .ok (.aload_n 0, 1) := by decide +kernel
theorem dX11_feed_29 : decode cX11_feed 29 = .ok (.bipush (-6), 2) := by decide +kernel
theorem dX11_feed_31 : decode cX11_feed 31 = .ok (.invokevirtual 55, 3) := by decide +kernel
theorem dX11_feed_34 : decode cX11_feed 34 = .ok (.ireturn, 1) := by decide +kernel
theorem dX11_feed_35 : decode cX11_feed 35 = .ok (.aload_n 0, 1) := by decide +kernel
theorem dX11_feed_36 : decode cX11_feed 36 = .ok (.getfield 26, 3) := by decide +kernel
theorem dX11_feed_39 : decode cX11_feed 39 = .ok (.iload_n 1, 1) := by decide +kernel
theorem dX11_feed_40 : decode cX11_feed 40 = .ok (.invokevirtual 63, 3) := by decide +kernel
theorem dX11_feed_43 : decode cX11_feed 43 = .ok (.ireturn, 1) := by decide +kernel
noncomputable def g_X_feed_28 (σ : am_St) : Option (Int32 × am_St) :=
  (f_X_refuse (-6) σ).bind (fun p1 =>
    some ((p1.1, p1.2)))
noncomputable def f_X_feed_28 (σ : am_St) : Option (Int32 × am_St) := am_lk (g_X_feed_28  σ)
theorem eq_X_feed_28 (σ : am_St) : f_X_feed_28  σ = g_X_feed_28  σ := am_lk_eq _
set_option maxRecDepth 100000 in
set_option maxHeartbeats 4000000 in
theorem s_X_feed_28 (G : am_G) (σ : am_St) (r : Int32 × am_St) (Q : am_AQ) (e : f_X_feed_28  σ = some r) (hr : am_Pi r Q) : am_AW G M_X_feed 28 [(0, .ref 0)] [] σ Q :=
  (show am_Snd G M_X_feed 28 am_Pi _ from (sn_aload_n (pc := 28) (i := 0) dX11_feed_28 rfl (sn_bipush (pc := 29) (v := (-6)) dX11_feed_29 (show (Int8.ofInt (-6)).toInt32 = (-6) by decide) (sn_callV (pc := 31) (N := M_X_refuse) dX11_feed_31 (cal_X_refuse G) sh_0 rfl tw_251 tw_253 tp_0 tw_1 tw_254 dsc_X11_refuse rfl (sn_reti (pc := 34) (R := fun x τ => (some ((x, τ)))) dX11_feed_34 rfl (fun _ _ _ _ e h => by cases e; exact h)))))) _ _ _ _ _ ((eq_X_feed_28  σ).symm.trans e) hr
noncomputable def g_X_feed (x1 : Int32) (σ : am_St) : Option (Int32 × am_St) :=
  if 0 ≤ x1 then
    if 255 < x1 then
      f_X_feed_28 σ
    else
      (f_T_isFull σ).bind (fun p1 =>
        if p1.1 = 0 then
          (f_T_add x1 p1.2).bind (fun p2 =>
            some ((p2.1, p2.2)))
        else
          f_X_feed_28 p1.2)
  else
    (f_X_refuse (-4) σ).bind (fun p3 =>
      some ((p3.1, p3.2)))
noncomputable def f_X_feed (x1 : Int32) (σ : am_St) : Option (Int32 × am_St) := am_lk (g_X_feed x1 σ)
theorem eq_X_feed (x1 : Int32) (σ : am_St) : f_X_feed x1 σ = g_X_feed x1 σ := am_lk_eq _
set_option maxRecDepth 100000 in
set_option maxHeartbeats 4000000 in
theorem s_X_feed (G : am_G) (x1 : Int32) (σ : am_St) (r : Int32 × am_St) (Q : am_AQ) (e : f_X_feed x1 σ = some r) (hr : am_Pi r Q) : am_AW G M_X_feed 0 [(0, .ref 0), (1, .int x1)] [] σ Q :=
  (show am_Snd G M_X_feed 0 am_Pi _ from (sn_iload_n (pc := 0) (i := 1) dX11_feed_0 rfl (sn_if_ge (pc := 1) (tgt := 11) dX11_feed_1 rfl (sn_iload_n (pc := 11) (i := 1) dX11_feed_11 rfl (sn_sipush (pc := 12) (v := 255) dX11_feed_12 rfl (sn_icmp_gt (pc := 15) (tgt := 28) dX11_feed_15 rfl (sn_lf (pc := 28) (ln_a (i := 0) (q := 0) (ln_end (o := fun τ => f_X_feed_28 τ) (fun _ _ _ e h => s_X_feed_28 G  _ _ _ e h)))) (sn_aload_n (pc := 18) (i := 0) dX11_feed_18 rfl (sn_gR (r0 := 35) (pc := 19) (h := 0) (f := 3) dX11_feed_19 am_CL_10 sh_0 rfl (Nat.le_of_ble_eq_true rfl) tw_222 (sn_callV (pc := 22) (N := M_T_isFull) dX11_feed_22 (cal_T_isFull G) sh_35 rfl tw_255 tw_256 tw_257 tw_9 tw_258 dsc_X4_isFull rfl (sn_if_eq (pc := 25) (tgt := 35) dX11_feed_25 rfl (sn_aload_n (pc := 35) (i := 0) dX11_feed_35 rfl (sn_gR (r0 := 35) (pc := 36) (h := 0) (f := 3) dX11_feed_36 am_CL_10 sh_0 rfl (Nat.le_of_ble_eq_true rfl) tw_222 (sn_iload_n (pc := 39) (i := 1) dX11_feed_39 rfl (sn_callV (pc := 40) (N := M_T_add) dX11_feed_40 (cal_T_add G) sh_35 rfl tw_259 tw_260 tw_261 tw_9 tw_262 dsc_X4_add rfl (sn_reti (pc := 43) (R := fun x τ => (some ((x, τ)))) dX11_feed_43 rfl (fun _ _ _ _ e h => by cases e; exact h)))))) (sn_lf (pc := 28) (ln_a (i := 0) (q := 0) (ln_end (o := fun τ => f_X_feed_28 τ) (fun _ _ _ e h => s_X_feed_28 G  _ _ _ e h))))))))))) (sn_aload_n (pc := 4) (i := 0) dX11_feed_4 rfl (sn_bipush (pc := 5) (v := (-4)) dX11_feed_5 (show (Int8.ofInt (-4)).toInt32 = (-4) by decide) (sn_callV (pc := 7) (N := M_X_refuse) dX11_feed_7 (cal_X_refuse G) sh_0 rfl tw_251 tw_253 tp_0 tw_1 tw_254 dsc_X11_refuse rfl (sn_reti (pc := 10) (R := fun x τ => (some ((x, τ)))) dX11_feed_10 rfl (fun _ _ _ _ e h => by cases e; exact h)))))))) _ _ _ _ _ ((eq_X_feed x1 σ).symm.trans e) hr
noncomputable def cF_X_feed : am_Fn := fun _ args σ K => match args with
  | [.ref q0, .int z1] => match Nat.beq q0 0 with
    | true => (f_X_feed z1 σ).bind (fun p => K (some (.int p.1)) p.2)
    | _ => none
  | _ => none
theorem cal_X_feed (G : am_G) : am_Cal G M_X_feed cF_X_feed := by
  intro ρ args σ K r e
  unfold cF_X_feed at e
  split at e
  · split at e
    · rename_i hq0
      obtain ⟨p, h1, h2⟩ := am_bind_some e
      rw [Nat.eq_of_beq_eq_true hq0]
      exact ⟨some (.int p.1), p.2, am_Met.of rfl (Nat.le_of_ble_eq_true rfl) (s_X_feed G _ σ p _ h1 ⟨rfl, rfl⟩), h2⟩
    · cases e
  · cases e
abbrev M_T_letterAt : am_MD := (yX4_letterAt, cX4_letterAt, 2, (some .int), 0, 0)
theorem dX4_letterAt_0 : decode cX4_letterAt 0 = .ok (.iload_n 1, 1) := by decide +kernel
theorem dX4_letterAt_1 : decode cX4_letterAt 1 = .ok (.ifCond .lt 20, 3) := by decide +kernel
theorem dX4_letterAt_4 : decode cX4_letterAt 4 = .ok (.iload_n 1, 1) := by decide +kernel
theorem dX4_letterAt_5 : decode cX4_letterAt 5 = .ok (.aload_n 0, 1) := by decide +kernel
theorem dX4_letterAt_6 : decode cX4_letterAt 6 = .ok (.getfield 15, 3) := by decide +kernel
theorem dX4_letterAt_9 : decode cX4_letterAt 9 = .ok (.if_icmp .ge 12, 3) := by decide +kernel
theorem dX4_letterAt_12 : decode cX4_letterAt 12 = .ok (.aload_n 0, 1) := by decide +kernel
theorem dX4_letterAt_13 : decode cX4_letterAt 13 = .ok (.getfield 9, 3) := by decide +kernel
theorem dX4_letterAt_16 : decode cX4_letterAt 16 = .ok (.iload_n 1, 1) := by decide +kernel
theorem dX4_letterAt_17 : decode cX4_letterAt 17 = .ok (.iaload, 1) := by decide +kernel
theorem dX4_letterAt_18 : decode cX4_letterAt 18 = .ok (.goto 4, 3) := by decide +kernel
theorem dX4_letterAt_21 : decode cX4_letterAt 21 = .ok (.iconst 0, 1) := by decide +kernel
theorem dX4_letterAt_22 : decode cX4_letterAt 22 = .ok (.ireturn, 1) := by decide +kernel
noncomputable def g_T_letterAt (x1 : Int32) (σ : am_St) : Option (Int32 × am_St) :=
  if x1 < 0 then
    some ((0, σ))
  else
    if (σ.1 35 1) ≤ x1 then
      some ((0, σ))
    else
      if am_ix x1 96 = true then
        some ((σ.1 36 x1.toNatClampNeg, σ))
      else none
noncomputable def f_T_letterAt (x1 : Int32) (σ : am_St) : Option (Int32 × am_St) := am_lk (g_T_letterAt x1 σ)
theorem eq_T_letterAt (x1 : Int32) (σ : am_St) : f_T_letterAt x1 σ = g_T_letterAt x1 σ := am_lk_eq _
set_option maxRecDepth 100000 in
set_option maxHeartbeats 4000000 in
theorem s_T_letterAt (G : am_G) (x1 : Int32) (σ : am_St) (r : Int32 × am_St) (Q : am_AQ) (e : f_T_letterAt x1 σ = some r) (hr : am_Pi r Q) : am_AW G M_T_letterAt 0 [(0, .ref 35), (1, .int x1)] [] σ Q :=
  (show am_Snd G M_T_letterAt 0 am_Pi _ from (sn_iload_n (pc := 0) (i := 1) dX4_letterAt_0 rfl (sn_if_lt (pc := 1) (tgt := 21) dX4_letterAt_1 rfl (sn_iconst (pc := 21) (v := 0) dX4_letterAt_21 rfl (sn_reti (pc := 22) (R := fun x τ => (some ((x, τ)))) dX4_letterAt_22 rfl (fun _ _ _ _ e h => by cases e; exact h))) (sn_iload_n (pc := 4) (i := 1) dX4_letterAt_4 rfl (sn_aload_n (pc := 5) (i := 0) dX4_letterAt_5 rfl (sn_gI (pc := 6) (h := 35) (f := 1) dX4_letterAt_6 am_CL_4 sh_35 rfl (Nat.le_of_ble_eq_true rfl) tw_161 (sn_icmp_ge (pc := 9) (tgt := 21) dX4_letterAt_9 rfl (sn_iconst (pc := 21) (v := 0) dX4_letterAt_21 rfl (sn_reti (pc := 22) (R := fun x τ => (some ((x, τ)))) dX4_letterAt_22 rfl (fun _ _ _ _ e h => by cases e; exact h))) (sn_aload_n (pc := 12) (i := 0) dX4_letterAt_12 rfl (sn_gR (r0 := 36) (pc := 13) (h := 35) (f := 0) dX4_letterAt_13 am_CL_4 sh_35 rfl (Nat.le_of_ble_eq_true rfl) tw_160 (sn_iload_n (pc := 16) (i := 1) dX4_letterAt_16 rfl (sn_aI (pc := 17) (h := 36) dX4_letterAt_17 sh_36 (sn_goto (pc := 18) (tgt := 22) dX4_letterAt_18 rfl (sn_reti (pc := 22) (R := fun x τ => (some ((x, τ)))) dX4_letterAt_22 rfl (fun _ _ _ _ e h => by cases e; exact h)))))))))))))) _ _ _ _ _ ((eq_T_letterAt x1 σ).symm.trans e) hr
noncomputable def cF_T_letterAt : am_Fn := fun _ args σ K => match args with
  | [.ref q0, .int z1] => match Nat.beq q0 35 with
    | true => (f_T_letterAt z1 σ).bind (fun p => K (some (.int p.1)) p.2)
    | _ => none
  | _ => none
theorem cal_T_letterAt (G : am_G) : am_Cal G M_T_letterAt cF_T_letterAt := by
  intro ρ args σ K r e
  unfold cF_T_letterAt at e
  split at e
  · split at e
    · rename_i hq0
      obtain ⟨p, h1, h2⟩ := am_bind_some e
      rw [Nat.eq_of_beq_eq_true hq0]
      exact ⟨some (.int p.1), p.2, am_Met.of rfl (Nat.le_of_ble_eq_true rfl) (s_T_letterAt G _ σ p _ h1 ⟨rfl, rfl⟩), h2⟩
    · cases e
  · cases e
abbrev M_T_lengthOf : am_MD := (yX4_lengthOf, cX4_lengthOf, 2, (some .int), 0, 0)
theorem dX4_lengthOf_0 : decode cX4_lengthOf 0 = .ok (.iload_n 0, 1) := by decide +kernel
theorem dX4_lengthOf_1 : decode cX4_lengthOf 1 = .ok (.tableswitch 102 98 116 #[91, 93, 91, 102, 95, 102, 102, 102, 102, 102, 102, 102, 102, 102, 102, 102, 91, 102, 98], 91) := by decide +kernel
theorem dX4_lengthOf_92 : decode cX4_lengthOf 92 = .ok (.iconst 4, 1) := by decide +kernel
theorem dX4_lengthOf_93 : decode cX4_lengthOf 93 = .ok (.ireturn, 1) := by decide +kernel
theorem dX4_lengthOf_94 : decode cX4_lengthOf 94 = .ok (.iconst 5, 1) := by decide +kernel
theorem dX4_lengthOf_95 : decode cX4_lengthOf 95 = .ok (.ireturn, 1) := by decide +kernel
theorem dX4_lengthOf_96 : decode cX4_lengthOf 96 = .ok (.bipush 6, 2) := by decide +kernel
theorem dX4_lengthOf_98 : decode cX4_lengthOf 98 = .ok (.ireturn, 1) := by decide +kernel
theorem dX4_lengthOf_99 : decode cX4_lengthOf 99 = .ok (.iconst 3, 1) := by decide +kernel
theorem dX4_lengthOf_100 : decode cX4_lengthOf 100 = .ok (.iload_n 1, 1) := by decide +kernel
theorem dX4_lengthOf_101 : decode cX4_lengthOf 101 = .ok (.iadd, 1) := by decide +kernel
theorem dX4_lengthOf_102 : decode cX4_lengthOf 102 = .ok (.ireturn, 1) := by decide +kernel
theorem dX4_lengthOf_103 : decode cX4_lengthOf 103 = .ok (.iconst 0, 1) := by decide +kernel
theorem dX4_lengthOf_104 : decode cX4_lengthOf 104 = .ok (.ireturn, 1) := by decide +kernel
noncomputable def g_T_lengthOf (x0 : Int32) (x1 : Int32) (σ : am_St) : Option (Int32 × am_St) :=
  if x0 = 98 then
    some ((4, σ))
  else
  if x0 = 99 then
    some ((5, σ))
  else
  if x0 = 100 then
    some ((4, σ))
  else
  if x0 = 101 then
    some ((0, σ))
  else
  if x0 = 102 then
    some ((6, σ))
  else
  if x0 = 103 then
    some ((0, σ))
  else
  if x0 = 104 then
    some ((0, σ))
  else
  if x0 = 105 then
    some ((0, σ))
  else
  if x0 = 106 then
    some ((0, σ))
  else
  if x0 = 107 then
    some ((0, σ))
  else
  if x0 = 108 then
    some ((0, σ))
  else
  if x0 = 109 then
    some ((0, σ))
  else
  if x0 = 110 then
    some ((0, σ))
  else
  if x0 = 111 then
    some ((0, σ))
  else
  if x0 = 112 then
    some ((0, σ))
  else
  if x0 = 113 then
    some ((0, σ))
  else
  if x0 = 114 then
    some ((4, σ))
  else
  if x0 = 115 then
    some ((0, σ))
  else
  if x0 = 116 then
    some ((3 + x1, σ))
  else
  some ((0, σ))
noncomputable def f_T_lengthOf (x0 : Int32) (x1 : Int32) (σ : am_St) : Option (Int32 × am_St) := am_lk (g_T_lengthOf x0 x1 σ)
theorem eq_T_lengthOf (x0 : Int32) (x1 : Int32) (σ : am_St) : f_T_lengthOf x0 x1 σ = g_T_lengthOf x0 x1 σ := am_lk_eq _
set_option maxRecDepth 100000 in
set_option maxHeartbeats 4000000 in
theorem s_T_lengthOf (G : am_G) (x0 : Int32) (x1 : Int32) (σ : am_St) (r : Int32 × am_St) (Q : am_AQ) (e : f_T_lengthOf x0 x1 σ = some r) (hr : am_Pi r Q) : am_AW G M_T_lengthOf 0 [(0, .int x0), (1, .int x1)] [] σ Q :=
  (show am_Snd G M_T_lengthOf 0 am_Pi _ from (sn_iload_n (pc := 0) (i := 0) dX4_lengthOf_0 rfl (sn_tsw (pc := 1) (dt := 103) (vs := [98, 99, 100, 101, 102, 103, 104, 105, 106, 107, 108, 109, 110, 111, 112, 113, 114, 115, 116]) (ts := [92, 94, 92, 103, 96, 103, 103, 103, 103, 103, 103, 103, 103, 103, 103, 103, 92, 103, 99]) dX4_lengthOf_1 (by decide +kernel) (sn_iconst (pc := 103) (v := 0) dX4_lengthOf_103 rfl (sn_reti (pc := 104) (R := fun x τ => (some ((x, τ)))) dX4_lengthOf_104 rfl (fun _ _ _ _ e h => by cases e; exact h))) (am_all_cons (sn_iconst (pc := 92) (v := 4) dX4_lengthOf_92 rfl (sn_reti (pc := 93) (R := fun x τ => (some ((x, τ)))) dX4_lengthOf_93 rfl (fun _ _ _ _ e h => by cases e; exact h))) (am_all_cons (sn_iconst (pc := 94) (v := 5) dX4_lengthOf_94 rfl (sn_reti (pc := 95) (R := fun x τ => (some ((x, τ)))) dX4_lengthOf_95 rfl (fun _ _ _ _ e h => by cases e; exact h))) (am_all_cons (sn_iconst (pc := 92) (v := 4) dX4_lengthOf_92 rfl (sn_reti (pc := 93) (R := fun x τ => (some ((x, τ)))) dX4_lengthOf_93 rfl (fun _ _ _ _ e h => by cases e; exact h))) (am_all_cons (sn_iconst (pc := 103) (v := 0) dX4_lengthOf_103 rfl (sn_reti (pc := 104) (R := fun x τ => (some ((x, τ)))) dX4_lengthOf_104 rfl (fun _ _ _ _ e h => by cases e; exact h))) (am_all_cons (sn_bipush (pc := 96) (v := 6) dX4_lengthOf_96 rfl (sn_reti (pc := 98) (R := fun x τ => (some ((x, τ)))) dX4_lengthOf_98 rfl (fun _ _ _ _ e h => by cases e; exact h))) (am_all_cons (sn_iconst (pc := 103) (v := 0) dX4_lengthOf_103 rfl (sn_reti (pc := 104) (R := fun x τ => (some ((x, τ)))) dX4_lengthOf_104 rfl (fun _ _ _ _ e h => by cases e; exact h))) (am_all_cons (sn_iconst (pc := 103) (v := 0) dX4_lengthOf_103 rfl (sn_reti (pc := 104) (R := fun x τ => (some ((x, τ)))) dX4_lengthOf_104 rfl (fun _ _ _ _ e h => by cases e; exact h))) (am_all_cons (sn_iconst (pc := 103) (v := 0) dX4_lengthOf_103 rfl (sn_reti (pc := 104) (R := fun x τ => (some ((x, τ)))) dX4_lengthOf_104 rfl (fun _ _ _ _ e h => by cases e; exact h))) (am_all_cons (sn_iconst (pc := 103) (v := 0) dX4_lengthOf_103 rfl (sn_reti (pc := 104) (R := fun x τ => (some ((x, τ)))) dX4_lengthOf_104 rfl (fun _ _ _ _ e h => by cases e; exact h))) (am_all_cons (sn_iconst (pc := 103) (v := 0) dX4_lengthOf_103 rfl (sn_reti (pc := 104) (R := fun x τ => (some ((x, τ)))) dX4_lengthOf_104 rfl (fun _ _ _ _ e h => by cases e; exact h))) (am_all_cons (sn_iconst (pc := 103) (v := 0) dX4_lengthOf_103 rfl (sn_reti (pc := 104) (R := fun x τ => (some ((x, τ)))) dX4_lengthOf_104 rfl (fun _ _ _ _ e h => by cases e; exact h))) (am_all_cons (sn_iconst (pc := 103) (v := 0) dX4_lengthOf_103 rfl (sn_reti (pc := 104) (R := fun x τ => (some ((x, τ)))) dX4_lengthOf_104 rfl (fun _ _ _ _ e h => by cases e; exact h))) (am_all_cons (sn_iconst (pc := 103) (v := 0) dX4_lengthOf_103 rfl (sn_reti (pc := 104) (R := fun x τ => (some ((x, τ)))) dX4_lengthOf_104 rfl (fun _ _ _ _ e h => by cases e; exact h))) (am_all_cons (sn_iconst (pc := 103) (v := 0) dX4_lengthOf_103 rfl (sn_reti (pc := 104) (R := fun x τ => (some ((x, τ)))) dX4_lengthOf_104 rfl (fun _ _ _ _ e h => by cases e; exact h))) (am_all_cons (sn_iconst (pc := 103) (v := 0) dX4_lengthOf_103 rfl (sn_reti (pc := 104) (R := fun x τ => (some ((x, τ)))) dX4_lengthOf_104 rfl (fun _ _ _ _ e h => by cases e; exact h))) (am_all_cons (sn_iconst (pc := 103) (v := 0) dX4_lengthOf_103 rfl (sn_reti (pc := 104) (R := fun x τ => (some ((x, τ)))) dX4_lengthOf_104 rfl (fun _ _ _ _ e h => by cases e; exact h))) (am_all_cons (sn_iconst (pc := 92) (v := 4) dX4_lengthOf_92 rfl (sn_reti (pc := 93) (R := fun x τ => (some ((x, τ)))) dX4_lengthOf_93 rfl (fun _ _ _ _ e h => by cases e; exact h))) (am_all_cons (sn_iconst (pc := 103) (v := 0) dX4_lengthOf_103 rfl (sn_reti (pc := 104) (R := fun x τ => (some ((x, τ)))) dX4_lengthOf_104 rfl (fun _ _ _ _ e h => by cases e; exact h))) (am_all_cons (sn_iconst (pc := 99) (v := 3) dX4_lengthOf_99 rfl (sn_iload_n (pc := 100) (i := 1) dX4_lengthOf_100 rfl (sn_iadd (pc := 101) dX4_lengthOf_101 (sn_reti (pc := 102) (R := fun x τ => (some ((x, τ)))) dX4_lengthOf_102 rfl (fun _ _ _ _ e h => by cases e; exact h))))) am_all_nil)))))))))))))))))))))) _ _ _ _ _ ((eq_T_lengthOf x0 x1 σ).symm.trans e) hr
noncomputable def cF_T_lengthOf : am_Fn := fun _ args σ K => match args with
  | [.int z0, .int z1] => (f_T_lengthOf z0 z1 σ).bind (fun p => K (some (.int p.1)) p.2)
  | _ => none
theorem cal_T_lengthOf (G : am_G) : am_Cal G M_T_lengthOf cF_T_lengthOf := by
  intro ρ args σ K r e
  unfold cF_T_lengthOf at e
  split at e
  · obtain ⟨p, h1, h2⟩ := am_bind_some e
    exact ⟨some (.int p.1), p.2, am_Met.of rfl (Nat.le_of_ble_eq_true rfl) (s_T_lengthOf G _ _ σ p _ h1 ⟨rfl, rfl⟩), h2⟩
  · cases e
abbrev M_T_mayStand : am_MD := (yX4_mayStand, cX4_mayStand, 4, (some .boolean), 0, 0)
theorem dX4_mayStand_0 : decode cX4_mayStand 0 = .ok (.iload_n 2, 1) := by decide +kernel
theorem dX4_mayStand_1 : decode cX4_mayStand 1 = .ok (.ifCond .ne 13, 3) := by decide +kernel
theorem dX4_mayStand_4 : decode cX4_mayStand 4 = .ok (.iload_n 3, 1) := by decide +kernel
theorem dX4_mayStand_5 : decode cX4_mayStand 5 = .ok (.ifCond .le 7, 3) := by decide +kernel
theorem dX4_mayStand_8 : decode cX4_mayStand 8 = .ok (.iconst 1, 1) := by decide +kernel
theorem dX4_mayStand_9 : decode cX4_mayStand 9 = .ok (.goto 4, 3) := by decide +kernel
theorem dX4_mayStand_12 : decode cX4_mayStand 12 = .ok (.iconst 0, 1) := by decide +kernel
theorem dX4_mayStand_13 : decode cX4_mayStand 13 = .ok (.ireturn, 1) := by decide +kernel
theorem dX4_mayStand_14 : decode cX4_mayStand 14 = .ok (.iload_n 2, 1) := by decide +kernel
theorem dX4_mayStand_15 : decode cX4_mayStand 15 = .ok (.iload_n 3, 1) := by decide +kernel
theorem dX4_mayStand_16 : decode cX4_mayStand 16 = .ok (.iconst 1, 1) := by decide +kernel
theorem dX4_mayStand_17 : decode cX4_mayStand 17 = .ok (.isub, 1) := by decide +kernel
theorem dX4_mayStand_18 : decode cX4_mayStand 18 = .ok (.if_icmp .ne 15, 3) := by decide +kernel
theorem dX4_mayStand_21 : decode cX4_mayStand 21 = .ok (.iload_n 0, 1) := by decide +kernel
theorem dX4_mayStand_22 : decode cX4_mayStand 22 = .ok (.bipush 59, 2) := by decide +kernel
theorem dX4_mayStand_24 : decode cX4_mayStand 24 = .ok (.if_icmp .ne 7, 3) := by decide +kernel
theorem dX4_mayStand_27 : decode cX4_mayStand 27 = .ok (.iconst 1, 1) := by decide +kernel
theorem dX4_mayStand_28 : decode cX4_mayStand 28 = .ok (.goto 4, 3) := by decide +kernel
theorem dX4_mayStand_31 : decode cX4_mayStand 31 = .ok (.iconst 0, 1) := by decide +kernel
theorem dX4_mayStand_32 : decode cX4_mayStand 32 = .ok (.ireturn, 1) := by decide +kernel
theorem dX4_mayStand_33 : decode cX4_mayStand 33 = .ok (.iload_n 1, 1) := by decide +kernel
theorem dX4_mayStand_34 : decode cX4_mayStand 34 = .ok (.bipush 102, 2) := by decide +kernel
theorem dX4_mayStand_36 : decode cX4_mayStand 36 = .ok (.if_icmp .ne 26, 3) := by decide +kernel
theorem dX4_mayStand_39 : decode cX4_mayStand 39 = .ok (.iload_n 2, 1) := by decide +kernel
theorem dX4_mayStand_40 : decode cX4_mayStand 40 = .ok (.iconst 4, 1) := by decide +kernel
theorem dX4_mayStand_41 : decode cX4_mayStand 41 = .ok (.if_icmp .ne 21, 3) := by decide +kernel
theorem dX4_mayStand_44 : decode cX4_mayStand 44 = .ok (.iload_n 0, 1) := by decide +kernel
theorem dX4_mayStand_45 : decode cX4_mayStand 45 = .ok (.bipush 43, 2) := by decide +kernel
theorem dX4_mayStand_47 : decode cX4_mayStand 47 = .ok (.if_icmp .eq 9, 3) := by decide +kernel
theorem dX4_mayStand_50 : decode cX4_mayStand 50 = .ok (.iload_n 0, 1) := by decide +kernel
theorem dX4_mayStand_51 : decode cX4_mayStand 51 = .ok (.bipush 45, 2) := by decide +kernel
theorem dX4_mayStand_53 : decode cX4_mayStand 53 = .ok (.if_icmp .ne 7, 3) := by decide +kernel
theorem dX4_mayStand_56 : decode cX4_mayStand 56 = .ok (.iconst 1, 1) := by decide +kernel
theorem dX4_mayStand_57 : decode cX4_mayStand 57 = .ok (.goto 4, 3) := by decide +kernel
theorem dX4_mayStand_60 : decode cX4_mayStand 60 = .ok (.iconst 0, 1) := by decide +kernel
theorem dX4_mayStand_61 : decode cX4_mayStand 61 = .ok (.ireturn, 1) := by decide +kernel
theorem dX4_mayStand_62 : decode cX4_mayStand 62 = .ok (.iload_n 0, 1) := by decide +kernel
theorem dX4_mayStand_63 : decode cX4_mayStand 63 = .ok (.bipush 48, 2) := by decide +kernel
theorem dX4_mayStand_65 : decode cX4_mayStand 65 = .ok (.if_icmp .lt 13, 3) := by decide +kernel
theorem dX4_mayStand_68 : decode cX4_mayStand 68 = .ok (.iload_n 0, 1) := by decide +kernel
theorem dX4_mayStand_69 : decode cX4_mayStand 69 = .ok (.bipush 57, 2) := by decide +kernel
theorem dX4_mayStand_71 : decode cX4_mayStand 71 = .ok (.if_icmp .gt 7, 3) := by decide +kernel
theorem dX4_mayStand_74 : decode cX4_mayStand 74 = .ok (.iconst 1, 1) := by decide +kernel
theorem dX4_mayStand_75 : decode cX4_mayStand 75 = .ok (.goto 4, 3) := by decide +kernel
theorem dX4_mayStand_78 : decode cX4_mayStand 78 = .ok (.iconst 0, 1) := by decide +kernel
theorem dX4_mayStand_79 : decode cX4_mayStand 79 = .ok (.ireturn, 1) := by decide +kernel
noncomputable def g_T_mayStand_62 (x0 : Int32) (σ : am_St) : Option (Int32 × am_St) :=
  if x0 < 48 then
    some ((0, σ))
  else
    if 57 < x0 then
      some ((0, σ))
    else
      some ((1, σ))
noncomputable def f_T_mayStand_62 (x0 : Int32) (σ : am_St) : Option (Int32 × am_St) := am_lk (g_T_mayStand_62 x0 σ)
theorem eq_T_mayStand_62 (x0 : Int32) (σ : am_St) : f_T_mayStand_62 x0 σ = g_T_mayStand_62 x0 σ := am_lk_eq _
set_option maxRecDepth 100000 in
set_option maxHeartbeats 4000000 in
theorem s_T_mayStand_62 (G : am_G) (x0 : Int32) (σ : am_St) (r : Int32 × am_St) (Q : am_AQ) (e : f_T_mayStand_62 x0 σ = some r) (hr : am_Pi r Q) : am_AW G M_T_mayStand 62 [(0, .int x0)] [] σ Q :=
  (show am_Snd G M_T_mayStand 62 am_Pi _ from (sn_iload_n (pc := 62) (i := 0) dX4_mayStand_62 rfl (sn_bipush (pc := 63) (v := 48) dX4_mayStand_63 rfl (sn_icmp_lt (pc := 65) (tgt := 78) dX4_mayStand_65 rfl (sn_iconst (pc := 78) (v := 0) dX4_mayStand_78 rfl (sn_retz (pc := 79) (R := fun x τ => (some ((x, τ)))) dX4_mayStand_79 rfl (fun _ _ _ _ e h => by cases e; exact h))) (sn_iload_n (pc := 68) (i := 0) dX4_mayStand_68 rfl (sn_bipush (pc := 69) (v := 57) dX4_mayStand_69 rfl (sn_icmp_gt (pc := 71) (tgt := 78) dX4_mayStand_71 rfl (sn_iconst (pc := 78) (v := 0) dX4_mayStand_78 rfl (sn_retz (pc := 79) (R := fun x τ => (some ((x, τ)))) dX4_mayStand_79 rfl (fun _ _ _ _ e h => by cases e; exact h))) (sn_iconst (pc := 74) (v := 1) dX4_mayStand_74 rfl (sn_goto (pc := 75) (tgt := 79) dX4_mayStand_75 rfl (sn_retz (pc := 79) (R := fun x τ => (some ((x, τ)))) dX4_mayStand_79 rfl (fun _ _ _ _ e h => by cases e; exact h))))))))))) _ _ _ _ _ ((eq_T_mayStand_62 x0 σ).symm.trans e) hr
noncomputable def g_T_mayStand (x0 : Int32) (x1 : Int32) (x2 : Int32) (x3 : Int32) (σ : am_St) : Option (Int32 × am_St) :=
  if x2 = 0 then
    if x3 ≤ 0 then
      some ((0, σ))
    else
      some ((1, σ))
  else
    if x2 = (x3 - 1) then
      if x0 = 59 then
        some ((1, σ))
      else
        some ((0, σ))
    else
      if x1 = 102 then
        if x2 = 4 then
          if x0 = 43 then
            some ((1, σ))
          else
            if x0 = 45 then
              some ((1, σ))
            else
              some ((0, σ))
        else
          f_T_mayStand_62 x0 σ
      else
        f_T_mayStand_62 x0 σ
noncomputable def f_T_mayStand (x0 : Int32) (x1 : Int32) (x2 : Int32) (x3 : Int32) (σ : am_St) : Option (Int32 × am_St) := am_lk (g_T_mayStand x0 x1 x2 x3 σ)
theorem eq_T_mayStand (x0 : Int32) (x1 : Int32) (x2 : Int32) (x3 : Int32) (σ : am_St) : f_T_mayStand x0 x1 x2 x3 σ = g_T_mayStand x0 x1 x2 x3 σ := am_lk_eq _
set_option maxRecDepth 100000 in
set_option maxHeartbeats 4000000 in
theorem s_T_mayStand (G : am_G) (x0 : Int32) (x1 : Int32) (x2 : Int32) (x3 : Int32) (σ : am_St) (r : Int32 × am_St) (Q : am_AQ) (e : f_T_mayStand x0 x1 x2 x3 σ = some r) (hr : am_Pi r Q) : am_AW G M_T_mayStand 0 [(0, .int x0), (1, .int x1), (2, .int x2), (3, .int x3)] [] σ Q :=
  (show am_Snd G M_T_mayStand 0 am_Pi _ from (sn_iload_n (pc := 0) (i := 2) dX4_mayStand_0 rfl (sn_if_ne (pc := 1) (tgt := 14) dX4_mayStand_1 rfl (sn_iload_n (pc := 14) (i := 2) dX4_mayStand_14 rfl (sn_iload_n (pc := 15) (i := 3) dX4_mayStand_15 rfl (sn_iconst (pc := 16) (v := 1) dX4_mayStand_16 rfl (sn_isub (pc := 17) dX4_mayStand_17 (sn_icmp_ne (pc := 18) (tgt := 33) dX4_mayStand_18 rfl (sn_iload_n (pc := 33) (i := 1) dX4_mayStand_33 rfl (sn_bipush (pc := 34) (v := 102) dX4_mayStand_34 rfl (sn_icmp_ne (pc := 36) (tgt := 62) dX4_mayStand_36 rfl (sn_lf (pc := 62) (ln_i (i := 0) (fun z0 => (ln_end (o := fun τ => f_T_mayStand_62 z0 τ) (fun _ _ _ e h => s_T_mayStand_62 G z0 _ _ _ e h))))) (sn_iload_n (pc := 39) (i := 2) dX4_mayStand_39 rfl (sn_iconst (pc := 40) (v := 4) dX4_mayStand_40 rfl (sn_icmp_ne (pc := 41) (tgt := 62) dX4_mayStand_41 rfl (sn_lf (pc := 62) (ln_i (i := 0) (fun z0 => (ln_end (o := fun τ => f_T_mayStand_62 z0 τ) (fun _ _ _ e h => s_T_mayStand_62 G z0 _ _ _ e h))))) (sn_iload_n (pc := 44) (i := 0) dX4_mayStand_44 rfl (sn_bipush (pc := 45) (v := 43) dX4_mayStand_45 rfl (sn_icmp_eq (pc := 47) (tgt := 56) dX4_mayStand_47 rfl (sn_iconst (pc := 56) (v := 1) dX4_mayStand_56 rfl (sn_goto (pc := 57) (tgt := 61) dX4_mayStand_57 rfl (sn_retz (pc := 61) (R := fun x τ => (some ((x, τ)))) dX4_mayStand_61 rfl (fun _ _ _ _ e h => by cases e; exact h)))) (sn_iload_n (pc := 50) (i := 0) dX4_mayStand_50 rfl (sn_bipush (pc := 51) (v := 45) dX4_mayStand_51 rfl (sn_icmp_ne (pc := 53) (tgt := 60) dX4_mayStand_53 rfl (sn_iconst (pc := 60) (v := 0) dX4_mayStand_60 rfl (sn_retz (pc := 61) (R := fun x τ => (some ((x, τ)))) dX4_mayStand_61 rfl (fun _ _ _ _ e h => by cases e; exact h))) (sn_iconst (pc := 56) (v := 1) dX4_mayStand_56 rfl (sn_goto (pc := 57) (tgt := 61) dX4_mayStand_57 rfl (sn_retz (pc := 61) (R := fun x τ => (some ((x, τ)))) dX4_mayStand_61 rfl (fun _ _ _ _ e h => by cases e; exact h)))))))))))))))) (sn_iload_n (pc := 21) (i := 0) dX4_mayStand_21 rfl (sn_bipush (pc := 22) (v := 59) dX4_mayStand_22 rfl (sn_icmp_ne (pc := 24) (tgt := 31) dX4_mayStand_24 rfl (sn_iconst (pc := 31) (v := 0) dX4_mayStand_31 rfl (sn_retz (pc := 32) (R := fun x τ => (some ((x, τ)))) dX4_mayStand_32 rfl (fun _ _ _ _ e h => by cases e; exact h))) (sn_iconst (pc := 27) (v := 1) dX4_mayStand_27 rfl (sn_goto (pc := 28) (tgt := 32) dX4_mayStand_28 rfl (sn_retz (pc := 32) (R := fun x τ => (some ((x, τ)))) dX4_mayStand_32 rfl (fun _ _ _ _ e h => by cases e; exact h)))))))))))) (sn_iload_n (pc := 4) (i := 3) dX4_mayStand_4 rfl (sn_if_le (pc := 5) (tgt := 12) dX4_mayStand_5 rfl (sn_iconst (pc := 12) (v := 0) dX4_mayStand_12 rfl (sn_retz (pc := 13) (R := fun x τ => (some ((x, τ)))) dX4_mayStand_13 rfl (fun _ _ _ _ e h => by cases e; exact h))) (sn_iconst (pc := 8) (v := 1) dX4_mayStand_8 rfl (sn_goto (pc := 9) (tgt := 13) dX4_mayStand_9 rfl (sn_retz (pc := 13) (R := fun x τ => (some ((x, τ)))) dX4_mayStand_13 rfl (fun _ _ _ _ e h => by cases e; exact h))))))))) _ _ _ _ _ ((eq_T_mayStand x0 x1 x2 x3 σ).symm.trans e) hr
noncomputable def cF_T_mayStand : am_Fn := fun _ args σ K => match args with
  | [.int z0, .int z1, .int z2, .int z3] => (f_T_mayStand z0 z1 z2 z3 σ).bind (fun p => K (some (.int p.1)) p.2)
  | _ => none
theorem cal_T_mayStand (G : am_G) : am_Cal G M_T_mayStand cF_T_mayStand := by
  intro ρ args σ K r e
  unfold cF_T_mayStand at e
  split at e
  · obtain ⟨p, h1, h2⟩ := am_bind_some e
    exact ⟨some (.int p.1), p.2, am_Met.of rfl (Nat.le_of_ble_eq_true rfl) (s_T_mayStand G _ _ _ _ σ p _ h1 ⟨rfl, rfl⟩), h2⟩
  · cases e
abbrev M_T_digitAt : am_MD := (yX4_digitAt, cX4_digitAt, 2, (some .int), 1, 21)
theorem dX4_digitAt_0 : decode cX4_digitAt 0 = .ok (.aload_n 0, 1) := by decide +kernel
theorem dX4_digitAt_1 : decode cX4_digitAt 1 = .ok (.iload_n 1, 1) := by decide +kernel
theorem dX4_digitAt_2 : decode cX4_digitAt 2 = .ok (.invokevirtual 44, 3) := by decide +kernel
theorem dX4_digitAt_5 : decode cX4_digitAt 5 = .ok (.bipush 48, 2) := by decide +kernel
theorem dX4_digitAt_7 : decode cX4_digitAt 7 = .ok (.isub, 1) := by decide +kernel
theorem dX4_digitAt_8 : decode cX4_digitAt 8 = .ok (.ireturn, 1) := by decide +kernel
noncomputable def g_T_digitAt (x1 : Int32) (σ : am_St) : Option (Int32 × am_St) :=
  (f_T_letterAt x1 σ).bind (fun p1 =>
    some ((p1.1 - 48, p1.2)))
noncomputable def f_T_digitAt (x1 : Int32) (σ : am_St) : Option (Int32 × am_St) := am_lk (g_T_digitAt x1 σ)
theorem eq_T_digitAt (x1 : Int32) (σ : am_St) : f_T_digitAt x1 σ = g_T_digitAt x1 σ := am_lk_eq _
set_option maxRecDepth 100000 in
set_option maxHeartbeats 4000000 in
theorem s_T_digitAt (G : am_G) (x1 : Int32) (σ : am_St) (r : Int32 × am_St) (Q : am_AQ) (e : f_T_digitAt x1 σ = some r) (hr : am_Pi r Q) : am_AW G M_T_digitAt 0 [(0, .ref 35), (1, .int x1)] [] σ Q :=
  (show am_Snd G M_T_digitAt 0 am_Pi _ from (sn_aload_n (pc := 0) (i := 0) dX4_digitAt_0 rfl (sn_iload_n (pc := 1) (i := 1) dX4_digitAt_1 rfl (sn_callV (pc := 2) (N := M_T_letterAt) dX4_digitAt_2 (cal_T_letterAt G) sh_35 rfl tw_275 tw_277 tp_2 tw_9 tw_278 dsc_X4_letterAt rfl (sn_bipush (pc := 5) (v := 48) dX4_digitAt_5 rfl (sn_isub (pc := 7) dX4_digitAt_7 (sn_reti (pc := 8) (R := fun x τ => (some ((x, τ)))) dX4_digitAt_8 rfl (fun _ _ _ _ e h => by cases e; exact h)))))))) _ _ _ _ _ ((eq_T_digitAt x1 σ).symm.trans e) hr
noncomputable def cF_T_digitAt : am_Fn := fun _ args σ K => match args with
  | [.ref q0, .int z1] => match Nat.beq q0 35 with
    | true => (f_T_digitAt z1 σ).bind (fun p => K (some (.int p.1)) p.2)
    | _ => none
  | _ => none
theorem cal_T_digitAt (G : am_G) : am_Cal G M_T_digitAt cF_T_digitAt := by
  intro ρ args σ K r e
  unfold cF_T_digitAt at e
  split at e
  · split at e
    · rename_i hq0
      obtain ⟨p, h1, h2⟩ := am_bind_some e
      rw [Nat.eq_of_beq_eq_true hq0]
      exact ⟨some (.int p.1), p.2, am_Met.of rfl (Nat.le_of_ble_eq_true rfl) (s_T_digitAt G _ σ p _ h1 ⟨rfl, rfl⟩), h2⟩
    · cases e
  · cases e
abbrev M_H_canBuild : am_MD := (yX3_canBuild, cX3_canBuild, 2, (some .boolean), 0, 0)
theorem dX3_canBuild_0 : decode cX3_canBuild 0 = .ok (.iload_n 0, 1) := by decide +kernel
theorem dX3_canBuild_1 : decode cX3_canBuild 1 = .ok (.iconst 2, 1) := by decide +kernel
theorem dX3_canBuild_2 : decode cX3_canBuild 2 = .ok (.if_icmp .lt 23, 3) := by decide +kernel
theorem dX3_canBuild_5 : decode cX3_canBuild 5 = .ok (.iload_n 0, 1) := by decide +kernel
theorem dX3_canBuild_6 : decode cX3_canBuild 6 = .ok (.iconst 4, 1) := by decide +kernel
theorem dX3_canBuild_7 : decode cX3_canBuild 7 = .ok (.if_icmp .gt 18, 3) := by decide +kernel
theorem dX3_canBuild_10 : decode cX3_canBuild 10 = .ok (.iload_n 1, 1) := by decide +kernel
theorem dX3_canBuild_11 : decode cX3_canBuild 11 = .ok (.iconst 2, 1) := by decide +kernel
theorem dX3_canBuild_12 : decode cX3_canBuild 12 = .ok (.if_icmp .lt 13, 3) := by decide +kernel
theorem dX3_canBuild_15 : decode cX3_canBuild 15 = .ok (.iload_n 1, 1) := by decide +kernel
theorem dX3_canBuild_16 : decode cX3_canBuild 16 = .ok (.bipush 6, 2) := by decide +kernel
theorem dX3_canBuild_18 : decode cX3_canBuild 18 = .ok (.if_icmp .gt 7, 3) := by decide +kernel
theorem dX3_canBuild_21 : decode cX3_canBuild 21 = .ok (.iconst 1, 1) := by decide +kernel
theorem dX3_canBuild_22 : decode cX3_canBuild 22 = .ok (.goto 4, 3) := by decide +kernel
theorem dX3_canBuild_25 : decode cX3_canBuild 25 = .ok (.iconst 0, 1) := by decide +kernel
theorem dX3_canBuild_26 : decode cX3_canBuild 26 = .ok (.ireturn, 1) := by decide +kernel
noncomputable def g_H_canBuild (x0 : Int32) (x1 : Int32) (σ : am_St) : Option (Int32 × am_St) :=
  if x0 < 2 then
    some ((0, σ))
  else
    if 4 < x0 then
      some ((0, σ))
    else
      if x1 < 2 then
        some ((0, σ))
      else
        if 6 < x1 then
          some ((0, σ))
        else
          some ((1, σ))
noncomputable def f_H_canBuild (x0 : Int32) (x1 : Int32) (σ : am_St) : Option (Int32 × am_St) := am_lk (g_H_canBuild x0 x1 σ)
theorem eq_H_canBuild (x0 : Int32) (x1 : Int32) (σ : am_St) : f_H_canBuild x0 x1 σ = g_H_canBuild x0 x1 σ := am_lk_eq _
set_option maxRecDepth 100000 in
set_option maxHeartbeats 4000000 in
theorem s_H_canBuild (G : am_G) (x0 : Int32) (x1 : Int32) (σ : am_St) (r : Int32 × am_St) (Q : am_AQ) (e : f_H_canBuild x0 x1 σ = some r) (hr : am_Pi r Q) : am_AW G M_H_canBuild 0 [(0, .int x0), (1, .int x1)] [] σ Q :=
  (show am_Snd G M_H_canBuild 0 am_Pi _ from (sn_iload_n (pc := 0) (i := 0) dX3_canBuild_0 rfl (sn_iconst (pc := 1) (v := 2) dX3_canBuild_1 rfl (sn_icmp_lt (pc := 2) (tgt := 25) dX3_canBuild_2 rfl (sn_iconst (pc := 25) (v := 0) dX3_canBuild_25 rfl (sn_retz (pc := 26) (R := fun x τ => (some ((x, τ)))) dX3_canBuild_26 rfl (fun _ _ _ _ e h => by cases e; exact h))) (sn_iload_n (pc := 5) (i := 0) dX3_canBuild_5 rfl (sn_iconst (pc := 6) (v := 4) dX3_canBuild_6 rfl (sn_icmp_gt (pc := 7) (tgt := 25) dX3_canBuild_7 rfl (sn_iconst (pc := 25) (v := 0) dX3_canBuild_25 rfl (sn_retz (pc := 26) (R := fun x τ => (some ((x, τ)))) dX3_canBuild_26 rfl (fun _ _ _ _ e h => by cases e; exact h))) (sn_iload_n (pc := 10) (i := 1) dX3_canBuild_10 rfl (sn_iconst (pc := 11) (v := 2) dX3_canBuild_11 rfl (sn_icmp_lt (pc := 12) (tgt := 25) dX3_canBuild_12 rfl (sn_iconst (pc := 25) (v := 0) dX3_canBuild_25 rfl (sn_retz (pc := 26) (R := fun x τ => (some ((x, τ)))) dX3_canBuild_26 rfl (fun _ _ _ _ e h => by cases e; exact h))) (sn_iload_n (pc := 15) (i := 1) dX3_canBuild_15 rfl (sn_bipush (pc := 16) (v := 6) dX3_canBuild_16 rfl (sn_icmp_gt (pc := 18) (tgt := 25) dX3_canBuild_18 rfl (sn_iconst (pc := 25) (v := 0) dX3_canBuild_25 rfl (sn_retz (pc := 26) (R := fun x τ => (some ((x, τ)))) dX3_canBuild_26 rfl (fun _ _ _ _ e h => by cases e; exact h))) (sn_iconst (pc := 21) (v := 1) dX3_canBuild_21 rfl (sn_goto (pc := 22) (tgt := 26) dX3_canBuild_22 rfl (sn_retz (pc := 26) (R := fun x τ => (some ((x, τ)))) dX3_canBuild_26 rfl (fun _ _ _ _ e h => by cases e; exact h))))))))))))))))) _ _ _ _ _ ((eq_H_canBuild x0 x1 σ).symm.trans e) hr
noncomputable def cF_H_canBuild : am_Fn := fun _ args σ K => match args with
  | [.int z0, .int z1] => (f_H_canBuild z0 z1 σ).bind (fun p => K (some (.int p.1)) p.2)
  | _ => none
theorem cal_H_canBuild (G : am_G) : am_Cal G M_H_canBuild cF_H_canBuild := by
  intro ρ args σ K r e
  unfold cF_H_canBuild at e
  split at e
  · obtain ⟨p, h1, h2⟩ := am_bind_some e
    exact ⟨some (.int p.1), p.2, am_Met.of rfl (Nat.le_of_ble_eq_true rfl) (s_H_canBuild G _ _ σ p _ h1 ⟨rfl, rfl⟩), h2⟩
  · cases e
abbrev M_T_minutesBehind : am_MD := (yX4_minutesBehind, cX4_minutesBehind, 4, (some .int), 2, 42)
theorem dX4_minutesBehind_0 : decode cX4_minutesBehind 0 = .ok (.aload_n 0, 1) := by decide +kernel
theorem dX4_minutesBehind_1 : decode cX4_minutesBehind 1 = .ok (.iload_n 1, 1) := by decide +kernel
theorem dX4_minutesBehind_2 : decode cX4_minutesBehind 2 = .ok (.invokevirtual 44, 3) := by decide +kernel
theorem dX4_minutesBehind_5 : decode cX4_minutesBehind 5 = .ok (.bipush 114, 2) := by decide +kernel
theorem dX4_minutesBehind_7 : decode cX4_minutesBehind 7 = .ok (.if_icmp .ne 27, 3) := by decide +kernel
theorem dX4_minutesBehind_10 : decode cX4_minutesBehind 10 = .ok (.aload_n 0, 1) := by decide +kernel
theorem dX4_minutesBehind_11 : decode cX4_minutesBehind 11 = .ok (.iload_n 1, 1) := by decide +kernel
theorem dX4_minutesBehind_12 : decode cX4_minutesBehind 12 = .ok (.iconst 1, 1) := by decide +kernel
theorem dX4_minutesBehind_13 : decode cX4_minutesBehind 13 = .ok (.iadd, 1) := by decide +kernel
theorem dX4_minutesBehind_14 : decode cX4_minutesBehind 14 = .ok (.invokevirtual 58, 3) := by decide +kernel
theorem dX4_minutesBehind_17 : decode cX4_minutesBehind 17 = .ok (.aload_n 0, 1) := by decide +kernel
theorem dX4_minutesBehind_18 : decode cX4_minutesBehind 18 = .ok (.iload_n 1, 1) := by decide +kernel
theorem dX4_minutesBehind_19 : decode cX4_minutesBehind 19 = .ok (.iconst 2, 1) := by decide +kernel
theorem dX4_minutesBehind_20 : decode cX4_minutesBehind 20 = .ok (.iadd, 1) := by decide +kernel
theorem dX4_minutesBehind_21 : decode cX4_minutesBehind 21 = .ok (.invokevirtual 58, 3) := by decide +kernel
theorem dX4_minutesBehind_24 : decode cX4_minutesBehind 24 = .ok (.invokestatic 61, 3) := by decide +kernel
theorem dX4_minutesBehind_27 : decode cX4_minutesBehind 27 = .ok (.ifCond .eq 7, 3) := by decide +kernel
theorem dX4_minutesBehind_30 : decode cX4_minutesBehind 30 = .ok (.iconst 1, 1) := by decide +kernel
theorem dX4_minutesBehind_31 : decode cX4_minutesBehind 31 = .ok (.goto 4, 3) := by decide +kernel
theorem dX4_minutesBehind_34 : decode cX4_minutesBehind 34 = .ok (.iconst 0, 1) := by decide +kernel
theorem dX4_minutesBehind_35 : decode cX4_minutesBehind 35 = .ok (.istore_n 3, 1) := by decide +kernel
theorem dX4_minutesBehind_36 : decode cX4_minutesBehind 36 = .ok (.iload_n 3, 1) := by decide +kernel
theorem dX4_minutesBehind_37 : decode cX4_minutesBehind 37 = .ok (.ifCond .eq 13, 3) := by decide +kernel
theorem dX4_minutesBehind_40 : decode cX4_minutesBehind 40 = .ok (.aload_n 0, 1) := by decide +kernel
theorem dX4_minutesBehind_41 : decode cX4_minutesBehind 41 = .ok (.iload_n 1, 1) := by decide +kernel
theorem dX4_minutesBehind_42 : decode cX4_minutesBehind 42 = .ok (.iconst 2, 1) := by decide +kernel
theorem dX4_minutesBehind_43 : decode cX4_minutesBehind 43 = .ok (.iadd, 1) := by decide +kernel
theorem dX4_minutesBehind_44 : decode cX4_minutesBehind 44 = .ok (.invokevirtual 58, 3) := by decide +kernel
theorem dX4_minutesBehind_47 : decode cX4_minutesBehind 47 = .ok (.goto 4, 3) := by decide +kernel
theorem dX4_minutesBehind_50 : decode cX4_minutesBehind 50 = .ok (.iload_n 2, 1) := by decide +kernel
theorem dX4_minutesBehind_51 : decode cX4_minutesBehind 51 = .ok (.ireturn, 1) := by decide +kernel
noncomputable def g_T_minutesBehind_35 (x1 : Int32) (x2 : Int32) (y0 : Int32) (σ : am_St) : Option (Int32 × am_St) :=
  if y0 = 0 then
    some ((x2, σ))
  else
    (f_T_digitAt (x1 + 2) σ).bind (fun p1 =>
      some ((p1.1, p1.2)))
noncomputable def f_T_minutesBehind_35 (x1 : Int32) (x2 : Int32) (y0 : Int32) (σ : am_St) : Option (Int32 × am_St) := am_lk (g_T_minutesBehind_35 x1 x2 y0 σ)
theorem eq_T_minutesBehind_35 (x1 : Int32) (x2 : Int32) (y0 : Int32) (σ : am_St) : f_T_minutesBehind_35 x1 x2 y0 σ = g_T_minutesBehind_35 x1 x2 y0 σ := am_lk_eq _
set_option maxRecDepth 100000 in
set_option maxHeartbeats 4000000 in
theorem s_T_minutesBehind_35 (G : am_G) (x1 : Int32) (x2 : Int32) (y0 : Int32) (σ : am_St) (r : Int32 × am_St) (Q : am_AQ) (e : f_T_minutesBehind_35 x1 x2 y0 σ = some r) (hr : am_Pi r Q) : am_AW G M_T_minutesBehind 35 [(2, .int x2), (1, .int x1), (0, .ref 35)] [.int y0] σ Q :=
  (show am_Snd G M_T_minutesBehind 35 am_Pi _ from (sn_istore_n (pc := 35) (i := 3) dX4_minutesBehind_35 rfl (Nat.le_of_ble_eq_true rfl) (sn_iload_n (pc := 36) (i := 3) dX4_minutesBehind_36 rfl (sn_if_eq (pc := 37) (tgt := 50) dX4_minutesBehind_37 rfl (sn_iload_n (pc := 50) (i := 2) dX4_minutesBehind_50 rfl (sn_reti (pc := 51) (R := fun x τ => (some ((x, τ)))) dX4_minutesBehind_51 rfl (fun _ _ _ _ e h => by cases e; exact h))) (sn_aload_n (pc := 40) (i := 0) dX4_minutesBehind_40 rfl (sn_iload_n (pc := 41) (i := 1) dX4_minutesBehind_41 rfl (sn_iconst (pc := 42) (v := 2) dX4_minutesBehind_42 rfl (sn_iadd (pc := 43) dX4_minutesBehind_43 (sn_callV (pc := 44) (N := M_T_digitAt) dX4_minutesBehind_44 (cal_T_digitAt G) sh_35 rfl tw_289 tw_291 tp_4 tw_9 tw_292 dsc_X4_digitAt rfl (sn_goto (pc := 47) (tgt := 51) dX4_minutesBehind_47 rfl (sn_reti (pc := 51) (R := fun x τ => (some ((x, τ)))) dX4_minutesBehind_51 rfl (fun _ _ _ _ e h => by cases e; exact h)))))))))))) _ _ _ _ _ ((eq_T_minutesBehind_35 x1 x2 y0 σ).symm.trans e) hr
noncomputable def g_T_minutesBehind_34 (x1 : Int32) (x2 : Int32) (σ : am_St) : Option (Int32 × am_St) :=
  f_T_minutesBehind_35 x1 x2 0 σ
noncomputable def f_T_minutesBehind_34 (x1 : Int32) (x2 : Int32) (σ : am_St) : Option (Int32 × am_St) := am_lk (g_T_minutesBehind_34 x1 x2 σ)
theorem eq_T_minutesBehind_34 (x1 : Int32) (x2 : Int32) (σ : am_St) : f_T_minutesBehind_34 x1 x2 σ = g_T_minutesBehind_34 x1 x2 σ := am_lk_eq _
set_option maxRecDepth 100000 in
set_option maxHeartbeats 4000000 in
theorem s_T_minutesBehind_34 (G : am_G) (x1 : Int32) (x2 : Int32) (σ : am_St) (r : Int32 × am_St) (Q : am_AQ) (e : f_T_minutesBehind_34 x1 x2 σ = some r) (hr : am_Pi r Q) : am_AW G M_T_minutesBehind 34 [(2, .int x2), (1, .int x1), (0, .ref 35)] [] σ Q :=
  (show am_Snd G M_T_minutesBehind 34 am_Pi _ from (sn_iconst (pc := 34) (v := 0) dX4_minutesBehind_34 rfl (sn_lf (pc := 35) (ln_a (i := 0) (q := 35) (ln_i (i := 1) (fun z0 => (ln_i (i := 2) (fun z1 => (ln_si (fun w0 => (ln_end (o := fun τ => f_T_minutesBehind_35 z0 z1 w0 τ) (fun _ _ _ e h => s_T_minutesBehind_35 G z0 z1 w0 _ _ _ e h)))))))))))) _ _ _ _ _ ((eq_T_minutesBehind_34 x1 x2 σ).symm.trans e) hr
noncomputable def g_T_minutesBehind_27 (x1 : Int32) (x2 : Int32) (y0 : Int32) (σ : am_St) : Option (Int32 × am_St) :=
  if y0 = 0 then
    f_T_minutesBehind_34 x1 x2 σ
  else
    f_T_minutesBehind_35 x1 x2 1 σ
noncomputable def f_T_minutesBehind_27 (x1 : Int32) (x2 : Int32) (y0 : Int32) (σ : am_St) : Option (Int32 × am_St) := am_lk (g_T_minutesBehind_27 x1 x2 y0 σ)
theorem eq_T_minutesBehind_27 (x1 : Int32) (x2 : Int32) (y0 : Int32) (σ : am_St) : f_T_minutesBehind_27 x1 x2 y0 σ = g_T_minutesBehind_27 x1 x2 y0 σ := am_lk_eq _
set_option maxRecDepth 100000 in
set_option maxHeartbeats 4000000 in
theorem s_T_minutesBehind_27 (G : am_G) (x1 : Int32) (x2 : Int32) (y0 : Int32) (σ : am_St) (r : Int32 × am_St) (Q : am_AQ) (e : f_T_minutesBehind_27 x1 x2 y0 σ = some r) (hr : am_Pi r Q) : am_AW G M_T_minutesBehind 27 [(2, .int x2), (1, .int x1), (0, .ref 35)] [.int y0] σ Q :=
  (show am_Snd G M_T_minutesBehind 27 am_Pi _ from (sn_if_eq (pc := 27) (tgt := 34) dX4_minutesBehind_27 rfl (sn_lf (pc := 34) (ln_a (i := 0) (q := 35) (ln_i (i := 1) (fun z0 => (ln_i (i := 2) (fun z1 => (ln_end (o := fun τ => f_T_minutesBehind_34 z0 z1 τ) (fun _ _ _ e h => s_T_minutesBehind_34 G z0 z1 _ _ _ e h)))))))) (sn_iconst (pc := 30) (v := 1) dX4_minutesBehind_30 rfl (sn_goto (pc := 31) (tgt := 35) dX4_minutesBehind_31 rfl (sn_lf (pc := 35) (ln_a (i := 0) (q := 35) (ln_i (i := 1) (fun z0 => (ln_i (i := 2) (fun z1 => (ln_si (fun w0 => (ln_end (o := fun τ => f_T_minutesBehind_35 z0 z1 w0 τ) (fun _ _ _ e h => s_T_minutesBehind_35 G z0 z1 w0 _ _ _ e h)))))))))))))) _ _ _ _ _ ((eq_T_minutesBehind_27 x1 x2 y0 σ).symm.trans e) hr
noncomputable def g_T_minutesBehind (x1 : Int32) (x2 : Int32) (σ : am_St) : Option (Int32 × am_St) :=
  (f_T_letterAt x1 σ).bind (fun p1 =>
    if p1.1 = 114 then
      (f_T_digitAt (x1 + 1) p1.2).bind (fun p2 =>
        (f_T_digitAt (x1 + 2) p2.2).bind (fun p3 =>
          (f_H_canBuild p2.1 p3.1 p3.2).bind (fun p4 =>
            f_T_minutesBehind_27 x1 x2 p4.1 p4.2)))
    else
      f_T_minutesBehind_34 x1 x2 p1.2)
noncomputable def f_T_minutesBehind (x1 : Int32) (x2 : Int32) (σ : am_St) : Option (Int32 × am_St) := am_lk (g_T_minutesBehind x1 x2 σ)
theorem eq_T_minutesBehind (x1 : Int32) (x2 : Int32) (σ : am_St) : f_T_minutesBehind x1 x2 σ = g_T_minutesBehind x1 x2 σ := am_lk_eq _
set_option maxRecDepth 100000 in
set_option maxHeartbeats 4000000 in
theorem s_T_minutesBehind (G : am_G) (x1 : Int32) (x2 : Int32) (σ : am_St) (r : Int32 × am_St) (Q : am_AQ) (e : f_T_minutesBehind x1 x2 σ = some r) (hr : am_Pi r Q) : am_AW G M_T_minutesBehind 0 [(0, .ref 35), (1, .int x1), (2, .int x2)] [] σ Q :=
  (show am_Snd G M_T_minutesBehind 0 am_Pi _ from (sn_aload_n (pc := 0) (i := 0) dX4_minutesBehind_0 rfl (sn_iload_n (pc := 1) (i := 1) dX4_minutesBehind_1 rfl (sn_callV (pc := 2) (N := M_T_letterAt) dX4_minutesBehind_2 (cal_T_letterAt G) sh_35 rfl tw_275 tw_277 tp_2 tw_9 tw_278 dsc_X4_letterAt rfl (sn_bipush (pc := 5) (v := 114) dX4_minutesBehind_5 rfl (sn_icmp_ne (pc := 7) (tgt := 34) dX4_minutesBehind_7 rfl (sn_lf (pc := 34) (ln_a (i := 0) (q := 35) (ln_i (i := 1) (fun z0 => (ln_i (i := 2) (fun z1 => (ln_end (o := fun τ => f_T_minutesBehind_34 z0 z1 τ) (fun _ _ _ e h => s_T_minutesBehind_34 G z0 z1 _ _ _ e h)))))))) (sn_aload_n (pc := 10) (i := 0) dX4_minutesBehind_10 rfl (sn_iload_n (pc := 11) (i := 1) dX4_minutesBehind_11 rfl (sn_iconst (pc := 12) (v := 1) dX4_minutesBehind_12 rfl (sn_iadd (pc := 13) dX4_minutesBehind_13 (sn_callV (pc := 14) (N := M_T_digitAt) dX4_minutesBehind_14 (cal_T_digitAt G) sh_35 rfl tw_289 tw_291 tp_4 tw_9 tw_292 dsc_X4_digitAt rfl (sn_aload_n (pc := 17) (i := 0) dX4_minutesBehind_17 rfl (sn_iload_n (pc := 18) (i := 1) dX4_minutesBehind_18 rfl (sn_iconst (pc := 19) (v := 2) dX4_minutesBehind_19 rfl (sn_iadd (pc := 20) dX4_minutesBehind_20 (sn_callV (pc := 21) (N := M_T_digitAt) dX4_minutesBehind_21 (cal_T_digitAt G) sh_35 rfl tw_289 tw_291 tp_4 tw_9 tw_292 dsc_X4_digitAt rfl (sn_callS (pc := 24) (N := M_H_canBuild) dX4_minutesBehind_24 (cal_H_canBuild G) tw_293 tw_294 tw_2 tw_295 dsc_X3_canBuild rfl (sn_lf (pc := 27) (ln_a (i := 0) (q := 35) (ln_i (i := 1) (fun z0 => (ln_i (i := 2) (fun z1 => (ln_si (fun w0 => (ln_end (o := fun τ => f_T_minutesBehind_27 z0 z1 w0 τ) (fun _ _ _ e h => s_T_minutesBehind_27 G z0 z1 w0 _ _ _ e h))))))))))))))))))))))))))) _ _ _ _ _ ((eq_T_minutesBehind x1 x2 σ).symm.trans e) hr
noncomputable def cF_T_minutesBehind : am_Fn := fun _ args σ K => match args with
  | [.ref q0, .int z1, .int z2] => match Nat.beq q0 35 with
    | true => (f_T_minutesBehind z1 z2 σ).bind (fun p => K (some (.int p.1)) p.2)
    | _ => none
  | _ => none
theorem cal_T_minutesBehind (G : am_G) : am_Cal G M_T_minutesBehind cF_T_minutesBehind := by
  intro ρ args σ K r e
  unfold cF_T_minutesBehind at e
  split at e
  · split at e
    · rename_i hq0
      obtain ⟨p, h1, h2⟩ := am_bind_some e
      rw [Nat.eq_of_beq_eq_true hq0]
      exact ⟨some (.int p.1), p.2, am_Met.of rfl (Nat.le_of_ble_eq_true rfl) (s_T_minutesBehind G _ _ σ p _ h1 ⟨rfl, rfl⟩), h2⟩
    · cases e
  · cases e
abbrev M_T_firstWrongLetter : am_MD := (yX4_firstWrongLetter, cX4_firstWrongLetter, 7, (some .int), 3, 65)
theorem dX4_firstWrongLetter_0 : decode cX4_firstWrongLetter 0 = .ok (.iload_n 1, 1) := by decide +kernel
theorem dX4_firstWrongLetter_1 : decode cX4_firstWrongLetter 1 = .ok (.istore_n 2, 1) := by decide +kernel
theorem dX4_firstWrongLetter_2 : decode cX4_firstWrongLetter 2 = .ok (.iconst 0, 1) := by decide +kernel
theorem dX4_firstWrongLetter_3 : decode cX4_firstWrongLetter 3 = .ok (.istore_n 3, 1) := by decide +kernel
theorem dX4_firstWrongLetter_4 : decode cX4_firstWrongLetter 4 = .ok (.iconst 0, 1) := by decide +kernel
theorem dX4_firstWrongLetter_5 : decode cX4_firstWrongLetter 5 = .ok (.istore 4, 2) := by decide +kernel
theorem dX4_firstWrongLetter_7 : decode cX4_firstWrongLetter 7 = .ok (.iload 4, 2) := by decide +kernel
theorem dX4_firstWrongLetter_9 : decode cX4_firstWrongLetter 9 = .ok (.aload_n 0, 1) := by decide +kernel
theorem dX4_firstWrongLetter_10 : decode cX4_firstWrongLetter 10 = .ok (.getfield 15, 3) := by decide +kernel
theorem dX4_firstWrongLetter_13 : decode cX4_firstWrongLetter 13 = .ok (.if_icmp .ge 70, 3) := by decide +kernel
theorem dX4_firstWrongLetter_16 : decode cX4_firstWrongLetter 16 = .ok (.aload_n 0, 1) := by decide +kernel
theorem dX4_firstWrongLetter_17 : decode cX4_firstWrongLetter 17 = .ok (.iload_n 3, 1) := by decide +kernel
theorem dX4_firstWrongLetter_18 : decode cX4_firstWrongLetter 18 = .ok (.invokevirtual 44, 3) := by decide +kernel
theorem dX4_firstWrongLetter_21 : decode cX4_firstWrongLetter 21 = .ok (.istore 5, 2) := by decide +kernel
theorem dX4_firstWrongLetter_23 : decode cX4_firstWrongLetter 23 = .ok (.iload 5, 2) := by decide +kernel
theorem dX4_firstWrongLetter_25 : decode cX4_firstWrongLetter 25 = .ok (.iload_n 2, 1) := by decide +kernel
theorem dX4_firstWrongLetter_26 : decode cX4_firstWrongLetter 26 = .ok (.invokestatic 47, 3) := by decide +kernel
theorem dX4_firstWrongLetter_29 : decode cX4_firstWrongLetter 29 = .ok (.istore 6, 2) := by decide +kernel
theorem dX4_firstWrongLetter_31 : decode cX4_firstWrongLetter 31 = .ok (.aload_n 0, 1) := by decide +kernel
theorem dX4_firstWrongLetter_32 : decode cX4_firstWrongLetter 32 = .ok (.iload 4, 2) := by decide +kernel
theorem dX4_firstWrongLetter_34 : decode cX4_firstWrongLetter 34 = .ok (.invokevirtual 44, 3) := by decide +kernel
theorem dX4_firstWrongLetter_37 : decode cX4_firstWrongLetter 37 = .ok (.iload 5, 2) := by decide +kernel
theorem dX4_firstWrongLetter_39 : decode cX4_firstWrongLetter 39 = .ok (.iload 4, 2) := by decide +kernel
theorem dX4_firstWrongLetter_41 : decode cX4_firstWrongLetter 41 = .ok (.iload_n 3, 1) := by decide +kernel
theorem dX4_firstWrongLetter_42 : decode cX4_firstWrongLetter 42 = .ok (.isub, 1) := by decide +kernel
theorem dX4_firstWrongLetter_43 : decode cX4_firstWrongLetter 43 = .ok (.iload 6, 2) := by decide +kernel
theorem dX4_firstWrongLetter_45 : decode cX4_firstWrongLetter 45 = .ok (.invokestatic 51, 3) := by decide +kernel
theorem dX4_firstWrongLetter_48 : decode cX4_firstWrongLetter 48 = .ok (.ifCond .ne 6, 3) := by decide +kernel
theorem dX4_firstWrongLetter_51 : decode cX4_firstWrongLetter 51 = .ok (.iload 4, 2) := by decide +kernel
theorem dX4_firstWrongLetter_53 : decode cX4_firstWrongLetter 53 = .ok (.ireturn, 1) := by decide +kernel
theorem dX4_firstWrongLetter_54 : decode cX4_firstWrongLetter 54 = .ok (.iload 4, 2) := by decide +kernel
theorem dX4_firstWrongLetter_56 : decode cX4_firstWrongLetter 56 = .ok (.iload_n 3, 1) := by decide +kernel
theorem dX4_firstWrongLetter_57 : decode cX4_firstWrongLetter 57 = .ok (.isub, 1) := by decide +kernel
theorem dX4_firstWrongLetter_58 : decode cX4_firstWrongLetter 58 = .ok (.iload 6, 2) := by decide +kernel
theorem dX4_firstWrongLetter_60 : decode cX4_firstWrongLetter 60 = .ok (.iconst 1, 1) := by decide +kernel
theorem dX4_firstWrongLetter_61 : decode cX4_firstWrongLetter 61 = .ok (.isub, 1) := by decide +kernel
theorem dX4_firstWrongLetter_62 : decode cX4_firstWrongLetter 62 = .ok (.if_icmp .ne 15, 3) := by decide +kernel
theorem dX4_firstWrongLetter_65 : decode cX4_firstWrongLetter 65 = .ok (.aload_n 0, 1) := by decide +kernel
theorem dX4_firstWrongLetter_66 : decode cX4_firstWrongLetter 66 = .ok (.iload_n 3, 1) := by decide +kernel
theorem dX4_firstWrongLetter_67 : decode cX4_firstWrongLetter 67 = .ok (.iload_n 2, 1) := by decide +kernel
theorem dX4_firstWrongLetter_68 : decode cX4_firstWrongLetter 68 = .ok (.invokevirtual 55, 3) := by decide +kernel
theorem dX4_firstWrongLetter_71 : decode cX4_firstWrongLetter 71 = .ok (.istore_n 2, 1) := by decide +kernel
theorem dX4_firstWrongLetter_72 : decode cX4_firstWrongLetter 72 = .ok (.iload 4, 2) := by decide +kernel
theorem dX4_firstWrongLetter_74 : decode cX4_firstWrongLetter 74 = .ok (.iconst 1, 1) := by decide +kernel
theorem dX4_firstWrongLetter_75 : decode cX4_firstWrongLetter 75 = .ok (.iadd, 1) := by decide +kernel
theorem dX4_firstWrongLetter_76 : decode cX4_firstWrongLetter 76 = .ok (.istore_n 3, 1) := by decide +kernel
theorem dX4_firstWrongLetter_77 : decode cX4_firstWrongLetter 77 = .ok (.iinc 4 1, 3) := by decide +kernel
theorem dX4_firstWrongLetter_80 : decode cX4_firstWrongLetter 80 = .ok (.goto (-73), 3) := by decide +kernel
theorem dX4_firstWrongLetter_83 : decode cX4_firstWrongLetter 83 = .ok (.aload_n 0, 1) := by decide +kernel
theorem dX4_firstWrongLetter_84 : decode cX4_firstWrongLetter 84 = .ok (.getfield 15, 3) := by decide +kernel
theorem dX4_firstWrongLetter_87 : decode cX4_firstWrongLetter 87 = .ok (.ifCond .le 15, 3) := by decide +kernel
theorem dX4_firstWrongLetter_90 : decode cX4_firstWrongLetter 90 = .ok (.iload_n 3, 1) := by decide +kernel
theorem dX4_firstWrongLetter_91 : decode cX4_firstWrongLetter 91 = .ok (.aload_n 0, 1) := by decide +kernel
theorem dX4_firstWrongLetter_92 : decode cX4_firstWrongLetter 92 = .ok (.getfield 15, 3) := by decide +kernel
theorem dX4_firstWrongLetter_95 : decode cX4_firstWrongLetter 95 = .ok (.if_icmp .ne 7, 3) := by decide +kernel
theorem dX4_firstWrongLetter_98 : decode cX4_firstWrongLetter 98 = .ok (.iconst (-1), 1) := by decide +kernel
theorem dX4_firstWrongLetter_99 : decode cX4_firstWrongLetter 99 = .ok (.goto 7, 3) := by decide +kernel
theorem dX4_firstWrongLetter_102 : decode cX4_firstWrongLetter 102 = .ok (.aload_n 0, 1) := by decide +kernel
theorem dX4_firstWrongLetter_103 : decode cX4_firstWrongLetter 103 = .ok (.getfield 15, 3) := by decide +kernel
theorem dX4_firstWrongLetter_106 : decode cX4_firstWrongLetter 106 = .ok (.ireturn, 1) := by decide +kernel
abbrev Pl_T_firstWrongLetter_7 (G : am_G) : ((Int32 × Int32 × Int32 × am_St) ⊕ (Int32 × am_St)) → am_AQ → Prop := am_PL G M_T_firstWrongLetter 7 (fun s : Int32 × Int32 × Int32 × am_St => [(4, .int s.2.2.1), (3, .int s.2.1), (2, .int s.1), (0, .ref 35)]) (fun s => s.2.2.2) am_Pi
noncomputable def g_T_firstWrongLetter_77 (x2 : Int32) (x3 : Int32) (x4 : Int32) (σ : am_St) : Option ((Int32 × Int32 × Int32 × am_St) ⊕ (Int32 × am_St)) :=
  let v1 := x4 + 1
  some (.inl (x2, x3, v1, σ))
noncomputable def f_T_firstWrongLetter_77 (x2 : Int32) (x3 : Int32) (x4 : Int32) (σ : am_St) : Option ((Int32 × Int32 × Int32 × am_St) ⊕ (Int32 × am_St)) := am_lk (g_T_firstWrongLetter_77 x2 x3 x4 σ)
theorem eq_T_firstWrongLetter_77 (x2 : Int32) (x3 : Int32) (x4 : Int32) (σ : am_St) : f_T_firstWrongLetter_77 x2 x3 x4 σ = g_T_firstWrongLetter_77 x2 x3 x4 σ := am_lk_eq _
set_option maxRecDepth 100000 in
set_option maxHeartbeats 4000000 in
theorem s_T_firstWrongLetter_77 (G : am_G) (x2 : Int32) (x3 : Int32) (x4 : Int32) (σ : am_St) (r : (Int32 × Int32 × Int32 × am_St) ⊕ (Int32 × am_St)) (Q : am_AQ) (e : f_T_firstWrongLetter_77 x2 x3 x4 σ = some r) (hr : (Pl_T_firstWrongLetter_7 G) r Q) : am_AW G M_T_firstWrongLetter 77 [(4, .int x4), (3, .int x3), (2, .int x2), (0, .ref 35)] [] σ Q :=
  (show am_Snd G M_T_firstWrongLetter 77 (Pl_T_firstWrongLetter_7 G) _ from (sn_iinc (pc := 77) (v := 1) dX4_firstWrongLetter_77 rfl (Nat.le_of_ble_eq_true rfl) (sn_goto (pc := 80) (tgt := 7) dX4_firstWrongLetter_80 rfl (sn_lf (pc := 7) (ln_a (i := 0) (q := 35) (ln_i (i := 2) (fun z0 => (ln_i (i := 3) (fun z1 => (ln_i (i := 4) (fun z2 => (ln_end (o := fun τ => (some (.inl (z0, z1, z2, τ)) : Option ((Int32 × Int32 × Int32 × am_St) ⊕ (Int32 × am_St)))) (fun _ _ _ e h => by cases e; exact h))))))))))))) _ _ _ _ _ ((eq_T_firstWrongLetter_77 x2 x3 x4 σ).symm.trans e) hr
noncomputable def g_T_firstWrongLetter_65 (x2 : Int32) (x3 : Int32) (x4 : Int32) (σ : am_St) : Option ((Int32 × Int32 × Int32 × am_St) ⊕ (Int32 × am_St)) :=
  (f_T_minutesBehind x3 x2 σ).bind (fun p1 =>
    let v2 := x4 + 1
    f_T_firstWrongLetter_77 p1.1 v2 x4 p1.2)
noncomputable def f_T_firstWrongLetter_65 (x2 : Int32) (x3 : Int32) (x4 : Int32) (σ : am_St) : Option ((Int32 × Int32 × Int32 × am_St) ⊕ (Int32 × am_St)) := am_lk (g_T_firstWrongLetter_65 x2 x3 x4 σ)
theorem eq_T_firstWrongLetter_65 (x2 : Int32) (x3 : Int32) (x4 : Int32) (σ : am_St) : f_T_firstWrongLetter_65 x2 x3 x4 σ = g_T_firstWrongLetter_65 x2 x3 x4 σ := am_lk_eq _
set_option maxRecDepth 100000 in
set_option maxHeartbeats 4000000 in
theorem s_T_firstWrongLetter_65 (G : am_G) (x2 : Int32) (x3 : Int32) (x4 : Int32) (σ : am_St) (r : (Int32 × Int32 × Int32 × am_St) ⊕ (Int32 × am_St)) (Q : am_AQ) (e : f_T_firstWrongLetter_65 x2 x3 x4 σ = some r) (hr : (Pl_T_firstWrongLetter_7 G) r Q) : am_AW G M_T_firstWrongLetter 65 [(4, .int x4), (3, .int x3), (2, .int x2), (0, .ref 35)] [] σ Q :=
  (show am_Snd G M_T_firstWrongLetter 65 (Pl_T_firstWrongLetter_7 G) _ from (sn_aload_n (pc := 65) (i := 0) dX4_firstWrongLetter_65 rfl (sn_iload_n (pc := 66) (i := 3) dX4_firstWrongLetter_66 rfl (sn_iload_n (pc := 67) (i := 2) dX4_firstWrongLetter_67 rfl (sn_callV (pc := 68) (N := M_T_minutesBehind) dX4_firstWrongLetter_68 (cal_T_minutesBehind G) sh_35 rfl tw_285 tw_287 tp_3 tw_9 tw_288 dsc_X4_minutesBehind rfl (sn_istore_n (pc := 71) (i := 2) dX4_firstWrongLetter_71 rfl (Nat.le_of_ble_eq_true rfl) (sn_iload (pc := 72) dX4_firstWrongLetter_72 (sn_iconst (pc := 74) (v := 1) dX4_firstWrongLetter_74 rfl (sn_iadd (pc := 75) dX4_firstWrongLetter_75 (sn_istore_n (pc := 76) (i := 3) dX4_firstWrongLetter_76 rfl (Nat.le_of_ble_eq_true rfl) (sn_lf (pc := 77) (ln_a (i := 0) (q := 35) (ln_i (i := 2) (fun z0 => (ln_i (i := 3) (fun z1 => (ln_i (i := 4) (fun z2 => (ln_end (o := fun τ => f_T_firstWrongLetter_77 z0 z1 z2 τ) (fun _ _ _ e h => s_T_firstWrongLetter_77 G z0 z1 z2 _ _ _ e h)))))))))))))))))))) _ _ _ _ _ ((eq_T_firstWrongLetter_65 x2 x3 x4 σ).symm.trans e) hr
noncomputable def g_T_firstWrongLetter_31 (x2 : Int32) (x3 : Int32) (x4 : Int32) (x5 : Int32) (x6 : Int32) (σ : am_St) : Option ((Int32 × Int32 × Int32 × am_St) ⊕ (Int32 × am_St)) :=
  (f_T_letterAt x4 σ).bind (fun p1 =>
    (f_T_mayStand p1.1 x5 (x4 - x3) x6 p1.2).bind (fun p2 =>
      if p2.1 = 0 then
        some (.inr ((x4, p2.2)))
      else
        if (x4 - x3) = (x6 - 1) then
          f_T_firstWrongLetter_65 x2 x3 x4 p2.2
        else
          f_T_firstWrongLetter_77 x2 x3 x4 p2.2))
noncomputable def f_T_firstWrongLetter_31 (x2 : Int32) (x3 : Int32) (x4 : Int32) (x5 : Int32) (x6 : Int32) (σ : am_St) : Option ((Int32 × Int32 × Int32 × am_St) ⊕ (Int32 × am_St)) := am_lk (g_T_firstWrongLetter_31 x2 x3 x4 x5 x6 σ)
theorem eq_T_firstWrongLetter_31 (x2 : Int32) (x3 : Int32) (x4 : Int32) (x5 : Int32) (x6 : Int32) (σ : am_St) : f_T_firstWrongLetter_31 x2 x3 x4 x5 x6 σ = g_T_firstWrongLetter_31 x2 x3 x4 x5 x6 σ := am_lk_eq _
set_option maxRecDepth 100000 in
set_option maxHeartbeats 4000000 in
theorem s_T_firstWrongLetter_31 (G : am_G) (x2 : Int32) (x3 : Int32) (x4 : Int32) (x5 : Int32) (x6 : Int32) (σ : am_St) (r : (Int32 × Int32 × Int32 × am_St) ⊕ (Int32 × am_St)) (Q : am_AQ) (e : f_T_firstWrongLetter_31 x2 x3 x4 x5 x6 σ = some r) (hr : (Pl_T_firstWrongLetter_7 G) r Q) : am_AW G M_T_firstWrongLetter 31 [(6, .int x6), (5, .int x5), (4, .int x4), (3, .int x3), (2, .int x2), (0, .ref 35)] [] σ Q :=
  (show am_Snd G M_T_firstWrongLetter 31 (Pl_T_firstWrongLetter_7 G) _ from (sn_aload_n (pc := 31) (i := 0) dX4_firstWrongLetter_31 rfl (sn_iload (pc := 32) dX4_firstWrongLetter_32 (sn_callV (pc := 34) (N := M_T_letterAt) dX4_firstWrongLetter_34 (cal_T_letterAt G) sh_35 rfl tw_275 tw_277 tp_2 tw_9 tw_278 dsc_X4_letterAt rfl (sn_iload (pc := 37) dX4_firstWrongLetter_37 (sn_iload (pc := 39) dX4_firstWrongLetter_39 (sn_iload_n (pc := 41) (i := 3) dX4_firstWrongLetter_41 rfl (sn_isub (pc := 42) dX4_firstWrongLetter_42 (sn_iload (pc := 43) dX4_firstWrongLetter_43 (sn_callS (pc := 45) (N := M_T_mayStand) dX4_firstWrongLetter_45 (cal_T_mayStand G) tw_282 tw_283 tw_9 tw_284 dsc_X4_mayStand rfl (sn_if_ne (pc := 48) (tgt := 54) dX4_firstWrongLetter_48 rfl (sn_iload (pc := 54) dX4_firstWrongLetter_54 (sn_iload_n (pc := 56) (i := 3) dX4_firstWrongLetter_56 rfl (sn_isub (pc := 57) dX4_firstWrongLetter_57 (sn_iload (pc := 58) dX4_firstWrongLetter_58 (sn_iconst (pc := 60) (v := 1) dX4_firstWrongLetter_60 rfl (sn_isub (pc := 61) dX4_firstWrongLetter_61 (sn_icmp_ne (pc := 62) (tgt := 77) dX4_firstWrongLetter_62 rfl (sn_lf (pc := 77) (ln_a (i := 0) (q := 35) (ln_i (i := 2) (fun z0 => (ln_i (i := 3) (fun z1 => (ln_i (i := 4) (fun z2 => (ln_end (o := fun τ => f_T_firstWrongLetter_77 z0 z1 z2 τ) (fun _ _ _ e h => s_T_firstWrongLetter_77 G z0 z1 z2 _ _ _ e h)))))))))) (sn_lf (pc := 65) (ln_a (i := 0) (q := 35) (ln_i (i := 2) (fun z0 => (ln_i (i := 3) (fun z1 => (ln_i (i := 4) (fun z2 => (ln_end (o := fun τ => f_T_firstWrongLetter_65 z0 z1 z2 τ) (fun _ _ _ e h => s_T_firstWrongLetter_65 G z0 z1 z2 _ _ _ e h))))))))))))))))) (sn_iload (pc := 51) dX4_firstWrongLetter_51 (sn_reti (pc := 53) (R := fun x τ => (some (.inr ((x, τ))) : Option ((Int32 × Int32 × Int32 × am_St) ⊕ (Int32 × am_St)))) dX4_firstWrongLetter_53 rfl (fun _ _ _ _ e h => by cases e; exact h)))))))))))))) _ _ _ _ _ ((eq_T_firstWrongLetter_31 x2 x3 x4 x5 x6 σ).symm.trans e) hr
noncomputable def g_T_firstWrongLetter_102 (σ : am_St) : Option (Int32 × am_St) :=
  some ((σ.1 35 1, σ))
noncomputable def f_T_firstWrongLetter_102 (σ : am_St) : Option (Int32 × am_St) := am_lk (g_T_firstWrongLetter_102  σ)
theorem eq_T_firstWrongLetter_102 (σ : am_St) : f_T_firstWrongLetter_102  σ = g_T_firstWrongLetter_102  σ := am_lk_eq _
set_option maxRecDepth 100000 in
set_option maxHeartbeats 4000000 in
theorem s_T_firstWrongLetter_102 (G : am_G) (σ : am_St) (r : Int32 × am_St) (Q : am_AQ) (e : f_T_firstWrongLetter_102  σ = some r) (hr : am_Pi r Q) : am_AW G M_T_firstWrongLetter 102 [(0, .ref 35)] [] σ Q :=
  (show am_Snd G M_T_firstWrongLetter 102 am_Pi _ from (sn_aload_n (pc := 102) (i := 0) dX4_firstWrongLetter_102 rfl (sn_gI (pc := 103) (h := 35) (f := 1) dX4_firstWrongLetter_103 am_CL_4 sh_35 rfl (Nat.le_of_ble_eq_true rfl) tw_161 (sn_reti (pc := 106) (R := fun x τ => (some ((x, τ)))) dX4_firstWrongLetter_106 rfl (fun _ _ _ _ e h => by cases e; exact h))))) _ _ _ _ _ ((eq_T_firstWrongLetter_102  σ).symm.trans e) hr
noncomputable def b_T_firstWrongLetter_7 (x2 : Int32) (x3 : Int32) (x4 : Int32) (σ : am_St) : Option ((Int32 × Int32 × Int32 × am_St) ⊕ (Int32 × am_St)) :=
  if (σ.1 35 1) ≤ x4 then
    if (σ.1 35 1) ≤ 0 then
      (f_T_firstWrongLetter_102 σ).map (fun r => .inr r)
    else
      if x3 = (σ.1 35 1) then
        some (.inr (((-1), σ)))
      else
        (f_T_firstWrongLetter_102 σ).map (fun r => .inr r)
  else
    (f_T_letterAt x3 σ).bind (fun p1 =>
      (f_T_lengthOf p1.1 x2 p1.2).bind (fun p2 =>
        f_T_firstWrongLetter_31 x2 x3 x4 p1.1 p2.1 p2.2))
noncomputable def f_T_firstWrongLetter_7 (x2 : Int32) (x3 : Int32) (x4 : Int32) (σ : am_St) : Option (Int32 × am_St) := am_lp (fun s : Int32 × Int32 × Int32 × am_St => b_T_firstWrongLetter_7 s.1 s.2.1 s.2.2.1 s.2.2.2) (x2, x3, x4, σ)
set_option maxRecDepth 100000 in
set_option maxHeartbeats 4000000 in
theorem sb_T_firstWrongLetter_7 (G : am_G) (x2 : Int32) (x3 : Int32) (x4 : Int32) (σ : am_St) (r : (Int32 × Int32 × Int32 × am_St) ⊕ (Int32 × am_St)) (Q : am_AQ) (e : b_T_firstWrongLetter_7 x2 x3 x4 σ = some r) (hr : Pl_T_firstWrongLetter_7 G r Q) : am_AW G M_T_firstWrongLetter 7 [(4, .int x4), (3, .int x3), (2, .int x2), (0, .ref 35)] [] σ Q :=
  (show am_Snd G M_T_firstWrongLetter 7 (Pl_T_firstWrongLetter_7 G) _ from (sn_iload (pc := 7) dX4_firstWrongLetter_7 (sn_aload_n (pc := 9) (i := 0) dX4_firstWrongLetter_9 rfl (sn_gI (pc := 10) (h := 35) (f := 1) dX4_firstWrongLetter_10 am_CL_4 sh_35 rfl (Nat.le_of_ble_eq_true rfl) tw_161 (sn_icmp_ge (pc := 13) (tgt := 83) dX4_firstWrongLetter_13 rfl (sn_aload_n (pc := 83) (i := 0) dX4_firstWrongLetter_83 rfl (sn_gI (pc := 84) (h := 35) (f := 1) dX4_firstWrongLetter_84 am_CL_4 sh_35 rfl (Nat.le_of_ble_eq_true rfl) tw_161 (sn_if_le (pc := 87) (tgt := 102) dX4_firstWrongLetter_87 rfl (sn_lf (pc := 102) (ln_a (i := 0) (q := 35) (ln_end (o := fun τ => ((f_T_firstWrongLetter_102 τ).map (fun r => .inr r) : Option ((Int32 × Int32 × Int32 × am_St) ⊕ (Int32 × am_St)))) (fun _ _ _ e h => by obtain ⟨r9, e9, rfl⟩ := am_map_some e; exact s_T_firstWrongLetter_102 G  _ _ _ e9 h)))) (sn_iload_n (pc := 90) (i := 3) dX4_firstWrongLetter_90 rfl (sn_aload_n (pc := 91) (i := 0) dX4_firstWrongLetter_91 rfl (sn_gI (pc := 92) (h := 35) (f := 1) dX4_firstWrongLetter_92 am_CL_4 sh_35 rfl (Nat.le_of_ble_eq_true rfl) tw_161 (sn_icmp_ne (pc := 95) (tgt := 102) dX4_firstWrongLetter_95 rfl (sn_lf (pc := 102) (ln_a (i := 0) (q := 35) (ln_end (o := fun τ => ((f_T_firstWrongLetter_102 τ).map (fun r => .inr r) : Option ((Int32 × Int32 × Int32 × am_St) ⊕ (Int32 × am_St)))) (fun _ _ _ e h => by obtain ⟨r9, e9, rfl⟩ := am_map_some e; exact s_T_firstWrongLetter_102 G  _ _ _ e9 h)))) (sn_iconst (pc := 98) (v := (-1)) dX4_firstWrongLetter_98 (show Int32.ofInt (-1) = (-1) by decide) (sn_goto (pc := 99) (tgt := 106) dX4_firstWrongLetter_99 rfl (sn_reti (pc := 106) (R := fun x τ => (some (.inr ((x, τ))) : Option ((Int32 × Int32 × Int32 × am_St) ⊕ (Int32 × am_St)))) dX4_firstWrongLetter_106 rfl (fun _ _ _ _ e h => by cases e; exact h))))))))))) (sn_aload_n (pc := 16) (i := 0) dX4_firstWrongLetter_16 rfl (sn_iload_n (pc := 17) (i := 3) dX4_firstWrongLetter_17 rfl (sn_callV (pc := 18) (N := M_T_letterAt) dX4_firstWrongLetter_18 (cal_T_letterAt G) sh_35 rfl tw_275 tw_277 tp_2 tw_9 tw_278 dsc_X4_letterAt rfl (sn_istore (pc := 21) dX4_firstWrongLetter_21 (Nat.le_of_ble_eq_true rfl) (sn_iload (pc := 23) dX4_firstWrongLetter_23 (sn_iload_n (pc := 25) (i := 2) dX4_firstWrongLetter_25 rfl (sn_callS (pc := 26) (N := M_T_lengthOf) dX4_firstWrongLetter_26 (cal_T_lengthOf G) tw_279 tw_280 tw_9 tw_281 dsc_X4_lengthOf rfl (sn_istore (pc := 29) dX4_firstWrongLetter_29 (Nat.le_of_ble_eq_true rfl) (sn_lf (pc := 31) (ln_a (i := 0) (q := 35) (ln_i (i := 2) (fun z0 => (ln_i (i := 3) (fun z1 => (ln_i (i := 4) (fun z2 => (ln_i (i := 5) (fun z3 => (ln_i (i := 6) (fun z4 => (ln_end (o := fun τ => f_T_firstWrongLetter_31 z0 z1 z2 z3 z4 τ) (fun _ _ _ e h => s_T_firstWrongLetter_31 G z0 z1 z2 z3 z4 _ _ _ e h))))))))))))))))))))))))))) _ _ _ _ _ e hr
theorem s_T_firstWrongLetter_7 (G : am_G) (x2 : Int32) (x3 : Int32) (x4 : Int32) (σ : am_St) (r : Int32 × am_St) (Q : am_AQ) (e : f_T_firstWrongLetter_7 x2 x3 x4 σ = some r) (hr : am_Pi r Q) : am_AW G M_T_firstWrongLetter 7 [(4, .int x4), (3, .int x3), (2, .int x2), (0, .ref 35)] [] σ Q :=
  am_loop (P := am_Pi) (L := fun s : Int32 × Int32 × Int32 × am_St => [(4, .int s.2.2.1), (3, .int s.2.1), (2, .int s.1), (0, .ref 35)]) (g := fun s => s.2.2.2) (fun s o Q e hr => sb_T_firstWrongLetter_7 G s.1 s.2.1 s.2.2.1 s.2.2.2 o Q e hr) (x2, x3, x4, σ) r Q e hr
noncomputable def g_T_firstWrongLetter (x1 : Int32) (σ : am_St) : Option (Int32 × am_St) :=
  f_T_firstWrongLetter_7 x1 0 0 σ
noncomputable def f_T_firstWrongLetter (x1 : Int32) (σ : am_St) : Option (Int32 × am_St) := am_lk (g_T_firstWrongLetter x1 σ)
theorem eq_T_firstWrongLetter (x1 : Int32) (σ : am_St) : f_T_firstWrongLetter x1 σ = g_T_firstWrongLetter x1 σ := am_lk_eq _
set_option maxRecDepth 100000 in
set_option maxHeartbeats 4000000 in
theorem s_T_firstWrongLetter (G : am_G) (x1 : Int32) (σ : am_St) (r : Int32 × am_St) (Q : am_AQ) (e : f_T_firstWrongLetter x1 σ = some r) (hr : am_Pi r Q) : am_AW G M_T_firstWrongLetter 0 [(0, .ref 35), (1, .int x1)] [] σ Q :=
  (show am_Snd G M_T_firstWrongLetter 0 am_Pi _ from (sn_iload_n (pc := 0) (i := 1) dX4_firstWrongLetter_0 rfl (sn_istore_n (pc := 1) (i := 2) dX4_firstWrongLetter_1 rfl (Nat.le_of_ble_eq_true rfl) (sn_iconst (pc := 2) (v := 0) dX4_firstWrongLetter_2 rfl (sn_istore_n (pc := 3) (i := 3) dX4_firstWrongLetter_3 rfl (Nat.le_of_ble_eq_true rfl) (sn_iconst (pc := 4) (v := 0) dX4_firstWrongLetter_4 rfl (sn_istore (pc := 5) dX4_firstWrongLetter_5 (Nat.le_of_ble_eq_true rfl) (sn_lf (pc := 7) (ln_a (i := 0) (q := 35) (ln_i (i := 2) (fun z0 => (ln_i (i := 3) (fun z1 => (ln_i (i := 4) (fun z2 => (ln_end (o := fun τ => f_T_firstWrongLetter_7 z0 z1 z2 τ) (fun _ _ _ e h => s_T_firstWrongLetter_7 G z0 z1 z2 _ _ _ e h))))))))))))))))) _ _ _ _ _ ((eq_T_firstWrongLetter x1 σ).symm.trans e) hr
noncomputable def cF_T_firstWrongLetter : am_Fn := fun _ args σ K => match args with
  | [.ref q0, .int z1] => match Nat.beq q0 35 with
    | true => (f_T_firstWrongLetter z1 σ).bind (fun p => K (some (.int p.1)) p.2)
    | _ => none
  | _ => none
theorem cal_T_firstWrongLetter (G : am_G) : am_Cal G M_T_firstWrongLetter cF_T_firstWrongLetter := by
  intro ρ args σ K r e
  unfold cF_T_firstWrongLetter at e
  split at e
  · split at e
    · rename_i hq0
      obtain ⟨p, h1, h2⟩ := am_bind_some e
      rw [Nat.eq_of_beq_eq_true hq0]
      exact ⟨some (.int p.1), p.2, am_Met.of rfl (Nat.le_of_ble_eq_true rfl) (s_T_firstWrongLetter G _ σ p _ h1 ⟨rfl, rfl⟩), h2⟩
    · cases e
  · cases e
abbrev M_H_copyFrom : am_MD := (yX3_copyFrom, cX3_copyFrom, 2, none, 1, 18)
theorem dX3_copyFrom_0 : decode cX3_copyFrom 0 = .ok (.aload_n 1, 1) := by decide +kernel
theorem dX3_copyFrom_1 : decode cX3_copyFrom 1 = .ok (.ifnonnull 4, 3) := by decide +kernel
theorem dX3_copyFrom_4 : decode cX3_copyFrom 4 = .ok (.return_, 1) := by decide +kernel
theorem dX3_copyFrom_5 : decode cX3_copyFrom 5 = .ok (.aload_n 0, 1) := by decide +kernel
theorem dX3_copyFrom_6 : decode cX3_copyFrom 6 = .ok (.aload_n 1, 1) := by decide +kernel
theorem dX3_copyFrom_7 : decode cX3_copyFrom 7 = .ok (.getfield 9, 3) := by decide +kernel
theorem dX3_copyFrom_10 : decode cX3_copyFrom 10 = .ok (.putfield 9, 3) := by decide +kernel
theorem dX3_copyFrom_13 : decode cX3_copyFrom 13 = .ok (.aload_n 0, 1) := by decide +kernel
theorem dX3_copyFrom_14 : decode cX3_copyFrom 14 = .ok (.aload_n 1, 1) := by decide +kernel
theorem dX3_copyFrom_15 : decode cX3_copyFrom 15 = .ok (.getfield 15, 3) := by decide +kernel
theorem dX3_copyFrom_18 : decode cX3_copyFrom 18 = .ok (.putfield 15, 3) := by decide +kernel
theorem dX3_copyFrom_21 : decode cX3_copyFrom 21 = .ok (.aload_n 0, 1) := by decide +kernel
theorem dX3_copyFrom_22 : decode cX3_copyFrom 22 = .ok (.aload_n 1, 1) := by decide +kernel
theorem dX3_copyFrom_23 : decode cX3_copyFrom 23 = .ok (.getfield 68, 3) := by decide +kernel
theorem dX3_copyFrom_26 : decode cX3_copyFrom 26 = .ok (.putfield 68, 3) := by decide +kernel
theorem dX3_copyFrom_29 : decode cX3_copyFrom 29 = .ok (.aload_n 0, 1) := by decide +kernel
theorem dX3_copyFrom_30 : decode cX3_copyFrom 30 = .ok (.aload_n 1, 1) := by decide +kernel
theorem dX3_copyFrom_31 : decode cX3_copyFrom 31 = .ok (.getfield 71, 3) := by decide +kernel
theorem dX3_copyFrom_34 : decode cX3_copyFrom 34 = .ok (.putfield 71, 3) := by decide +kernel
theorem dX3_copyFrom_37 : decode cX3_copyFrom 37 = .ok (.aload_n 0, 1) := by decide +kernel
theorem dX3_copyFrom_38 : decode cX3_copyFrom 38 = .ok (.aload_n 1, 1) := by decide +kernel
theorem dX3_copyFrom_39 : decode cX3_copyFrom 39 = .ok (.getfield 74, 3) := by decide +kernel
theorem dX3_copyFrom_42 : decode cX3_copyFrom 42 = .ok (.putfield 74, 3) := by decide +kernel
theorem dX3_copyFrom_45 : decode cX3_copyFrom 45 = .ok (.aload_n 0, 1) := by decide +kernel
theorem dX3_copyFrom_46 : decode cX3_copyFrom 46 = .ok (.aload_n 1, 1) := by decide +kernel
theorem dX3_copyFrom_47 : decode cX3_copyFrom 47 = .ok (.getfield 77, 3) := by decide +kernel
theorem dX3_copyFrom_50 : decode cX3_copyFrom 50 = .ok (.putfield 77, 3) := by decide +kernel
theorem dX3_copyFrom_53 : decode cX3_copyFrom 53 = .ok (.aload_n 0, 1) := by decide +kernel
theorem dX3_copyFrom_54 : decode cX3_copyFrom 54 = .ok (.aload_n 1, 1) := by decide +kernel
theorem dX3_copyFrom_55 : decode cX3_copyFrom 55 = .ok (.getfield 80, 3) := by decide +kernel
theorem dX3_copyFrom_58 : decode cX3_copyFrom 58 = .ok (.putfield 80, 3) := by decide +kernel
theorem dX3_copyFrom_61 : decode cX3_copyFrom 61 = .ok (.aload_n 1, 1) := by decide +kernel
theorem dX3_copyFrom_62 : decode cX3_copyFrom 62 = .ok (.getfield 18, 3) := by decide +kernel
theorem dX3_copyFrom_65 : decode cX3_copyFrom 65 = .ok (.iconst 0, 1) := by decide +kernel
theorem dX3_copyFrom_66 : decode cX3_copyFrom 66 = .ok (.aload_n 0, 1) := by decide +kernel
theorem dX3_copyFrom_67 : decode cX3_copyFrom 67 = .ok (.getfield 18, 3) := by decide +kernel
theorem dX3_copyFrom_70 : decode cX3_copyFrom 70 = .ok (.iconst 0, 1) := by decide +kernel
theorem dX3_copyFrom_71 : decode cX3_copyFrom 71 = .ok (.iconst 4, 1) := by decide +kernel
theorem dX3_copyFrom_72 : decode cX3_copyFrom 72 = .ok (.invokestatic 83, 3) := by decide +kernel
theorem dX3_copyFrom_75 : decode cX3_copyFrom 75 = .ok (.aload_n 1, 1) := by decide +kernel
theorem dX3_copyFrom_76 : decode cX3_copyFrom 76 = .ok (.getfield 22, 3) := by decide +kernel
theorem dX3_copyFrom_79 : decode cX3_copyFrom 79 = .ok (.iconst 0, 1) := by decide +kernel
theorem dX3_copyFrom_80 : decode cX3_copyFrom 80 = .ok (.aload_n 0, 1) := by decide +kernel
theorem dX3_copyFrom_81 : decode cX3_copyFrom 81 = .ok (.getfield 22, 3) := by decide +kernel
theorem dX3_copyFrom_84 : decode cX3_copyFrom 84 = .ok (.iconst 0, 1) := by decide +kernel
theorem dX3_copyFrom_85 : decode cX3_copyFrom 85 = .ok (.iconst 4, 1) := by decide +kernel
theorem dX3_copyFrom_86 : decode cX3_copyFrom 86 = .ok (.invokestatic 83, 3) := by decide +kernel
theorem dX3_copyFrom_89 : decode cX3_copyFrom 89 = .ok (.aload_n 1, 1) := by decide +kernel
theorem dX3_copyFrom_90 : decode cX3_copyFrom 90 = .ok (.getfield 25, 3) := by decide +kernel
theorem dX3_copyFrom_93 : decode cX3_copyFrom 93 = .ok (.iconst 0, 1) := by decide +kernel
theorem dX3_copyFrom_94 : decode cX3_copyFrom 94 = .ok (.aload_n 0, 1) := by decide +kernel
theorem dX3_copyFrom_95 : decode cX3_copyFrom 95 = .ok (.getfield 25, 3) := by decide +kernel
theorem dX3_copyFrom_98 : decode cX3_copyFrom 98 = .ok (.iconst 0, 1) := by decide +kernel
theorem dX3_copyFrom_99 : decode cX3_copyFrom 99 = .ok (.iconst 4, 1) := by decide +kernel
theorem dX3_copyFrom_100 : decode cX3_copyFrom 100 = .ok (.invokestatic 83, 3) := by decide +kernel
theorem dX3_copyFrom_103 : decode cX3_copyFrom 103 = .ok (.aload_n 1, 1) := by decide +kernel
theorem dX3_copyFrom_104 : decode cX3_copyFrom 104 = .ok (.getfield 28, 3) := by decide +kernel
theorem dX3_copyFrom_107 : decode cX3_copyFrom 107 = .ok (.iconst 0, 1) := by decide +kernel
theorem dX3_copyFrom_108 : decode cX3_copyFrom 108 = .ok (.aload_n 0, 1) := by decide +kernel
theorem dX3_copyFrom_109 : decode cX3_copyFrom 109 = .ok (.getfield 28, 3) := by decide +kernel
theorem dX3_copyFrom_112 : decode cX3_copyFrom 112 = .ok (.iconst 0, 1) := by decide +kernel
theorem dX3_copyFrom_113 : decode cX3_copyFrom 113 = .ok (.iconst 4, 1) := by decide +kernel
theorem dX3_copyFrom_114 : decode cX3_copyFrom 114 = .ok (.invokestatic 83, 3) := by decide +kernel
theorem dX3_copyFrom_117 : decode cX3_copyFrom 117 = .ok (.aload_n 1, 1) := by decide +kernel
theorem dX3_copyFrom_118 : decode cX3_copyFrom 118 = .ok (.getfield 31, 3) := by decide +kernel
theorem dX3_copyFrom_121 : decode cX3_copyFrom 121 = .ok (.iconst 0, 1) := by decide +kernel
theorem dX3_copyFrom_122 : decode cX3_copyFrom 122 = .ok (.aload_n 0, 1) := by decide +kernel
theorem dX3_copyFrom_123 : decode cX3_copyFrom 123 = .ok (.getfield 31, 3) := by decide +kernel
theorem dX3_copyFrom_126 : decode cX3_copyFrom 126 = .ok (.iconst 0, 1) := by decide +kernel
theorem dX3_copyFrom_127 : decode cX3_copyFrom 127 = .ok (.iconst 4, 1) := by decide +kernel
theorem dX3_copyFrom_128 : decode cX3_copyFrom 128 = .ok (.invokestatic 83, 3) := by decide +kernel
theorem dX3_copyFrom_131 : decode cX3_copyFrom 131 = .ok (.aload_n 1, 1) := by decide +kernel
theorem dX3_copyFrom_132 : decode cX3_copyFrom 132 = .ok (.getfield 34, 3) := by decide +kernel
theorem dX3_copyFrom_135 : decode cX3_copyFrom 135 = .ok (.iconst 0, 1) := by decide +kernel
theorem dX3_copyFrom_136 : decode cX3_copyFrom 136 = .ok (.aload_n 0, 1) := by decide +kernel
theorem dX3_copyFrom_137 : decode cX3_copyFrom 137 = .ok (.getfield 34, 3) := by decide +kernel
theorem dX3_copyFrom_140 : decode cX3_copyFrom 140 = .ok (.iconst 0, 1) := by decide +kernel
theorem dX3_copyFrom_141 : decode cX3_copyFrom 141 = .ok (.bipush 24, 2) := by decide +kernel
theorem dX3_copyFrom_143 : decode cX3_copyFrom 143 = .ok (.invokestatic 83, 3) := by decide +kernel
theorem dX3_copyFrom_146 : decode cX3_copyFrom 146 = .ok (.aload_n 1, 1) := by decide +kernel
theorem dX3_copyFrom_147 : decode cX3_copyFrom 147 = .ok (.getfield 37, 3) := by decide +kernel
theorem dX3_copyFrom_150 : decode cX3_copyFrom 150 = .ok (.iconst 0, 1) := by decide +kernel
theorem dX3_copyFrom_151 : decode cX3_copyFrom 151 = .ok (.aload_n 0, 1) := by decide +kernel
theorem dX3_copyFrom_152 : decode cX3_copyFrom 152 = .ok (.getfield 37, 3) := by decide +kernel
theorem dX3_copyFrom_155 : decode cX3_copyFrom 155 = .ok (.iconst 0, 1) := by decide +kernel
theorem dX3_copyFrom_156 : decode cX3_copyFrom 156 = .ok (.iconst 3, 1) := by decide +kernel
theorem dX3_copyFrom_157 : decode cX3_copyFrom 157 = .ok (.invokestatic 83, 3) := by decide +kernel
theorem dX3_copyFrom_160 : decode cX3_copyFrom 160 = .ok (.aload_n 1, 1) := by decide +kernel
theorem dX3_copyFrom_161 : decode cX3_copyFrom 161 = .ok (.getfield 40, 3) := by decide +kernel
theorem dX3_copyFrom_164 : decode cX3_copyFrom 164 = .ok (.iconst 0, 1) := by decide +kernel
theorem dX3_copyFrom_165 : decode cX3_copyFrom 165 = .ok (.aload_n 0, 1) := by decide +kernel
theorem dX3_copyFrom_166 : decode cX3_copyFrom 166 = .ok (.getfield 40, 3) := by decide +kernel
theorem dX3_copyFrom_169 : decode cX3_copyFrom 169 = .ok (.iconst 0, 1) := by decide +kernel
theorem dX3_copyFrom_170 : decode cX3_copyFrom 170 = .ok (.bipush 16, 2) := by decide +kernel
theorem dX3_copyFrom_172 : decode cX3_copyFrom 172 = .ok (.invokestatic 83, 3) := by decide +kernel
theorem dX3_copyFrom_175 : decode cX3_copyFrom 175 = .ok (.aload_n 1, 1) := by decide +kernel
theorem dX3_copyFrom_176 : decode cX3_copyFrom 176 = .ok (.getfield 43, 3) := by decide +kernel
theorem dX3_copyFrom_179 : decode cX3_copyFrom 179 = .ok (.iconst 0, 1) := by decide +kernel
theorem dX3_copyFrom_180 : decode cX3_copyFrom 180 = .ok (.aload_n 0, 1) := by decide +kernel
theorem dX3_copyFrom_181 : decode cX3_copyFrom 181 = .ok (.getfield 43, 3) := by decide +kernel
theorem dX3_copyFrom_184 : decode cX3_copyFrom 184 = .ok (.iconst 0, 1) := by decide +kernel
theorem dX3_copyFrom_185 : decode cX3_copyFrom 185 = .ok (.bipush 8, 2) := by decide +kernel
theorem dX3_copyFrom_187 : decode cX3_copyFrom 187 = .ok (.invokestatic 83, 3) := by decide +kernel
theorem dX3_copyFrom_190 : decode cX3_copyFrom 190 = .ok (.return_, 1) := by decide +kernel
noncomputable def g_H_copyFrom_37_1_175 (σ : am_St) : Option (am_St) :=
  let s1 := am_rI σ 46 (va_cpy (σ.1 10) (σ.1 46) 0 0 8)
  some (s1)
noncomputable def f_H_copyFrom_37_1_175 (σ : am_St) : Option (am_St) := am_lk (g_H_copyFrom_37_1_175  σ)
theorem eq_H_copyFrom_37_1_175 (σ : am_St) : f_H_copyFrom_37_1_175  σ = g_H_copyFrom_37_1_175  σ := am_lk_eq _
set_option maxRecDepth 100000 in
set_option maxHeartbeats 4000000 in
theorem s_H_copyFrom_37_1_175 (G : am_G) (σ : am_St) (r : am_St) (Q : am_AQ) (e : f_H_copyFrom_37_1_175  σ = some r) (hr : am_Pv r Q) : am_AW G M_H_copyFrom 175 [(1, .ref 1), (0, .ref 37)] [] σ Q :=
  (show am_Snd G M_H_copyFrom 175 am_Pv _ from (sn_aload_n (pc := 175) (i := 1) dX3_copyFrom_175 rfl (sn_gR (r0 := 10) (pc := 176) (h := 1) (f := 15) dX3_copyFrom_176 am_CL_3 sh_1 rfl (Nat.le_of_ble_eq_true rfl) tw_115 (sn_iconst (pc := 179) (v := 0) dX3_copyFrom_179 rfl (sn_aload_n (pc := 180) (i := 0) dX3_copyFrom_180 rfl (sn_gR (r0 := 46) (pc := 181) (h := 37) (f := 15) dX3_copyFrom_181 am_CL_3 sh_37 rfl (Nat.le_of_ble_eq_true rfl) tw_115 (sn_iconst (pc := 184) (v := 0) dX3_copyFrom_184 rfl (sn_bipush (pc := 185) (v := 8) dX3_copyFrom_185 rfl (sn_cpy (pc := 187) (src := 10) (dst := 46) (n := 8) (v := 8) dX3_copyFrom_187 sh_10 sh_46 tw_300 tw_302 tw_301 tw_13 (by decide) (by decide) (sn_retv (pc := 190) (R := fun τ => (some (τ))) dX3_copyFrom_190 rfl (fun _ _ _ e h => by cases e; exact h))))))))))) _ _ _ _ _ ((eq_H_copyFrom_37_1_175  σ).symm.trans e) hr
noncomputable def g_H_copyFrom_37_1_146 (σ : am_St) : Option (am_St) :=
  let s1 := am_rI σ 44 (va_cpy (σ.1 8) (σ.1 44) 0 0 3)
  let s2 := am_rI s1 45 (va_cpy (s1.1 9) (s1.1 45) 0 0 16)
  f_H_copyFrom_37_1_175 s2
noncomputable def f_H_copyFrom_37_1_146 (σ : am_St) : Option (am_St) := am_lk (g_H_copyFrom_37_1_146  σ)
theorem eq_H_copyFrom_37_1_146 (σ : am_St) : f_H_copyFrom_37_1_146  σ = g_H_copyFrom_37_1_146  σ := am_lk_eq _
set_option maxRecDepth 100000 in
set_option maxHeartbeats 4000000 in
theorem s_H_copyFrom_37_1_146 (G : am_G) (σ : am_St) (r : am_St) (Q : am_AQ) (e : f_H_copyFrom_37_1_146  σ = some r) (hr : am_Pv r Q) : am_AW G M_H_copyFrom 146 [(1, .ref 1), (0, .ref 37)] [] σ Q :=
  (show am_Snd G M_H_copyFrom 146 am_Pv _ from (sn_aload_n (pc := 146) (i := 1) dX3_copyFrom_146 rfl (sn_gR (r0 := 8) (pc := 147) (h := 1) (f := 13) dX3_copyFrom_147 am_CL_3 sh_1 rfl (Nat.le_of_ble_eq_true rfl) tw_113 (sn_iconst (pc := 150) (v := 0) dX3_copyFrom_150 rfl (sn_aload_n (pc := 151) (i := 0) dX3_copyFrom_151 rfl (sn_gR (r0 := 44) (pc := 152) (h := 37) (f := 13) dX3_copyFrom_152 am_CL_3 sh_37 rfl (Nat.le_of_ble_eq_true rfl) tw_113 (sn_iconst (pc := 155) (v := 0) dX3_copyFrom_155 rfl (sn_iconst (pc := 156) (v := 3) dX3_copyFrom_156 rfl (sn_cpy (pc := 157) (src := 8) (dst := 44) (n := 3) (v := 3) dX3_copyFrom_157 sh_8 sh_44 tw_300 tw_302 tw_301 tw_13 (by decide) (by decide) (sn_aload_n (pc := 160) (i := 1) dX3_copyFrom_160 rfl (sn_gR (r0 := 9) (pc := 161) (h := 1) (f := 14) dX3_copyFrom_161 am_CL_3 sh_1 rfl (Nat.le_of_ble_eq_true rfl) tw_114 (sn_iconst (pc := 164) (v := 0) dX3_copyFrom_164 rfl (sn_aload_n (pc := 165) (i := 0) dX3_copyFrom_165 rfl (sn_gR (r0 := 45) (pc := 166) (h := 37) (f := 14) dX3_copyFrom_166 am_CL_3 sh_37 rfl (Nat.le_of_ble_eq_true rfl) tw_114 (sn_iconst (pc := 169) (v := 0) dX3_copyFrom_169 rfl (sn_bipush (pc := 170) (v := 16) dX3_copyFrom_170 rfl (sn_cpy (pc := 172) (src := 9) (dst := 45) (n := 16) (v := 16) dX3_copyFrom_172 sh_9 sh_45 tw_300 tw_302 tw_301 tw_13 (by decide) (by decide) (sn_lf (pc := 175) (ln_a (i := 0) (q := 37) (ln_a (i := 1) (q := 1) (ln_end (o := fun τ => f_H_copyFrom_37_1_175 τ) (fun _ _ _ e h => s_H_copyFrom_37_1_175 G  _ _ _ e h)))))))))))))))))))))) _ _ _ _ _ ((eq_H_copyFrom_37_1_146  σ).symm.trans e) hr
noncomputable def g_H_copyFrom_37_1_117 (σ : am_St) : Option (am_St) :=
  let s1 := am_rI σ 42 (va_cpy (σ.1 6) (σ.1 42) 0 0 4)
  let s2 := am_rI s1 43 (va_cpy (s1.1 7) (s1.1 43) 0 0 24)
  f_H_copyFrom_37_1_146 s2
noncomputable def f_H_copyFrom_37_1_117 (σ : am_St) : Option (am_St) := am_lk (g_H_copyFrom_37_1_117  σ)
theorem eq_H_copyFrom_37_1_117 (σ : am_St) : f_H_copyFrom_37_1_117  σ = g_H_copyFrom_37_1_117  σ := am_lk_eq _
set_option maxRecDepth 100000 in
set_option maxHeartbeats 4000000 in
theorem s_H_copyFrom_37_1_117 (G : am_G) (σ : am_St) (r : am_St) (Q : am_AQ) (e : f_H_copyFrom_37_1_117  σ = some r) (hr : am_Pv r Q) : am_AW G M_H_copyFrom 117 [(1, .ref 1), (0, .ref 37)] [] σ Q :=
  (show am_Snd G M_H_copyFrom 117 am_Pv _ from (sn_aload_n (pc := 117) (i := 1) dX3_copyFrom_117 rfl (sn_gR (r0 := 6) (pc := 118) (h := 1) (f := 11) dX3_copyFrom_118 am_CL_3 sh_1 rfl (Nat.le_of_ble_eq_true rfl) tw_111 (sn_iconst (pc := 121) (v := 0) dX3_copyFrom_121 rfl (sn_aload_n (pc := 122) (i := 0) dX3_copyFrom_122 rfl (sn_gR (r0 := 42) (pc := 123) (h := 37) (f := 11) dX3_copyFrom_123 am_CL_3 sh_37 rfl (Nat.le_of_ble_eq_true rfl) tw_111 (sn_iconst (pc := 126) (v := 0) dX3_copyFrom_126 rfl (sn_iconst (pc := 127) (v := 4) dX3_copyFrom_127 rfl (sn_cpy (pc := 128) (src := 6) (dst := 42) (n := 4) (v := 4) dX3_copyFrom_128 sh_6 sh_42 tw_300 tw_302 tw_301 tw_13 (by decide) (by decide) (sn_aload_n (pc := 131) (i := 1) dX3_copyFrom_131 rfl (sn_gR (r0 := 7) (pc := 132) (h := 1) (f := 12) dX3_copyFrom_132 am_CL_3 sh_1 rfl (Nat.le_of_ble_eq_true rfl) tw_112 (sn_iconst (pc := 135) (v := 0) dX3_copyFrom_135 rfl (sn_aload_n (pc := 136) (i := 0) dX3_copyFrom_136 rfl (sn_gR (r0 := 43) (pc := 137) (h := 37) (f := 12) dX3_copyFrom_137 am_CL_3 sh_37 rfl (Nat.le_of_ble_eq_true rfl) tw_112 (sn_iconst (pc := 140) (v := 0) dX3_copyFrom_140 rfl (sn_bipush (pc := 141) (v := 24) dX3_copyFrom_141 rfl (sn_cpy (pc := 143) (src := 7) (dst := 43) (n := 24) (v := 24) dX3_copyFrom_143 sh_7 sh_43 tw_300 tw_302 tw_301 tw_13 (by decide) (by decide) (sn_lf (pc := 146) (ln_a (i := 0) (q := 37) (ln_a (i := 1) (q := 1) (ln_end (o := fun τ => f_H_copyFrom_37_1_146 τ) (fun _ _ _ e h => s_H_copyFrom_37_1_146 G  _ _ _ e h)))))))))))))))))))))) _ _ _ _ _ ((eq_H_copyFrom_37_1_117  σ).symm.trans e) hr
noncomputable def g_H_copyFrom_37_1_89 (σ : am_St) : Option (am_St) :=
  let s1 := am_rI σ 40 (va_cpy (σ.1 4) (σ.1 40) 0 0 4)
  let s2 := am_rI s1 41 (va_cpy (s1.1 5) (s1.1 41) 0 0 4)
  f_H_copyFrom_37_1_117 s2
noncomputable def f_H_copyFrom_37_1_89 (σ : am_St) : Option (am_St) := am_lk (g_H_copyFrom_37_1_89  σ)
theorem eq_H_copyFrom_37_1_89 (σ : am_St) : f_H_copyFrom_37_1_89  σ = g_H_copyFrom_37_1_89  σ := am_lk_eq _
set_option maxRecDepth 100000 in
set_option maxHeartbeats 4000000 in
theorem s_H_copyFrom_37_1_89 (G : am_G) (σ : am_St) (r : am_St) (Q : am_AQ) (e : f_H_copyFrom_37_1_89  σ = some r) (hr : am_Pv r Q) : am_AW G M_H_copyFrom 89 [(1, .ref 1), (0, .ref 37)] [] σ Q :=
  (show am_Snd G M_H_copyFrom 89 am_Pv _ from (sn_aload_n (pc := 89) (i := 1) dX3_copyFrom_89 rfl (sn_gR (r0 := 4) (pc := 90) (h := 1) (f := 9) dX3_copyFrom_90 am_CL_3 sh_1 rfl (Nat.le_of_ble_eq_true rfl) tw_109 (sn_iconst (pc := 93) (v := 0) dX3_copyFrom_93 rfl (sn_aload_n (pc := 94) (i := 0) dX3_copyFrom_94 rfl (sn_gR (r0 := 40) (pc := 95) (h := 37) (f := 9) dX3_copyFrom_95 am_CL_3 sh_37 rfl (Nat.le_of_ble_eq_true rfl) tw_109 (sn_iconst (pc := 98) (v := 0) dX3_copyFrom_98 rfl (sn_iconst (pc := 99) (v := 4) dX3_copyFrom_99 rfl (sn_cpy (pc := 100) (src := 4) (dst := 40) (n := 4) (v := 4) dX3_copyFrom_100 sh_4 sh_40 tw_300 tw_302 tw_301 tw_13 (by decide) (by decide) (sn_aload_n (pc := 103) (i := 1) dX3_copyFrom_103 rfl (sn_gR (r0 := 5) (pc := 104) (h := 1) (f := 10) dX3_copyFrom_104 am_CL_3 sh_1 rfl (Nat.le_of_ble_eq_true rfl) tw_110 (sn_iconst (pc := 107) (v := 0) dX3_copyFrom_107 rfl (sn_aload_n (pc := 108) (i := 0) dX3_copyFrom_108 rfl (sn_gR (r0 := 41) (pc := 109) (h := 37) (f := 10) dX3_copyFrom_109 am_CL_3 sh_37 rfl (Nat.le_of_ble_eq_true rfl) tw_110 (sn_iconst (pc := 112) (v := 0) dX3_copyFrom_112 rfl (sn_iconst (pc := 113) (v := 4) dX3_copyFrom_113 rfl (sn_cpy (pc := 114) (src := 5) (dst := 41) (n := 4) (v := 4) dX3_copyFrom_114 sh_5 sh_41 tw_300 tw_302 tw_301 tw_13 (by decide) (by decide) (sn_lf (pc := 117) (ln_a (i := 0) (q := 37) (ln_a (i := 1) (q := 1) (ln_end (o := fun τ => f_H_copyFrom_37_1_117 τ) (fun _ _ _ e h => s_H_copyFrom_37_1_117 G  _ _ _ e h)))))))))))))))))))))) _ _ _ _ _ ((eq_H_copyFrom_37_1_89  σ).symm.trans e) hr
noncomputable def g_H_copyFrom_37_1_45 (σ : am_St) : Option (am_St) :=
  let s1 := am_sI σ 37 5 (σ.1 1 5)
  let s2 := am_sI s1 37 6 (s1.1 1 6)
  let s3 := am_rI s2 38 (va_cpy (s2.1 2) (s2.1 38) 0 0 4)
  let s4 := am_rI s3 39 (va_cpy (s3.1 3) (s3.1 39) 0 0 4)
  f_H_copyFrom_37_1_89 s4
noncomputable def f_H_copyFrom_37_1_45 (σ : am_St) : Option (am_St) := am_lk (g_H_copyFrom_37_1_45  σ)
theorem eq_H_copyFrom_37_1_45 (σ : am_St) : f_H_copyFrom_37_1_45  σ = g_H_copyFrom_37_1_45  σ := am_lk_eq _
set_option maxRecDepth 100000 in
set_option maxHeartbeats 4000000 in
theorem s_H_copyFrom_37_1_45 (G : am_G) (σ : am_St) (r : am_St) (Q : am_AQ) (e : f_H_copyFrom_37_1_45  σ = some r) (hr : am_Pv r Q) : am_AW G M_H_copyFrom 45 [(1, .ref 1), (0, .ref 37)] [] σ Q :=
  (show am_Snd G M_H_copyFrom 45 am_Pv _ from (sn_aload_n (pc := 45) (i := 0) dX3_copyFrom_45 rfl (sn_aload_n (pc := 46) (i := 1) dX3_copyFrom_46 rfl (sn_gI (pc := 47) (h := 1) (f := 5) dX3_copyFrom_47 am_CL_3 sh_1 rfl (Nat.le_of_ble_eq_true rfl) tw_100 (sn_pI (pc := 50) (h := 37) (f := 5) dX3_copyFrom_50 am_CL_3 sh_37 rfl (Nat.le_of_ble_eq_true rfl) tw_100 rfl rfl (sn_aload_n (pc := 53) (i := 0) dX3_copyFrom_53 rfl (sn_aload_n (pc := 54) (i := 1) dX3_copyFrom_54 rfl (sn_gI (pc := 55) (h := 1) (f := 6) dX3_copyFrom_55 am_CL_3 sh_1 rfl (Nat.le_of_ble_eq_true rfl) tw_103 (sn_pI (pc := 58) (h := 37) (f := 6) dX3_copyFrom_58 am_CL_3 sh_37 rfl (Nat.le_of_ble_eq_true rfl) tw_103 rfl rfl (sn_aload_n (pc := 61) (i := 1) dX3_copyFrom_61 rfl (sn_gR (r0 := 2) (pc := 62) (h := 1) (f := 7) dX3_copyFrom_62 am_CL_3 sh_1 rfl (Nat.le_of_ble_eq_true rfl) tw_107 (sn_iconst (pc := 65) (v := 0) dX3_copyFrom_65 rfl (sn_aload_n (pc := 66) (i := 0) dX3_copyFrom_66 rfl (sn_gR (r0 := 38) (pc := 67) (h := 37) (f := 7) dX3_copyFrom_67 am_CL_3 sh_37 rfl (Nat.le_of_ble_eq_true rfl) tw_107 (sn_iconst (pc := 70) (v := 0) dX3_copyFrom_70 rfl (sn_iconst (pc := 71) (v := 4) dX3_copyFrom_71 rfl (sn_cpy (pc := 72) (src := 2) (dst := 38) (n := 4) (v := 4) dX3_copyFrom_72 sh_2 sh_38 tw_300 tw_302 tw_301 tw_13 (by decide) (by decide) (sn_aload_n (pc := 75) (i := 1) dX3_copyFrom_75 rfl (sn_gR (r0 := 3) (pc := 76) (h := 1) (f := 8) dX3_copyFrom_76 am_CL_3 sh_1 rfl (Nat.le_of_ble_eq_true rfl) tw_108 (sn_iconst (pc := 79) (v := 0) dX3_copyFrom_79 rfl (sn_aload_n (pc := 80) (i := 0) dX3_copyFrom_80 rfl (sn_gR (r0 := 39) (pc := 81) (h := 37) (f := 8) dX3_copyFrom_81 am_CL_3 sh_37 rfl (Nat.le_of_ble_eq_true rfl) tw_108 (sn_iconst (pc := 84) (v := 0) dX3_copyFrom_84 rfl (sn_iconst (pc := 85) (v := 4) dX3_copyFrom_85 rfl (sn_cpy (pc := 86) (src := 3) (dst := 39) (n := 4) (v := 4) dX3_copyFrom_86 sh_3 sh_39 tw_300 tw_302 tw_301 tw_13 (by decide) (by decide) (sn_lf (pc := 89) (ln_a (i := 0) (q := 37) (ln_a (i := 1) (q := 1) (ln_end (o := fun τ => f_H_copyFrom_37_1_89 τ) (fun _ _ _ e h => s_H_copyFrom_37_1_89 G  _ _ _ e h)))))))))))))))))))))))))))))) _ _ _ _ _ ((eq_H_copyFrom_37_1_45  σ).symm.trans e) hr
noncomputable def g_H_copyFrom_37_1 (σ : am_St) : Option (am_St) :=
  let s1 := am_sI σ 37 0 (σ.1 1 0)
  let s2 := am_sI s1 37 1 (s1.1 1 1)
  let s3 := am_sI s2 37 2 (s2.1 1 2)
  let s4 := am_sI s3 37 3 (s3.1 1 3)
  let s5 := am_sI s4 37 4 (s4.1 1 4)
  f_H_copyFrom_37_1_45 s5
noncomputable def f_H_copyFrom_37_1 (σ : am_St) : Option (am_St) := am_lk (g_H_copyFrom_37_1  σ)
theorem eq_H_copyFrom_37_1 (σ : am_St) : f_H_copyFrom_37_1  σ = g_H_copyFrom_37_1  σ := am_lk_eq _
set_option maxRecDepth 100000 in
set_option maxHeartbeats 4000000 in
theorem s_H_copyFrom_37_1 (G : am_G) (σ : am_St) (r : am_St) (Q : am_AQ) (e : f_H_copyFrom_37_1  σ = some r) (hr : am_Pv r Q) : am_AW G M_H_copyFrom 0 [(0, .ref 37), (1, .ref 1)] [] σ Q :=
  (show am_Snd G M_H_copyFrom 0 am_Pv _ from (sn_aload_n (pc := 0) (i := 1) dX3_copyFrom_0 rfl (sn_ifnn (pc := 1) (tgt := 5) dX3_copyFrom_1 rfl (sn_aload_n (pc := 5) (i := 0) dX3_copyFrom_5 rfl (sn_aload_n (pc := 6) (i := 1) dX3_copyFrom_6 rfl (sn_gI (pc := 7) (h := 1) (f := 0) dX3_copyFrom_7 am_CL_3 sh_1 rfl (Nat.le_of_ble_eq_true rfl) tw_75 (sn_pI (pc := 10) (h := 37) (f := 0) dX3_copyFrom_10 am_CL_3 sh_37 rfl (Nat.le_of_ble_eq_true rfl) tw_75 rfl rfl (sn_aload_n (pc := 13) (i := 0) dX3_copyFrom_13 rfl (sn_aload_n (pc := 14) (i := 1) dX3_copyFrom_14 rfl (sn_gI (pc := 15) (h := 1) (f := 1) dX3_copyFrom_15 am_CL_3 sh_1 rfl (Nat.le_of_ble_eq_true rfl) tw_78 (sn_pI (pc := 18) (h := 37) (f := 1) dX3_copyFrom_18 am_CL_3 sh_37 rfl (Nat.le_of_ble_eq_true rfl) tw_78 rfl rfl (sn_aload_n (pc := 21) (i := 0) dX3_copyFrom_21 rfl (sn_aload_n (pc := 22) (i := 1) dX3_copyFrom_22 rfl (sn_gI (pc := 23) (h := 1) (f := 2) dX3_copyFrom_23 am_CL_3 sh_1 rfl (Nat.le_of_ble_eq_true rfl) tw_83 (sn_pI (pc := 26) (h := 37) (f := 2) dX3_copyFrom_26 am_CL_3 sh_37 rfl (Nat.le_of_ble_eq_true rfl) tw_83 rfl rfl (sn_aload_n (pc := 29) (i := 0) dX3_copyFrom_29 rfl (sn_aload_n (pc := 30) (i := 1) dX3_copyFrom_30 rfl (sn_gI (pc := 31) (h := 1) (f := 3) dX3_copyFrom_31 am_CL_3 sh_1 rfl (Nat.le_of_ble_eq_true rfl) tw_88 (sn_pI (pc := 34) (h := 37) (f := 3) dX3_copyFrom_34 am_CL_3 sh_37 rfl (Nat.le_of_ble_eq_true rfl) tw_88 rfl rfl (sn_aload_n (pc := 37) (i := 0) dX3_copyFrom_37 rfl (sn_aload_n (pc := 38) (i := 1) dX3_copyFrom_38 rfl (sn_gI (pc := 39) (h := 1) (f := 4) dX3_copyFrom_39 am_CL_3 sh_1 rfl (Nat.le_of_ble_eq_true rfl) tw_94 (sn_pI (pc := 42) (h := 37) (f := 4) dX3_copyFrom_42 am_CL_3 sh_37 rfl (Nat.le_of_ble_eq_true rfl) tw_94 rfl rfl (sn_lf (pc := 45) (ln_a (i := 0) (q := 37) (ln_a (i := 1) (q := 1) (ln_end (o := fun τ => f_H_copyFrom_37_1_45 τ) (fun _ _ _ e h => s_H_copyFrom_37_1_45 G  _ _ _ e h)))))))))))))))))))))))))))) _ _ _ _ _ ((eq_H_copyFrom_37_1  σ).symm.trans e) hr
noncomputable def cF_H_copyFrom_37_1 : am_Fn := fun _ args σ K => match args with
  | [.ref q0, .ref q1] => match Nat.beq q0 37, Nat.beq q1 1 with
    | true, true => (f_H_copyFrom_37_1 σ).bind (fun p => K none p)
    | _, _ => none
  | _ => none
theorem cal_H_copyFrom_37_1 (G : am_G) : am_Cal G M_H_copyFrom cF_H_copyFrom_37_1 := by
  intro ρ args σ K r e
  unfold cF_H_copyFrom_37_1 at e
  split at e
  · split at e
    · rename_i hq0 hq1
      obtain ⟨p, h1, h2⟩ := am_bind_some e
      rw [Nat.eq_of_beq_eq_true hq0]
      rw [Nat.eq_of_beq_eq_true hq1]
      exact ⟨none, p, am_Met.of rfl (Nat.le_of_ble_eq_true rfl) (s_H_copyFrom_37_1 G  σ p _ h1 ⟨rfl, rfl⟩), h2⟩
    · cases e
  · cases e
abbrev M_H_hasRoom : am_MD := (yX3_hasRoom, cX3_hasRoom, 2, (some .boolean), 0, 0)
theorem dX3_hasRoom_0 : decode cX3_hasRoom 0 = .ok (.iload_n 1, 1) := by decide +kernel
theorem dX3_hasRoom_1 : decode cX3_hasRoom 1 = .ok (.ifCond .lt 15, 3) := by decide +kernel
theorem dX3_hasRoom_4 : decode cX3_hasRoom 4 = .ok (.iload_n 1, 1) := by decide +kernel
theorem dX3_hasRoom_5 : decode cX3_hasRoom 5 = .ok (.aload_n 0, 1) := by decide +kernel
theorem dX3_hasRoom_6 : decode cX3_hasRoom 6 = .ok (.getfield 9, 3) := by decide +kernel
theorem dX3_hasRoom_9 : decode cX3_hasRoom 9 = .ok (.if_icmp .ge 7, 3) := by decide +kernel
theorem dX3_hasRoom_12 : decode cX3_hasRoom 12 = .ok (.iconst 1, 1) := by decide +kernel
theorem dX3_hasRoom_13 : decode cX3_hasRoom 13 = .ok (.goto 4, 3) := by decide +kernel
theorem dX3_hasRoom_16 : decode cX3_hasRoom 16 = .ok (.iconst 0, 1) := by decide +kernel
theorem dX3_hasRoom_17 : decode cX3_hasRoom 17 = .ok (.ireturn, 1) := by decide +kernel
noncomputable def g_H_hasRoom_37 (x1 : Int32) (σ : am_St) : Option (Int32 × am_St) :=
  if x1 < 0 then
    some ((0, σ))
  else
    if (σ.1 37 0) ≤ x1 then
      some ((0, σ))
    else
      some ((1, σ))
noncomputable def f_H_hasRoom_37 (x1 : Int32) (σ : am_St) : Option (Int32 × am_St) := am_lk (g_H_hasRoom_37 x1 σ)
theorem eq_H_hasRoom_37 (x1 : Int32) (σ : am_St) : f_H_hasRoom_37 x1 σ = g_H_hasRoom_37 x1 σ := am_lk_eq _
set_option maxRecDepth 100000 in
set_option maxHeartbeats 4000000 in
theorem s_H_hasRoom_37 (G : am_G) (x1 : Int32) (σ : am_St) (r : Int32 × am_St) (Q : am_AQ) (e : f_H_hasRoom_37 x1 σ = some r) (hr : am_Pi r Q) : am_AW G M_H_hasRoom 0 [(0, .ref 37), (1, .int x1)] [] σ Q :=
  (show am_Snd G M_H_hasRoom 0 am_Pi _ from (sn_iload_n (pc := 0) (i := 1) dX3_hasRoom_0 rfl (sn_if_lt (pc := 1) (tgt := 16) dX3_hasRoom_1 rfl (sn_iconst (pc := 16) (v := 0) dX3_hasRoom_16 rfl (sn_retz (pc := 17) (R := fun x τ => (some ((x, τ)))) dX3_hasRoom_17 rfl (fun _ _ _ _ e h => by cases e; exact h))) (sn_iload_n (pc := 4) (i := 1) dX3_hasRoom_4 rfl (sn_aload_n (pc := 5) (i := 0) dX3_hasRoom_5 rfl (sn_gI (pc := 6) (h := 37) (f := 0) dX3_hasRoom_6 am_CL_3 sh_37 rfl (Nat.le_of_ble_eq_true rfl) tw_75 (sn_icmp_ge (pc := 9) (tgt := 16) dX3_hasRoom_9 rfl (sn_iconst (pc := 16) (v := 0) dX3_hasRoom_16 rfl (sn_retz (pc := 17) (R := fun x τ => (some ((x, τ)))) dX3_hasRoom_17 rfl (fun _ _ _ _ e h => by cases e; exact h))) (sn_iconst (pc := 12) (v := 1) dX3_hasRoom_12 rfl (sn_goto (pc := 13) (tgt := 17) dX3_hasRoom_13 rfl (sn_retz (pc := 17) (R := fun x τ => (some ((x, τ)))) dX3_hasRoom_17 rfl (fun _ _ _ _ e h => by cases e; exact h))))))))))) _ _ _ _ _ ((eq_H_hasRoom_37 x1 σ).symm.trans e) hr
noncomputable def cF_H_hasRoom_37 : am_Fn := fun _ args σ K => match args with
  | [.ref q0, .int z1] => match Nat.beq q0 37 with
    | true => (f_H_hasRoom_37 z1 σ).bind (fun p => K (some (.int p.1)) p.2)
    | _ => none
  | _ => none
theorem cal_H_hasRoom_37 (G : am_G) : am_Cal G M_H_hasRoom cF_H_hasRoom_37 := by
  intro ρ args σ K r e
  unfold cF_H_hasRoom_37 at e
  split at e
  · split at e
    · rename_i hq0
      obtain ⟨p, h1, h2⟩ := am_bind_some e
      rw [Nat.eq_of_beq_eq_true hq0]
      exact ⟨some (.int p.1), p.2, am_Met.of rfl (Nat.le_of_ble_eq_true rfl) (s_H_hasRoom_37 G _ σ p _ h1 ⟨rfl, rfl⟩), h2⟩
    · cases e
  · cases e
abbrev M_H_hasMinute : am_MD := (yX3_hasMinute, cX3_hasMinute, 2, (some .boolean), 0, 0)
theorem dX3_hasMinute_0 : decode cX3_hasMinute 0 = .ok (.iload_n 1, 1) := by decide +kernel
theorem dX3_hasMinute_1 : decode cX3_hasMinute 1 = .ok (.ifCond .lt 15, 3) := by decide +kernel
theorem dX3_hasMinute_4 : decode cX3_hasMinute 4 = .ok (.iload_n 1, 1) := by decide +kernel
theorem dX3_hasMinute_5 : decode cX3_hasMinute 5 = .ok (.aload_n 0, 1) := by decide +kernel
theorem dX3_hasMinute_6 : decode cX3_hasMinute 6 = .ok (.getfield 15, 3) := by decide +kernel
theorem dX3_hasMinute_9 : decode cX3_hasMinute 9 = .ok (.if_icmp .ge 7, 3) := by decide +kernel
theorem dX3_hasMinute_12 : decode cX3_hasMinute 12 = .ok (.iconst 1, 1) := by decide +kernel
theorem dX3_hasMinute_13 : decode cX3_hasMinute 13 = .ok (.goto 4, 3) := by decide +kernel
theorem dX3_hasMinute_16 : decode cX3_hasMinute 16 = .ok (.iconst 0, 1) := by decide +kernel
theorem dX3_hasMinute_17 : decode cX3_hasMinute 17 = .ok (.ireturn, 1) := by decide +kernel
noncomputable def g_H_hasMinute_37 (x1 : Int32) (σ : am_St) : Option (Int32 × am_St) :=
  if x1 < 0 then
    some ((0, σ))
  else
    if (σ.1 37 1) ≤ x1 then
      some ((0, σ))
    else
      some ((1, σ))
noncomputable def f_H_hasMinute_37 (x1 : Int32) (σ : am_St) : Option (Int32 × am_St) := am_lk (g_H_hasMinute_37 x1 σ)
theorem eq_H_hasMinute_37 (x1 : Int32) (σ : am_St) : f_H_hasMinute_37 x1 σ = g_H_hasMinute_37 x1 σ := am_lk_eq _
set_option maxRecDepth 100000 in
set_option maxHeartbeats 4000000 in
theorem s_H_hasMinute_37 (G : am_G) (x1 : Int32) (σ : am_St) (r : Int32 × am_St) (Q : am_AQ) (e : f_H_hasMinute_37 x1 σ = some r) (hr : am_Pi r Q) : am_AW G M_H_hasMinute 0 [(0, .ref 37), (1, .int x1)] [] σ Q :=
  (show am_Snd G M_H_hasMinute 0 am_Pi _ from (sn_iload_n (pc := 0) (i := 1) dX3_hasMinute_0 rfl (sn_if_lt (pc := 1) (tgt := 16) dX3_hasMinute_1 rfl (sn_iconst (pc := 16) (v := 0) dX3_hasMinute_16 rfl (sn_retz (pc := 17) (R := fun x τ => (some ((x, τ)))) dX3_hasMinute_17 rfl (fun _ _ _ _ e h => by cases e; exact h))) (sn_iload_n (pc := 4) (i := 1) dX3_hasMinute_4 rfl (sn_aload_n (pc := 5) (i := 0) dX3_hasMinute_5 rfl (sn_gI (pc := 6) (h := 37) (f := 1) dX3_hasMinute_6 am_CL_3 sh_37 rfl (Nat.le_of_ble_eq_true rfl) tw_78 (sn_icmp_ge (pc := 9) (tgt := 16) dX3_hasMinute_9 rfl (sn_iconst (pc := 16) (v := 0) dX3_hasMinute_16 rfl (sn_retz (pc := 17) (R := fun x τ => (some ((x, τ)))) dX3_hasMinute_17 rfl (fun _ _ _ _ e h => by cases e; exact h))) (sn_iconst (pc := 12) (v := 1) dX3_hasMinute_12 rfl (sn_goto (pc := 13) (tgt := 17) dX3_hasMinute_13 rfl (sn_retz (pc := 17) (R := fun x τ => (some ((x, τ)))) dX3_hasMinute_17 rfl (fun _ _ _ _ e h => by cases e; exact h))))))))))) _ _ _ _ _ ((eq_H_hasMinute_37 x1 σ).symm.trans e) hr
noncomputable def cF_H_hasMinute_37 : am_Fn := fun _ args σ K => match args with
  | [.ref q0, .int z1] => match Nat.beq q0 37 with
    | true => (f_H_hasMinute_37 z1 σ).bind (fun p => K (some (.int p.1)) p.2)
    | _ => none
  | _ => none
theorem cal_H_hasMinute_37 (G : am_G) : am_Cal G M_H_hasMinute cF_H_hasMinute_37 := by
  intro ρ args σ K r e
  unfold cF_H_hasMinute_37 at e
  split at e
  · split at e
    · rename_i hq0
      obtain ⟨p, h1, h2⟩ := am_bind_some e
      rw [Nat.eq_of_beq_eq_true hq0]
      exact ⟨some (.int p.1), p.2, am_Met.of rfl (Nat.le_of_ble_eq_true rfl) (s_H_hasMinute_37 G _ σ p _ h1 ⟨rfl, rfl⟩), h2⟩
    · cases e
  · cases e
abbrev M_H_putDeed : am_MD := (yX3_putDeed, cX3_putDeed, 3, none, 0, 0)
theorem dX3_putDeed_0 : decode cX3_putDeed 0 = .ok (.aload_n 0, 1) := by decide +kernel
theorem dX3_putDeed_1 : decode cX3_putDeed 1 = .ok (.iload_n 1, 1) := by decide +kernel
theorem dX3_putDeed_2 : decode cX3_putDeed 2 = .ok (.putfield 71, 3) := by decide +kernel
theorem dX3_putDeed_5 : decode cX3_putDeed 5 = .ok (.aload_n 0, 1) := by decide +kernel
theorem dX3_putDeed_6 : decode cX3_putDeed 6 = .ok (.iload_n 2, 1) := by decide +kernel
theorem dX3_putDeed_7 : decode cX3_putDeed 7 = .ok (.putfield 74, 3) := by decide +kernel
theorem dX3_putDeed_10 : decode cX3_putDeed 10 = .ok (.return_, 1) := by decide +kernel
noncomputable def g_H_putDeed_37 (x1 : Int32) (x2 : Int32) (σ : am_St) : Option (am_St) :=
  let s1 := am_sI σ 37 3 x1
  let s2 := am_sI s1 37 4 x2
  some (s2)
noncomputable def f_H_putDeed_37 (x1 : Int32) (x2 : Int32) (σ : am_St) : Option (am_St) := am_lk (g_H_putDeed_37 x1 x2 σ)
theorem eq_H_putDeed_37 (x1 : Int32) (x2 : Int32) (σ : am_St) : f_H_putDeed_37 x1 x2 σ = g_H_putDeed_37 x1 x2 σ := am_lk_eq _
set_option maxRecDepth 100000 in
set_option maxHeartbeats 4000000 in
theorem s_H_putDeed_37 (G : am_G) (x1 : Int32) (x2 : Int32) (σ : am_St) (r : am_St) (Q : am_AQ) (e : f_H_putDeed_37 x1 x2 σ = some r) (hr : am_Pv r Q) : am_AW G M_H_putDeed 0 [(0, .ref 37), (1, .int x1), (2, .int x2)] [] σ Q :=
  (show am_Snd G M_H_putDeed 0 am_Pv _ from (sn_aload_n (pc := 0) (i := 0) dX3_putDeed_0 rfl (sn_iload_n (pc := 1) (i := 1) dX3_putDeed_1 rfl (sn_pI (pc := 2) (h := 37) (f := 3) dX3_putDeed_2 am_CL_3 sh_37 rfl (Nat.le_of_ble_eq_true rfl) tw_88 rfl rfl (sn_aload_n (pc := 5) (i := 0) dX3_putDeed_5 rfl (sn_iload_n (pc := 6) (i := 2) dX3_putDeed_6 rfl (sn_pI (pc := 7) (h := 37) (f := 4) dX3_putDeed_7 am_CL_3 sh_37 rfl (Nat.le_of_ble_eq_true rfl) tw_94 rfl rfl (sn_retv (pc := 10) (R := fun τ => (some (τ))) dX3_putDeed_10 rfl (fun _ _ _ e h => by cases e; exact h))))))))) _ _ _ _ _ ((eq_H_putDeed_37 x1 x2 σ).symm.trans e) hr
noncomputable def cF_H_putDeed_37 : am_Fn := fun _ args σ K => match args with
  | [.ref q0, .int z1, .int z2] => match Nat.beq q0 37 with
    | true => (f_H_putDeed_37 z1 z2 σ).bind (fun p => K none p)
    | _ => none
  | _ => none
theorem cal_H_putDeed_37 (G : am_G) : am_Cal G M_H_putDeed cF_H_putDeed_37 := by
  intro ρ args σ K r e
  unfold cF_H_putDeed_37 at e
  split at e
  · split at e
    · rename_i hq0
      obtain ⟨p, h1, h2⟩ := am_bind_some e
      rw [Nat.eq_of_beq_eq_true hq0]
      exact ⟨none, p, am_Met.of rfl (Nat.le_of_ble_eq_true rfl) (s_H_putDeed_37 G _ _ σ p _ h1 ⟨rfl, rfl⟩), h2⟩
    · cases e
  · cases e
abbrev M_T_breaks : am_MD := (yX4_breaks, cX4_breaks, 3, (some .boolean), 1, 22)
theorem dX4_breaks_0 : decode cX4_breaks 0 = .ok (.aload_n 0, 1) := by decide +kernel
theorem dX4_breaks_1 : decode cX4_breaks 1 = .ok (.getfield 22, 3) := by decide +kernel
theorem dX4_breaks_4 : decode cX4_breaks 4 = .ok (.iload_n 1, 1) := by decide +kernel
theorem dX4_breaks_5 : decode cX4_breaks 5 = .ok (.invokevirtual 89, 3) := by decide +kernel
theorem dX4_breaks_8 : decode cX4_breaks 8 = .ok (.ifCond .eq 14, 3) := by decide +kernel
theorem dX4_breaks_11 : decode cX4_breaks 11 = .ok (.aload_n 0, 1) := by decide +kernel
theorem dX4_breaks_12 : decode cX4_breaks 12 = .ok (.getfield 22, 3) := by decide +kernel
theorem dX4_breaks_15 : decode cX4_breaks 15 = .ok (.iload_n 2, 1) := by decide +kernel
theorem dX4_breaks_16 : decode cX4_breaks 16 = .ok (.invokevirtual 115, 3) := by decide +kernel
theorem dX4_breaks_19 : decode cX4_breaks 19 = .ok (.ifCond .ne 5, 3) := by decide +kernel
theorem dX4_breaks_22 : decode cX4_breaks 22 = .ok (.iconst 0, 1) := by decide +kernel
theorem dX4_breaks_23 : decode cX4_breaks 23 = .ok (.ireturn, 1) := by decide +kernel
theorem dX4_breaks_24 : decode cX4_breaks 24 = .ok (.aload_n 0, 1) := by decide +kernel
theorem dX4_breaks_25 : decode cX4_breaks 25 = .ok (.getfield 22, 3) := by decide +kernel
theorem dX4_breaks_28 : decode cX4_breaks 28 = .ok (.iload_n 1, 1) := by decide +kernel
theorem dX4_breaks_29 : decode cX4_breaks 29 = .ok (.iload_n 2, 1) := by decide +kernel
theorem dX4_breaks_30 : decode cX4_breaks 30 = .ok (.invokevirtual 118, 3) := by decide +kernel
theorem dX4_breaks_33 : decode cX4_breaks 33 = .ok (.iconst 1, 1) := by decide +kernel
theorem dX4_breaks_34 : decode cX4_breaks 34 = .ok (.ireturn, 1) := by decide +kernel
noncomputable def g_T_breaks (x1 : Int32) (x2 : Int32) (σ : am_St) : Option (Int32 × am_St) :=
  (f_H_hasRoom_37 x1 σ).bind (fun p1 =>
    if p1.1 = 0 then
      some ((0, p1.2))
    else
      (f_H_hasMinute_37 x2 p1.2).bind (fun p2 =>
        if p2.1 = 0 then
          some ((0, p2.2))
        else
          (f_H_putDeed_37 x1 x2 p2.2).bind (fun p3 =>
            some ((1, p3)))))
noncomputable def f_T_breaks (x1 : Int32) (x2 : Int32) (σ : am_St) : Option (Int32 × am_St) := am_lk (g_T_breaks x1 x2 σ)
theorem eq_T_breaks (x1 : Int32) (x2 : Int32) (σ : am_St) : f_T_breaks x1 x2 σ = g_T_breaks x1 x2 σ := am_lk_eq _
set_option maxRecDepth 100000 in
set_option maxHeartbeats 4000000 in
theorem s_T_breaks (G : am_G) (x1 : Int32) (x2 : Int32) (σ : am_St) (r : Int32 × am_St) (Q : am_AQ) (e : f_T_breaks x1 x2 σ = some r) (hr : am_Pi r Q) : am_AW G M_T_breaks 0 [(0, .ref 35), (1, .int x1), (2, .int x2)] [] σ Q :=
  (show am_Snd G M_T_breaks 0 am_Pi _ from (sn_aload_n (pc := 0) (i := 0) dX4_breaks_0 rfl (sn_gR (r0 := 37) (pc := 1) (h := 35) (f := 2) dX4_breaks_1 am_CL_4 sh_35 rfl (Nat.le_of_ble_eq_true rfl) tw_162 (sn_iload_n (pc := 4) (i := 1) dX4_breaks_4 rfl (sn_callV (pc := 5) (N := M_H_hasRoom) dX4_breaks_5 (cal_H_hasRoom_37 G) sh_37 rfl tw_323 tw_324 tw_325 tw_2 tw_326 dsc_X3_hasRoom rfl (sn_if_eq (pc := 8) (tgt := 22) dX4_breaks_8 rfl (sn_iconst (pc := 22) (v := 0) dX4_breaks_22 rfl (sn_retz (pc := 23) (R := fun x τ => (some ((x, τ)))) dX4_breaks_23 rfl (fun _ _ _ _ e h => by cases e; exact h))) (sn_aload_n (pc := 11) (i := 0) dX4_breaks_11 rfl (sn_gR (r0 := 37) (pc := 12) (h := 35) (f := 2) dX4_breaks_12 am_CL_4 sh_35 rfl (Nat.le_of_ble_eq_true rfl) tw_162 (sn_iload_n (pc := 15) (i := 2) dX4_breaks_15 rfl (sn_callV (pc := 16) (N := M_H_hasMinute) dX4_breaks_16 (cal_H_hasMinute_37 G) sh_37 rfl tw_405 tw_398 tw_399 tw_2 tw_400 dsc_X3_hasMinute rfl (sn_if_ne (pc := 19) (tgt := 24) dX4_breaks_19 rfl (sn_aload_n (pc := 24) (i := 0) dX4_breaks_24 rfl (sn_gR (r0 := 37) (pc := 25) (h := 35) (f := 2) dX4_breaks_25 am_CL_4 sh_35 rfl (Nat.le_of_ble_eq_true rfl) tw_162 (sn_iload_n (pc := 28) (i := 1) dX4_breaks_28 rfl (sn_iload_n (pc := 29) (i := 2) dX4_breaks_29 rfl (sn_callV (pc := 30) (N := M_H_putDeed) dX4_breaks_30 (cal_H_putDeed_37 G) sh_37 rfl tw_406 tw_316 tw_317 tw_2 tw_318 dsc_X3_putDeed rfl (sn_iconst (pc := 33) (v := 1) dX4_breaks_33 rfl (sn_retz (pc := 34) (R := fun x τ => (some ((x, τ)))) dX4_breaks_34 rfl (fun _ _ _ _ e h => by cases e; exact h)))))))) (sn_iconst (pc := 22) (v := 0) dX4_breaks_22 rfl (sn_retz (pc := 23) (R := fun x τ => (some ((x, τ)))) dX4_breaks_23 rfl (fun _ _ _ _ e h => by cases e; exact h)))))))))))))) _ _ _ _ _ ((eq_T_breaks x1 x2 σ).symm.trans e) hr
noncomputable def cF_T_breaks : am_Fn := fun _ args σ K => match args with
  | [.ref q0, .int z1, .int z2] => match Nat.beq q0 35 with
    | true => (f_T_breaks z1 z2 σ).bind (fun p => K (some (.int p.1)) p.2)
    | _ => none
  | _ => none
theorem cal_T_breaks (G : am_G) : am_Cal G M_T_breaks cF_T_breaks := by
  intro ρ args σ K r e
  unfold cF_T_breaks at e
  split at e
  · split at e
    · rename_i hq0
      obtain ⟨p, h1, h2⟩ := am_bind_some e
      rw [Nat.eq_of_beq_eq_true hq0]
      exact ⟨some (.int p.1), p.2, am_Met.of rfl (Nat.le_of_ble_eq_true rfl) (s_T_breaks G _ _ σ p _ h1 ⟨rfl, rfl⟩), h2⟩
    · cases e
  · cases e
abbrev M_H_addChild : am_MD := (yX3_addChild, cX3_addChild, 6, (some .boolean), 0, 0)
theorem dX3_addChild_0 : decode cX3_addChild 0 = .ok (.aload_n 0, 1) := by decide +kernel
theorem dX3_addChild_1 : decode cX3_addChild 1 = .ok (.getfield 68, 3) := by decide +kernel
theorem dX3_addChild_4 : decode cX3_addChild 4 = .ok (.iconst 4, 1) := by decide +kernel
theorem dX3_addChild_5 : decode cX3_addChild 5 = .ok (.if_icmp .ge 21, 3) := by decide +kernel
theorem dX3_addChild_8 : decode cX3_addChild 8 = .ok (.iload_n 1, 1) := by decide +kernel
theorem dX3_addChild_9 : decode cX3_addChild 9 = .ok (.ifCond .lt 17, 3) := by decide +kernel
theorem dX3_addChild_12 : decode cX3_addChild 12 = .ok (.iload_n 1, 1) := by decide +kernel
theorem dX3_addChild_13 : decode cX3_addChild 13 = .ok (.aload_n 0, 1) := by decide +kernel
theorem dX3_addChild_14 : decode cX3_addChild 14 = .ok (.getfield 64, 3) := by decide +kernel
theorem dX3_addChild_17 : decode cX3_addChild 17 = .ok (.arraylength, 1) := by decide +kernel
theorem dX3_addChild_18 : decode cX3_addChild 18 = .ok (.if_icmp .ge 8, 3) := by decide +kernel
theorem dX3_addChild_21 : decode cX3_addChild 21 = .ok (.iload_n 3, 1) := by decide +kernel
theorem dX3_addChild_22 : decode cX3_addChild 22 = .ok (.iconst 4, 1) := by decide +kernel
theorem dX3_addChild_23 : decode cX3_addChild 23 = .ok (.if_icmp .lt 5, 3) := by decide +kernel
theorem dX3_addChild_26 : decode cX3_addChild 26 = .ok (.iconst 0, 1) := by decide +kernel
theorem dX3_addChild_27 : decode cX3_addChild 27 = .ok (.ireturn, 1) := by decide +kernel
theorem dX3_addChild_28 : decode cX3_addChild 28 = .ok (.aload_n 0, 1) := by decide +kernel
theorem dX3_addChild_29 : decode cX3_addChild 29 = .ok (.getfield 68, 3) := by decide +kernel
theorem dX3_addChild_32 : decode cX3_addChild 32 = .ok (.istore 4, 2) := by decide +kernel
theorem dX3_addChild_34 : decode cX3_addChild 34 = .ok (.aload_n 0, 1) := by decide +kernel
theorem dX3_addChild_35 : decode cX3_addChild 35 = .ok (.dup, 1) := by decide +kernel
theorem dX3_addChild_36 : decode cX3_addChild 36 = .ok (.getfield 68, 3) := by decide +kernel
theorem dX3_addChild_39 : decode cX3_addChild 39 = .ok (.iconst 1, 1) := by decide +kernel
theorem dX3_addChild_40 : decode cX3_addChild 40 = .ok (.iadd, 1) := by decide +kernel
theorem dX3_addChild_41 : decode cX3_addChild 41 = .ok (.putfield 68, 3) := by decide +kernel
theorem dX3_addChild_44 : decode cX3_addChild 44 = .ok (.aload_n 0, 1) := by decide +kernel
theorem dX3_addChild_45 : decode cX3_addChild 45 = .ok (.getfield 22, 3) := by decide +kernel
theorem dX3_addChild_48 : decode cX3_addChild 48 = .ok (.iload 4, 2) := by decide +kernel
theorem dX3_addChild_50 : decode cX3_addChild 50 = .ok (.iload_n 1, 1) := by decide +kernel
theorem dX3_addChild_51 : decode cX3_addChild 51 = .ok (.iastore, 1) := by decide +kernel
theorem dX3_addChild_52 : decode cX3_addChild 52 = .ok (.aload_n 0, 1) := by decide +kernel
theorem dX3_addChild_53 : decode cX3_addChild 53 = .ok (.getfield 25, 3) := by decide +kernel
theorem dX3_addChild_56 : decode cX3_addChild 56 = .ok (.iload 4, 2) := by decide +kernel
theorem dX3_addChild_58 : decode cX3_addChild 58 = .ok (.iload_n 2, 1) := by decide +kernel
theorem dX3_addChild_59 : decode cX3_addChild 59 = .ok (.iastore, 1) := by decide +kernel
theorem dX3_addChild_60 : decode cX3_addChild 60 = .ok (.aload_n 0, 1) := by decide +kernel
theorem dX3_addChild_61 : decode cX3_addChild 61 = .ok (.getfield 28, 3) := by decide +kernel
theorem dX3_addChild_64 : decode cX3_addChild 64 = .ok (.iload 4, 2) := by decide +kernel
theorem dX3_addChild_66 : decode cX3_addChild 66 = .ok (.iload_n 3, 1) := by decide +kernel
theorem dX3_addChild_67 : decode cX3_addChild 67 = .ok (.iastore, 1) := by decide +kernel
theorem dX3_addChild_68 : decode cX3_addChild 68 = .ok (.aload_n 0, 1) := by decide +kernel
theorem dX3_addChild_69 : decode cX3_addChild 69 = .ok (.getfield 31, 3) := by decide +kernel
theorem dX3_addChild_72 : decode cX3_addChild 72 = .ok (.iload 4, 2) := by decide +kernel
theorem dX3_addChild_74 : decode cX3_addChild 74 = .ok (.iconst 0, 1) := by decide +kernel
theorem dX3_addChild_75 : decode cX3_addChild 75 = .ok (.iastore, 1) := by decide +kernel
theorem dX3_addChild_76 : decode cX3_addChild 76 = .ok (.iconst 0, 1) := by decide +kernel
theorem dX3_addChild_77 : decode cX3_addChild 77 = .ok (.istore 5, 2) := by decide +kernel
theorem dX3_addChild_79 : decode cX3_addChild 79 = .ok (.iload 5, 2) := by decide +kernel
theorem dX3_addChild_81 : decode cX3_addChild 81 = .ok (.bipush 6, 2) := by decide +kernel
theorem dX3_addChild_83 : decode cX3_addChild 83 = .ok (.if_icmp .ge 23, 3) := by decide +kernel
theorem dX3_addChild_86 : decode cX3_addChild 86 = .ok (.aload_n 0, 1) := by decide +kernel
theorem dX3_addChild_87 : decode cX3_addChild 87 = .ok (.getfield 34, 3) := by decide +kernel
theorem dX3_addChild_90 : decode cX3_addChild 90 = .ok (.iload 4, 2) := by decide +kernel
theorem dX3_addChild_92 : decode cX3_addChild 92 = .ok (.bipush 6, 2) := by decide +kernel
theorem dX3_addChild_94 : decode cX3_addChild 94 = .ok (.imul, 1) := by decide +kernel
theorem dX3_addChild_95 : decode cX3_addChild 95 = .ok (.iload 5, 2) := by decide +kernel
theorem dX3_addChild_97 : decode cX3_addChild 97 = .ok (.iadd, 1) := by decide +kernel
theorem dX3_addChild_98 : decode cX3_addChild 98 = .ok (.iconst 0, 1) := by decide +kernel
theorem dX3_addChild_99 : decode cX3_addChild 99 = .ok (.iastore, 1) := by decide +kernel
theorem dX3_addChild_100 : decode cX3_addChild 100 = .ok (.iinc 5 1, 3) := by decide +kernel
theorem dX3_addChild_103 : decode cX3_addChild 103 = .ok (.goto (-24), 3) := by decide +kernel
theorem dX3_addChild_106 : decode cX3_addChild 106 = .ok (.iconst 1, 1) := by decide +kernel
theorem dX3_addChild_107 : decode cX3_addChild 107 = .ok (.ireturn, 1) := by decide +kernel
abbrev Pl_H_addChild_37_79 (G : am_G) : ((Int32 × Int32 × am_St) ⊕ (Int32 × am_St)) → am_AQ → Prop := am_PL G M_H_addChild 79 (fun s : Int32 × Int32 × am_St => [(5, .int s.2.1), (4, .int s.1), (0, .ref 37)]) (fun s => s.2.2) am_Pi
noncomputable def b_H_addChild_37_79 (x4 : Int32) (x5 : Int32) (σ : am_St) : Option ((Int32 × Int32 × am_St) ⊕ (Int32 × am_St)) :=
  if 6 ≤ x5 then
    some (.inr ((1, σ)))
  else
    if am_ix ((x4 * 6) + x5) 24 = true then
      let s1 := am_sI σ 43 ((x4 * 6) + x5).toNatClampNeg 0
      let v2 := x5 + 1
      some (.inl (x4, v2, s1))
    else none
noncomputable def f_H_addChild_37_79 (x4 : Int32) (x5 : Int32) (σ : am_St) : Option (Int32 × am_St) := am_lp (fun s : Int32 × Int32 × am_St => b_H_addChild_37_79 s.1 s.2.1 s.2.2) (x4, x5, σ)
set_option maxRecDepth 100000 in
set_option maxHeartbeats 4000000 in
theorem sb_H_addChild_37_79 (G : am_G) (x4 : Int32) (x5 : Int32) (σ : am_St) (r : (Int32 × Int32 × am_St) ⊕ (Int32 × am_St)) (Q : am_AQ) (e : b_H_addChild_37_79 x4 x5 σ = some r) (hr : Pl_H_addChild_37_79 G r Q) : am_AW G M_H_addChild 79 [(5, .int x5), (4, .int x4), (0, .ref 37)] [] σ Q :=
  (show am_Snd G M_H_addChild 79 (Pl_H_addChild_37_79 G) _ from (sn_iload (pc := 79) dX3_addChild_79 (sn_bipush (pc := 81) (v := 6) dX3_addChild_81 rfl (sn_icmp_ge (pc := 83) (tgt := 106) dX3_addChild_83 rfl (sn_iconst (pc := 106) (v := 1) dX3_addChild_106 rfl (sn_retz (pc := 107) (R := fun x τ => (some (.inr ((x, τ))) : Option ((Int32 × Int32 × am_St) ⊕ (Int32 × am_St)))) dX3_addChild_107 rfl (fun _ _ _ _ e h => by cases e; exact h))) (sn_aload_n (pc := 86) (i := 0) dX3_addChild_86 rfl (sn_gR (r0 := 43) (pc := 87) (h := 37) (f := 12) dX3_addChild_87 am_CL_3 sh_37 rfl (Nat.le_of_ble_eq_true rfl) tw_112 (sn_iload (pc := 90) dX3_addChild_90 (sn_bipush (pc := 92) (v := 6) dX3_addChild_92 rfl (sn_imul (pc := 94) dX3_addChild_94 (sn_iload (pc := 95) dX3_addChild_95 (sn_iadd (pc := 97) dX3_addChild_97 (sn_iconst (pc := 98) (v := 0) dX3_addChild_98 rfl (sn_sI (pc := 99) (h := 43) dX3_addChild_99 sh_43 (sn_iinc (pc := 100) (v := 1) dX3_addChild_100 rfl (Nat.le_of_ble_eq_true rfl) (sn_goto (pc := 103) (tgt := 79) dX3_addChild_103 rfl (sn_lf (pc := 79) (ln_a (i := 0) (q := 37) (ln_i (i := 4) (fun z0 => (ln_i (i := 5) (fun z1 => (ln_end (o := fun τ => (some (.inl (z0, z1, τ)) : Option ((Int32 × Int32 × am_St) ⊕ (Int32 × am_St)))) (fun _ _ _ e h => by cases e; exact h))))))))))))))))))))))) _ _ _ _ _ e hr
theorem s_H_addChild_37_79 (G : am_G) (x4 : Int32) (x5 : Int32) (σ : am_St) (r : Int32 × am_St) (Q : am_AQ) (e : f_H_addChild_37_79 x4 x5 σ = some r) (hr : am_Pi r Q) : am_AW G M_H_addChild 79 [(5, .int x5), (4, .int x4), (0, .ref 37)] [] σ Q :=
  am_loop (P := am_Pi) (L := fun s : Int32 × Int32 × am_St => [(5, .int s.2.1), (4, .int s.1), (0, .ref 37)]) (g := fun s => s.2.2) (fun s o Q e hr => sb_H_addChild_37_79 G s.1 s.2.1 s.2.2 o Q e hr) (x4, x5, σ) r Q e hr
noncomputable def g_H_addChild_37_52 (x2 : Int32) (x3 : Int32) (x4 : Int32) (σ : am_St) : Option (Int32 × am_St) :=
  if am_ix x4 4 = true then
    let s1 := am_sI σ 40 x4.toNatClampNeg x2
    if am_ix x4 4 = true then
      let s2 := am_sI s1 41 x4.toNatClampNeg x3
      if am_ix x4 4 = true then
        let s3 := am_sI s2 42 x4.toNatClampNeg 0
        f_H_addChild_37_79 x4 0 s3
      else none
    else none
  else none
noncomputable def f_H_addChild_37_52 (x2 : Int32) (x3 : Int32) (x4 : Int32) (σ : am_St) : Option (Int32 × am_St) := am_lk (g_H_addChild_37_52 x2 x3 x4 σ)
theorem eq_H_addChild_37_52 (x2 : Int32) (x3 : Int32) (x4 : Int32) (σ : am_St) : f_H_addChild_37_52 x2 x3 x4 σ = g_H_addChild_37_52 x2 x3 x4 σ := am_lk_eq _
set_option maxRecDepth 100000 in
set_option maxHeartbeats 4000000 in
theorem s_H_addChild_37_52 (G : am_G) (x2 : Int32) (x3 : Int32) (x4 : Int32) (σ : am_St) (r : Int32 × am_St) (Q : am_AQ) (e : f_H_addChild_37_52 x2 x3 x4 σ = some r) (hr : am_Pi r Q) : am_AW G M_H_addChild 52 [(4, .int x4), (3, .int x3), (2, .int x2), (0, .ref 37)] [] σ Q :=
  (show am_Snd G M_H_addChild 52 am_Pi _ from (sn_aload_n (pc := 52) (i := 0) dX3_addChild_52 rfl (sn_gR (r0 := 40) (pc := 53) (h := 37) (f := 9) dX3_addChild_53 am_CL_3 sh_37 rfl (Nat.le_of_ble_eq_true rfl) tw_109 (sn_iload (pc := 56) dX3_addChild_56 (sn_iload_n (pc := 58) (i := 2) dX3_addChild_58 rfl (sn_sI (pc := 59) (h := 40) dX3_addChild_59 sh_40 (sn_aload_n (pc := 60) (i := 0) dX3_addChild_60 rfl (sn_gR (r0 := 41) (pc := 61) (h := 37) (f := 10) dX3_addChild_61 am_CL_3 sh_37 rfl (Nat.le_of_ble_eq_true rfl) tw_110 (sn_iload (pc := 64) dX3_addChild_64 (sn_iload_n (pc := 66) (i := 3) dX3_addChild_66 rfl (sn_sI (pc := 67) (h := 41) dX3_addChild_67 sh_41 (sn_aload_n (pc := 68) (i := 0) dX3_addChild_68 rfl (sn_gR (r0 := 42) (pc := 69) (h := 37) (f := 11) dX3_addChild_69 am_CL_3 sh_37 rfl (Nat.le_of_ble_eq_true rfl) tw_111 (sn_iload (pc := 72) dX3_addChild_72 (sn_iconst (pc := 74) (v := 0) dX3_addChild_74 rfl (sn_sI (pc := 75) (h := 42) dX3_addChild_75 sh_42 (sn_iconst (pc := 76) (v := 0) dX3_addChild_76 rfl (sn_istore (pc := 77) dX3_addChild_77 (Nat.le_of_ble_eq_true rfl) (sn_lf (pc := 79) (ln_a (i := 0) (q := 37) (ln_i (i := 4) (fun z0 => (ln_i (i := 5) (fun z1 => (ln_end (o := fun τ => f_H_addChild_37_79 z0 z1 τ) (fun _ _ _ e h => s_H_addChild_37_79 G z0 z1 _ _ _ e h)))))))))))))))))))))))))) _ _ _ _ _ ((eq_H_addChild_37_52 x2 x3 x4 σ).symm.trans e) hr
noncomputable def g_H_addChild_37 (x1 : Int32) (x2 : Int32) (x3 : Int32) (σ : am_St) : Option (Int32 × am_St) :=
  if 4 ≤ (σ.1 37 2) then
    some ((0, σ))
  else
    if x1 < 0 then
      some ((0, σ))
    else
      if 6 ≤ x1 then
        some ((0, σ))
      else
        if x3 < 4 then
          let v1 := σ.1 37 2
          let s2 := am_sI σ 37 2 ((σ.1 37 2) + 1)
          if am_ix v1 4 = true then
            let s3 := am_sI s2 39 v1.toNatClampNeg x1
            f_H_addChild_37_52 x2 x3 v1 s3
          else none
        else
          some ((0, σ))
noncomputable def f_H_addChild_37 (x1 : Int32) (x2 : Int32) (x3 : Int32) (σ : am_St) : Option (Int32 × am_St) := am_lk (g_H_addChild_37 x1 x2 x3 σ)
theorem eq_H_addChild_37 (x1 : Int32) (x2 : Int32) (x3 : Int32) (σ : am_St) : f_H_addChild_37 x1 x2 x3 σ = g_H_addChild_37 x1 x2 x3 σ := am_lk_eq _
set_option maxRecDepth 100000 in
set_option maxHeartbeats 4000000 in
theorem s_H_addChild_37 (G : am_G) (x1 : Int32) (x2 : Int32) (x3 : Int32) (σ : am_St) (r : Int32 × am_St) (Q : am_AQ) (e : f_H_addChild_37 x1 x2 x3 σ = some r) (hr : am_Pi r Q) : am_AW G M_H_addChild 0 [(0, .ref 37), (1, .int x1), (2, .int x2), (3, .int x3)] [] σ Q :=
  (show am_Snd G M_H_addChild 0 am_Pi _ from (sn_aload_n (pc := 0) (i := 0) dX3_addChild_0 rfl (sn_gI (pc := 1) (h := 37) (f := 2) dX3_addChild_1 am_CL_3 sh_37 rfl (Nat.le_of_ble_eq_true rfl) tw_83 (sn_iconst (pc := 4) (v := 4) dX3_addChild_4 rfl (sn_icmp_ge (pc := 5) (tgt := 26) dX3_addChild_5 rfl (sn_iconst (pc := 26) (v := 0) dX3_addChild_26 rfl (sn_retz (pc := 27) (R := fun x τ => (some ((x, τ)))) dX3_addChild_27 rfl (fun _ _ _ _ e h => by cases e; exact h))) (sn_iload_n (pc := 8) (i := 1) dX3_addChild_8 rfl (sn_if_lt (pc := 9) (tgt := 26) dX3_addChild_9 rfl (sn_iconst (pc := 26) (v := 0) dX3_addChild_26 rfl (sn_retz (pc := 27) (R := fun x τ => (some ((x, τ)))) dX3_addChild_27 rfl (fun _ _ _ _ e h => by cases e; exact h))) (sn_iload_n (pc := 12) (i := 1) dX3_addChild_12 rfl (sn_aload_n (pc := 13) (i := 0) dX3_addChild_13 rfl (sn_gR (r0 := 47) (pc := 14) (h := 37) (f := 16) dX3_addChild_14 am_CL_3 sh_37 rfl (Nat.le_of_ble_eq_true rfl) tw_116 (sn_len (pc := 17) (h := 47) (v := 6) dX3_addChild_17 sh_47 rfl (sn_icmp_ge (pc := 18) (tgt := 26) dX3_addChild_18 rfl (sn_iconst (pc := 26) (v := 0) dX3_addChild_26 rfl (sn_retz (pc := 27) (R := fun x τ => (some ((x, τ)))) dX3_addChild_27 rfl (fun _ _ _ _ e h => by cases e; exact h))) (sn_iload_n (pc := 21) (i := 3) dX3_addChild_21 rfl (sn_iconst (pc := 22) (v := 4) dX3_addChild_22 rfl (sn_icmp_lt (pc := 23) (tgt := 28) dX3_addChild_23 rfl (sn_aload_n (pc := 28) (i := 0) dX3_addChild_28 rfl (sn_gI (pc := 29) (h := 37) (f := 2) dX3_addChild_29 am_CL_3 sh_37 rfl (Nat.le_of_ble_eq_true rfl) tw_83 (sn_istore (pc := 32) dX3_addChild_32 (Nat.le_of_ble_eq_true rfl) (sn_aload_n (pc := 34) (i := 0) dX3_addChild_34 rfl (sn_dup (pc := 35) dX3_addChild_35 (sn_gI (pc := 36) (h := 37) (f := 2) dX3_addChild_36 am_CL_3 sh_37 rfl (Nat.le_of_ble_eq_true rfl) tw_83 (sn_iconst (pc := 39) (v := 1) dX3_addChild_39 rfl (sn_iadd (pc := 40) dX3_addChild_40 (sn_pI (pc := 41) (h := 37) (f := 2) dX3_addChild_41 am_CL_3 sh_37 rfl (Nat.le_of_ble_eq_true rfl) tw_83 rfl rfl (sn_aload_n (pc := 44) (i := 0) dX3_addChild_44 rfl (sn_gR (r0 := 39) (pc := 45) (h := 37) (f := 8) dX3_addChild_45 am_CL_3 sh_37 rfl (Nat.le_of_ble_eq_true rfl) tw_108 (sn_iload (pc := 48) dX3_addChild_48 (sn_iload_n (pc := 50) (i := 1) dX3_addChild_50 rfl (sn_sI (pc := 51) (h := 39) dX3_addChild_51 sh_39 (sn_lf (pc := 52) (ln_a (i := 0) (q := 37) (ln_i (i := 2) (fun z0 => (ln_i (i := 3) (fun z1 => (ln_i (i := 4) (fun z2 => (ln_end (o := fun τ => f_H_addChild_37_52 z0 z1 z2 τ) (fun _ _ _ e h => s_H_addChild_37_52 G z0 z1 z2 _ _ _ e h)))))))))))))))))))))))) (sn_iconst (pc := 26) (v := 0) dX3_addChild_26 rfl (sn_retz (pc := 27) (R := fun x τ => (some ((x, τ)))) dX3_addChild_27 rfl (fun _ _ _ _ e h => by cases e; exact h)))))))))))))))))) _ _ _ _ _ ((eq_H_addChild_37 x1 x2 x3 σ).symm.trans e) hr
noncomputable def cF_H_addChild_37 : am_Fn := fun _ args σ K => match args with
  | [.ref q0, .int z1, .int z2, .int z3] => match Nat.beq q0 37 with
    | true => (f_H_addChild_37 z1 z2 z3 σ).bind (fun p => K (some (.int p.1)) p.2)
    | _ => none
  | _ => none
theorem cal_H_addChild_37 (G : am_G) : am_Cal G M_H_addChild cF_H_addChild_37 := by
  intro ρ args σ K r e
  unfold cF_H_addChild_37 at e
  split at e
  · split at e
    · rename_i hq0
      obtain ⟨p, h1, h2⟩ := am_bind_some e
      rw [Nat.eq_of_beq_eq_true hq0]
      exact ⟨some (.int p.1), p.2, am_Met.of rfl (Nat.le_of_ble_eq_true rfl) (s_H_addChild_37 G _ _ _ σ p _ h1 ⟨rfl, rfl⟩), h2⟩
    · cases e
  · cases e
