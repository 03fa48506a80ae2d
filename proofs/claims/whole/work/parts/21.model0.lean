abbrev M_M_refuse : am_MD := (yX12_refuse, cX12_refuse, 2, (some .int), 0, 0)
theorem dX12_refuse_0 : decode cX12_refuse 0 = .ok (.aload_n 0, 1) := by decide +kernel
theorem dX12_refuse_1 : decode cX12_refuse 1 = .ok (.getfield 62, 3) := by decide +kernel
theorem dX12_refuse_4 : decode cX12_refuse 4 = .ok (.iload_n 1, 1) := by decide +kernel
theorem dX12_refuse_5 : decode cX12_refuse 5 = .ok (.ineg, 1) := by decide +kernel
theorem dX12_refuse_6 : decode cX12_refuse 6 = .ok (.dup2, 1) := by decide +kernel
theorem dX12_refuse_7 : decode cX12_refuse 7 = .ok (.iaload, 1) := by decide +kernel
theorem dX12_refuse_8 : decode cX12_refuse 8 = .ok (.iconst 1, 1) := by decide +kernel
theorem dX12_refuse_9 : decode cX12_refuse 9 = .ok (.iadd, 1) := by decide +kernel
theorem dX12_refuse_10 : decode cX12_refuse 10 = .ok (.iastore, 1) := by decide +kernel
theorem dX12_refuse_11 : decode cX12_refuse 11 = .ok (.iload_n 1, 1) := by decide +kernel
theorem dX12_refuse_12 : decode cX12_refuse 12 = .ok (.ireturn, 1) := by decide +kernel
noncomputable def g_M_refuse (x1 : Int32) (σ : am_St) : Option (Int32 × am_St) :=
  let v1 := -x1
  if am_ix v1 7 = true then
    if am_ix v1 7 = true then
      let s2 := am_sI σ 82 v1.toNatClampNeg ((σ.1 82 v1.toNatClampNeg) + 1)
      some ((x1, s2))
    else none
  else none
noncomputable def f_M_refuse (x1 : Int32) (σ : am_St) : Option (Int32 × am_St) := am_lk (g_M_refuse x1 σ)
theorem eq_M_refuse (x1 : Int32) (σ : am_St) : f_M_refuse x1 σ = g_M_refuse x1 σ := am_lk_eq _
set_option maxRecDepth 100000 in
set_option maxHeartbeats 4000000 in
theorem s_M_refuse (G : am_G) (x1 : Int32) (σ : am_St) (r : Int32 × am_St) (Q : am_AQ) (e : f_M_refuse x1 σ = some r) (hr : am_Pi r Q) : am_AW G M_M_refuse 0 [(0, .ref 66), (1, .int x1)] [] σ Q :=
  (show am_Snd G M_M_refuse 0 am_Pi _ from (sn_aload_n (pc := 0) (i := 0) dX12_refuse_0 rfl (sn_gR (r0 := 82) (pc := 1) (h := 66) (f := 23) dX12_refuse_1 am_CL_11 sh_66 rfl (Nat.le_of_ble_eq_true rfl) tw_964 (sn_iload_n (pc := 4) (i := 1) dX12_refuse_4 rfl (sn_ineg (pc := 5) dX12_refuse_5 (sn_dup2 (pc := 6) dX12_refuse_6 (sn_aI (pc := 7) (h := 82) dX12_refuse_7 sh_82 (sn_iconst (pc := 8) (v := 1) dX12_refuse_8 rfl (sn_iadd (pc := 9) dX12_refuse_9 (sn_sI (pc := 10) (h := 82) dX12_refuse_10 sh_82 (sn_iload_n (pc := 11) (i := 1) dX12_refuse_11 rfl (sn_reti (pc := 12) (R := fun x τ => (some ((x, τ)))) dX12_refuse_12 rfl (fun _ _ _ _ e h => by cases e; exact h))))))))))))) _ _ _ _ _ ((eq_M_refuse x1 σ).symm.trans e) hr
noncomputable def cF_M_refuse : am_Fn := fun _ args σ K => match args with
  | [.ref q0, .int z1] => match Nat.beq q0 66 with
    | true => (f_M_refuse z1 σ).bind (fun p => K (some (.int p.1)) p.2)
    | _ => none
  | _ => none
theorem cal_M_refuse (G : am_G) : am_Cal G M_M_refuse cF_M_refuse := by
  intro ρ args σ K r e
  unfold cF_M_refuse at e
  split at e
  · split at e
    · rename_i hq0
      obtain ⟨p, h1, h2⟩ := am_bind_some e
      rw [Nat.eq_of_beq_eq_true hq0]
      exact ⟨some (.int p.1), p.2, am_Met.of rfl (Nat.le_of_ble_eq_true rfl) (s_M_refuse G _ σ p _ h1 ⟨rfl, rfl⟩), h2⟩
    · cases e
  · cases e
abbrev M_M_feed : am_MD := (yX12_feed, cX12_feed, 2, (some .int), 1, 21)
theorem dX12_feed_0 : decode cX12_feed 0 = .ok (.aload_n 0, 1) := by decide +kernel
theorem dX12_feed_1 : decode cX12_feed 1 = .ok (.iconst 0, 1) := by decide +kernel
theorem dX12_feed_2 : decode cX12_feed 2 = .ok (.putfield 102, 3) := by decide +kernel
theorem dX12_feed_5 : decode cX12_feed 5 = .ok (.iload_n 1, 1) := by decide +kernel
theorem dX12_feed_6 : decode cX12_feed 6 = .ok (.ifCond .ge 10, 3) := by decide +kernel
theorem dX12_feed_9 : decode cX12_feed 9 = .ok (.aload_n 0, 1) := by decide +kernel
theorem dX12_feed_10 : decode cX12_feed 10 = .ok (.bipush (-4), 2) := by decide +kernel
theorem dX12_feed_12 : decode cX12_feed 12 = .ok (.invokevirtual 154, 3) := by decide +kernel
theorem dX12_feed_15 : decode cX12_feed 15 = .ok (.ireturn, 1) := by decide +kernel
theorem dX12_feed_16 : decode cX12_feed 16 = .ok (.iload_n 1, 1) := by decide +kernel
theorem dX12_feed_17 : decode cX12_feed 17 = .ok (.sipush 255, 3) := by decide +kernel
theorem dX12_feed_20 : decode cX12_feed 20 = .ok (.if_icmp .gt 12, 3) := by decide +kernel
theorem dX12_feed_23 : decode cX12_feed 23 = .ok (.aload_n 0, 1) := by decide +kernel
theorem dX12_feed_24 : decode cX12_feed 24 = .ok (.getfield 157, 3) := by decide +kernel
theorem dX12_feed_27 : decode cX12_feed 27 = .ok (.bipush 96, 2) := by decide +kernel
theorem dX12_feed_29 : decode cX12_feed 29 = .ok (.if_icmp .ne 10, 3) := by decide +kernel
theorem dX12_feed_32 : decode cX12_feed 32 = .ok (.aload_n 0, 1) := by decide +kernel
theorem dX12_feed_33 : decode cX12_feed 33 = .ok (.bipush (-6), 2) := by decide +kernel
theorem dX12_feed_35 : decode cX12_feed 35 = .ok (.invokevirtual 154, 3) := by decide +kernel
theorem dX12_feed_38 : decode cX12_feed 38 = .ok (.ireturn, 1) := by decide +kernel
theorem dX12_feed_39 : decode cX12_feed 39 = .ok (.aload_n 0, 1) := by decide +kernel
theorem dX12_feed_40 : decode cX12_feed 40 = .ok (.getfield 74, 3) := by decide +kernel
theorem dX12_feed_43 : decode cX12_feed 43 = .ok (.aload_n 0, 1) := by decide +kernel
theorem dX12_feed_44 : decode cX12_feed 44 = .ok (.getfield 157, 3) := by decide +kernel
theorem dX12_feed_47 : decode cX12_feed 47 = .ok (.iload_n 1, 1) := by decide +kernel
theorem dX12_feed_48 : decode cX12_feed 48 = .ok (.iastore, 1) := by decide +kernel
theorem dX12_feed_49 : decode cX12_feed 49 = .ok (.aload_n 0, 1) := by decide +kernel
theorem dX12_feed_50 : decode cX12_feed 50 = .ok (.dup, 1) := by decide +kernel
theorem dX12_feed_51 : decode cX12_feed 51 = .ok (.getfield 157, 3) := by decide +kernel
theorem dX12_feed_54 : decode cX12_feed 54 = .ok (.iconst 1, 1) := by decide +kernel
theorem dX12_feed_55 : decode cX12_feed 55 = .ok (.iadd, 1) := by decide +kernel
theorem dX12_feed_56 : decode cX12_feed 56 = .ok (.putfield 157, 3) := by decide +kernel
theorem dX12_feed_59 : decode cX12_feed 59 = .ok (.aload_n 0, 1) := by decide +kernel
theorem dX12_feed_60 : decode cX12_feed 60 = .ok (.getfield 157, 3) := by decide +kernel
theorem dX12_feed_63 : decode cX12_feed 63 = .ok (.ireturn, 1) := by decide +kernel
noncomputable def g_M_feed_32 (σ : am_St) : Option (Int32 × am_St) :=
  (f_M_refuse (-6) σ).bind (fun p1 =>
    some ((p1.1, p1.2)))
noncomputable def f_M_feed_32 (σ : am_St) : Option (Int32 × am_St) := am_lk (g_M_feed_32  σ)
theorem eq_M_feed_32 (σ : am_St) : f_M_feed_32  σ = g_M_feed_32  σ := am_lk_eq _
set_option maxRecDepth 100000 in
set_option maxHeartbeats 4000000 in
theorem s_M_feed_32 (G : am_G) (σ : am_St) (r : Int32 × am_St) (Q : am_AQ) (e : f_M_feed_32  σ = some r) (hr : am_Pi r Q) : am_AW G M_M_feed 32 [(0, .ref 66)] [] σ Q :=
  (show am_Snd G M_M_feed 32 am_Pi _ from (sn_aload_n (pc := 32) (i := 0) dX12_feed_32 rfl (sn_bipush (pc := 33) (v := (-6)) dX12_feed_33 (show (Int8.ofInt (-6)).toInt32 = (-6) by decide) (sn_callV (pc := 35) (N := M_M_refuse) dX12_feed_35 (cal_M_refuse G) sh_66 rfl tw_1090 tw_1092 tp_23 tw_12 tw_1093 dsc_X12_refuse rfl (sn_reti (pc := 38) (R := fun x τ => (some ((x, τ)))) dX12_feed_38 rfl (fun _ _ _ _ e h => by cases e; exact h)))))) _ _ _ _ _ ((eq_M_feed_32  σ).symm.trans e) hr
noncomputable def g_M_feed_59 (σ : am_St) : Option (Int32 × am_St) :=
  some ((σ.1 66 28, σ))
noncomputable def f_M_feed_59 (σ : am_St) : Option (Int32 × am_St) := am_lk (g_M_feed_59  σ)
theorem eq_M_feed_59 (σ : am_St) : f_M_feed_59  σ = g_M_feed_59  σ := am_lk_eq _
set_option maxRecDepth 100000 in
set_option maxHeartbeats 4000000 in
theorem s_M_feed_59 (G : am_G) (σ : am_St) (r : Int32 × am_St) (Q : am_AQ) (e : f_M_feed_59  σ = some r) (hr : am_Pi r Q) : am_AW G M_M_feed 59 [(0, .ref 66)] [] σ Q :=
  (show am_Snd G M_M_feed 59 am_Pi _ from (sn_aload_n (pc := 59) (i := 0) dX12_feed_59 rfl (sn_gI (pc := 60) (h := 66) (f := 28) dX12_feed_60 am_CL_11 sh_66 rfl (Nat.le_of_ble_eq_true rfl) tw_969 (sn_reti (pc := 63) (R := fun x τ => (some ((x, τ)))) dX12_feed_63 rfl (fun _ _ _ _ e h => by cases e; exact h))))) _ _ _ _ _ ((eq_M_feed_59  σ).symm.trans e) hr
noncomputable def g_M_feed (x1 : Int32) (σ : am_St) : Option (Int32 × am_St) :=
  let s1 := am_sI σ 66 22 0
  if 0 ≤ x1 then
    if 255 < x1 then
      f_M_feed_32 s1
    else
      if (s1.1 66 28) = 96 then
        f_M_feed_32 s1
      else
        if am_ix (s1.1 66 28) 96 = true then
          let s2 := am_sI s1 86 (s1.1 66 28).toNatClampNeg x1
          let s3 := am_sI s2 66 28 ((s2.1 66 28) + 1)
          f_M_feed_59 s3
        else none
  else
    (f_M_refuse (-4) s1).bind (fun p4 =>
      some ((p4.1, p4.2)))
noncomputable def f_M_feed (x1 : Int32) (σ : am_St) : Option (Int32 × am_St) := am_lk (g_M_feed x1 σ)
theorem eq_M_feed (x1 : Int32) (σ : am_St) : f_M_feed x1 σ = g_M_feed x1 σ := am_lk_eq _
set_option maxRecDepth 100000 in
set_option maxHeartbeats 4000000 in
theorem s_M_feed (G : am_G) (x1 : Int32) (σ : am_St) (r : Int32 × am_St) (Q : am_AQ) (e : f_M_feed x1 σ = some r) (hr : am_Pi r Q) : am_AW G M_M_feed 0 [(0, .ref 66), (1, .int x1)] [] σ Q :=
  (show am_Snd G M_M_feed 0 am_Pi _ from (sn_aload_n (pc := 0) (i := 0) dX12_feed_0 rfl (sn_iconst (pc := 1) (v := 0) dX12_feed_1 rfl (sn_pI (pc := 2) (h := 66) (f := 22) dX12_feed_2 am_CL_11 sh_66 rfl (Nat.le_of_ble_eq_true rfl) tw_963 rfl rfl (sn_iload_n (pc := 5) (i := 1) dX12_feed_5 rfl (sn_if_ge (pc := 6) (tgt := 16) dX12_feed_6 rfl (sn_iload_n (pc := 16) (i := 1) dX12_feed_16 rfl (sn_sipush (pc := 17) (v := 255) dX12_feed_17 rfl (sn_icmp_gt (pc := 20) (tgt := 32) dX12_feed_20 rfl (sn_lf (pc := 32) (ln_a (i := 0) (q := 66) (ln_end (o := fun τ => f_M_feed_32 τ) (fun _ _ _ e h => s_M_feed_32 G  _ _ _ e h)))) (sn_aload_n (pc := 23) (i := 0) dX12_feed_23 rfl (sn_gI (pc := 24) (h := 66) (f := 28) dX12_feed_24 am_CL_11 sh_66 rfl (Nat.le_of_ble_eq_true rfl) tw_969 (sn_bipush (pc := 27) (v := 96) dX12_feed_27 rfl (sn_icmp_ne (pc := 29) (tgt := 39) dX12_feed_29 rfl (sn_aload_n (pc := 39) (i := 0) dX12_feed_39 rfl (sn_gR (r0 := 86) (pc := 40) (h := 66) (f := 27) dX12_feed_40 am_CL_11 sh_66 rfl (Nat.le_of_ble_eq_true rfl) tw_968 (sn_aload_n (pc := 43) (i := 0) dX12_feed_43 rfl (sn_gI (pc := 44) (h := 66) (f := 28) dX12_feed_44 am_CL_11 sh_66 rfl (Nat.le_of_ble_eq_true rfl) tw_969 (sn_iload_n (pc := 47) (i := 1) dX12_feed_47 rfl (sn_sI (pc := 48) (h := 86) dX12_feed_48 sh_86 (sn_aload_n (pc := 49) (i := 0) dX12_feed_49 rfl (sn_dup (pc := 50) dX12_feed_50 (sn_gI (pc := 51) (h := 66) (f := 28) dX12_feed_51 am_CL_11 sh_66 rfl (Nat.le_of_ble_eq_true rfl) tw_969 (sn_iconst (pc := 54) (v := 1) dX12_feed_54 rfl (sn_iadd (pc := 55) dX12_feed_55 (sn_pI (pc := 56) (h := 66) (f := 28) dX12_feed_56 am_CL_11 sh_66 rfl (Nat.le_of_ble_eq_true rfl) tw_969 rfl rfl (sn_lf (pc := 59) (ln_a (i := 0) (q := 66) (ln_end (o := fun τ => f_M_feed_59 τ) (fun _ _ _ e h => s_M_feed_59 G  _ _ _ e h)))))))))))))))) (sn_lf (pc := 32) (ln_a (i := 0) (q := 66) (ln_end (o := fun τ => f_M_feed_32 τ) (fun _ _ _ e h => s_M_feed_32 G  _ _ _ e h))))))))))) (sn_aload_n (pc := 9) (i := 0) dX12_feed_9 rfl (sn_bipush (pc := 10) (v := (-4)) dX12_feed_10 (show (Int8.ofInt (-4)).toInt32 = (-4) by decide) (sn_callV (pc := 12) (N := M_M_refuse) dX12_feed_12 (cal_M_refuse G) sh_66 rfl tw_1090 tw_1092 tp_23 tw_12 tw_1093 dsc_X12_refuse rfl (sn_reti (pc := 15) (R := fun x τ => (some ((x, τ)))) dX12_feed_15 rfl (fun _ _ _ _ e h => by cases e; exact h))))))))))) _ _ _ _ _ ((eq_M_feed x1 σ).symm.trans e) hr
noncomputable def cF_M_feed : am_Fn := fun _ args σ K => match args with
  | [.ref q0, .int z1] => match Nat.beq q0 66 with
    | true => (f_M_feed z1 σ).bind (fun p => K (some (.int p.1)) p.2)
    | _ => none
  | _ => none
theorem cal_M_feed (G : am_G) : am_Cal G M_M_feed cF_M_feed := by
  intro ρ args σ K r e
  unfold cF_M_feed at e
  split at e
  · split at e
    · rename_i hq0
      obtain ⟨p, h1, h2⟩ := am_bind_some e
      rw [Nat.eq_of_beq_eq_true hq0]
      exact ⟨some (.int p.1), p.2, am_Met.of rfl (Nat.le_of_ble_eq_true rfl) (s_M_feed G _ σ p _ h1 ⟨rfl, rfl⟩), h2⟩
    · cases e
  · cases e
abbrev M_M_here : am_MD := (yX12_here, cX12_here, 1, (some .int), 0, 0)
theorem dX12_here_0 : decode cX12_here 0 = .ok (.aload_n 0, 1) := by decide +kernel
theorem dX12_here_1 : decode cX12_here 1 = .ok (.getfield 160, 3) := by decide +kernel
theorem dX12_here_4 : decode cX12_here 4 = .ok (.aload_n 0, 1) := by decide +kernel
theorem dX12_here_5 : decode cX12_here 5 = .ok (.getfield 157, 3) := by decide +kernel
theorem dX12_here_8 : decode cX12_here 8 = .ok (.if_icmp .ge 15, 3) := by decide +kernel
theorem dX12_here_11 : decode cX12_here 11 = .ok (.aload_n 0, 1) := by decide +kernel
theorem dX12_here_12 : decode cX12_here 12 = .ok (.getfield 74, 3) := by decide +kernel
theorem dX12_here_15 : decode cX12_here 15 = .ok (.aload_n 0, 1) := by decide +kernel
theorem dX12_here_16 : decode cX12_here 16 = .ok (.getfield 160, 3) := by decide +kernel
theorem dX12_here_19 : decode cX12_here 19 = .ok (.iaload, 1) := by decide +kernel
theorem dX12_here_20 : decode cX12_here 20 = .ok (.goto 4, 3) := by decide +kernel
theorem dX12_here_23 : decode cX12_here 23 = .ok (.iconst (-1), 1) := by decide +kernel
theorem dX12_here_24 : decode cX12_here 24 = .ok (.ireturn, 1) := by decide +kernel
noncomputable def g_M_here (σ : am_St) : Option (Int32 × am_St) :=
  if (σ.1 66 28) ≤ (σ.1 66 29) then
    some (((-1), σ))
  else
    if am_ix (σ.1 66 29) 96 = true then
      some ((σ.1 86 (σ.1 66 29).toNatClampNeg, σ))
    else none
noncomputable def f_M_here (σ : am_St) : Option (Int32 × am_St) := am_lk (g_M_here  σ)
theorem eq_M_here (σ : am_St) : f_M_here  σ = g_M_here  σ := am_lk_eq _
set_option maxRecDepth 100000 in
set_option maxHeartbeats 4000000 in
theorem s_M_here (G : am_G) (σ : am_St) (r : Int32 × am_St) (Q : am_AQ) (e : f_M_here  σ = some r) (hr : am_Pi r Q) : am_AW G M_M_here 0 [(0, .ref 66)] [] σ Q :=
  (show am_Snd G M_M_here 0 am_Pi _ from (sn_aload_n (pc := 0) (i := 0) dX12_here_0 rfl (sn_gI (pc := 1) (h := 66) (f := 29) dX12_here_1 am_CL_11 sh_66 rfl (Nat.le_of_ble_eq_true rfl) tw_970 (sn_aload_n (pc := 4) (i := 0) dX12_here_4 rfl (sn_gI (pc := 5) (h := 66) (f := 28) dX12_here_5 am_CL_11 sh_66 rfl (Nat.le_of_ble_eq_true rfl) tw_969 (sn_icmp_ge (pc := 8) (tgt := 23) dX12_here_8 rfl (sn_iconst (pc := 23) (v := (-1)) dX12_here_23 (show Int32.ofInt (-1) = (-1) by decide) (sn_reti (pc := 24) (R := fun x τ => (some ((x, τ)))) dX12_here_24 rfl (fun _ _ _ _ e h => by cases e; exact h))) (sn_aload_n (pc := 11) (i := 0) dX12_here_11 rfl (sn_gR (r0 := 86) (pc := 12) (h := 66) (f := 27) dX12_here_12 am_CL_11 sh_66 rfl (Nat.le_of_ble_eq_true rfl) tw_968 (sn_aload_n (pc := 15) (i := 0) dX12_here_15 rfl (sn_gI (pc := 16) (h := 66) (f := 29) dX12_here_16 am_CL_11 sh_66 rfl (Nat.le_of_ble_eq_true rfl) tw_970 (sn_aI (pc := 19) (h := 86) dX12_here_19 sh_86 (sn_goto (pc := 20) (tgt := 24) dX12_here_20 rfl (sn_reti (pc := 24) (R := fun x τ => (some ((x, τ)))) dX12_here_24 rfl (fun _ _ _ _ e h => by cases e; exact h)))))))))))))) _ _ _ _ _ ((eq_M_here  σ).symm.trans e) hr
noncomputable def cF_M_here : am_Fn := fun _ args σ K => match args with
  | [.ref q0] => match Nat.beq q0 66 with
    | true => (f_M_here σ).bind (fun p => K (some (.int p.1)) p.2)
    | _ => none
  | _ => none
theorem cal_M_here (G : am_G) : am_Cal G M_M_here cF_M_here := by
  intro ρ args σ K r e
  unfold cF_M_here at e
  split at e
  · split at e
    · rename_i hq0
      obtain ⟨p, h1, h2⟩ := am_bind_some e
      rw [Nat.eq_of_beq_eq_true hq0]
      exact ⟨some (.int p.1), p.2, am_Met.of rfl (Nat.le_of_ble_eq_true rfl) (s_M_here G  σ p _ h1 ⟨rfl, rfl⟩), h2⟩
    · cases e
  · cases e
abbrev M_M_digitsFor : am_MD := (yX12_digitsFor, cX12_digitsFor, 2, (some .int), 0, 0)
theorem dX12_digitsFor_0 : decode cX12_digitsFor 0 = .ok (.iload_n 1, 1) := by decide +kernel
theorem dX12_digitsFor_1 : decode cX12_digitsFor 1 = .ok (.lookupswitch 52 #[(98, 43), (100, 43), (114, 43), (116, 45)], 43) := by decide +kernel
theorem dX12_digitsFor_44 : decode cX12_digitsFor 44 = .ok (.iconst 2, 1) := by decide +kernel
theorem dX12_digitsFor_45 : decode cX12_digitsFor 45 = .ok (.ireturn, 1) := by decide +kernel
theorem dX12_digitsFor_46 : decode cX12_digitsFor 46 = .ok (.iconst 1, 1) := by decide +kernel
theorem dX12_digitsFor_47 : decode cX12_digitsFor 47 = .ok (.aload_n 0, 1) := by decide +kernel
theorem dX12_digitsFor_48 : decode cX12_digitsFor 48 = .ok (.getfield 174, 3) := by decide +kernel
theorem dX12_digitsFor_51 : decode cX12_digitsFor 51 = .ok (.iadd, 1) := by decide +kernel
theorem dX12_digitsFor_52 : decode cX12_digitsFor 52 = .ok (.ireturn, 1) := by decide +kernel
theorem dX12_digitsFor_53 : decode cX12_digitsFor 53 = .ok (.iconst 3, 1) := by decide +kernel
theorem dX12_digitsFor_54 : decode cX12_digitsFor 54 = .ok (.ireturn, 1) := by decide +kernel
noncomputable def g_M_digitsFor (x1 : Int32) (σ : am_St) : Option (Int32 × am_St) :=
  if x1 = 98 then
    some ((2, σ))
  else
  if x1 = 100 then
    some ((2, σ))
  else
  if x1 = 114 then
    some ((2, σ))
  else
  if x1 = 116 then
    some ((1 + (σ.1 66 31), σ))
  else
  some ((3, σ))
noncomputable def f_M_digitsFor (x1 : Int32) (σ : am_St) : Option (Int32 × am_St) := am_lk (g_M_digitsFor x1 σ)
theorem eq_M_digitsFor (x1 : Int32) (σ : am_St) : f_M_digitsFor x1 σ = g_M_digitsFor x1 σ := am_lk_eq _
set_option maxRecDepth 100000 in
set_option maxHeartbeats 4000000 in
theorem s_M_digitsFor (G : am_G) (x1 : Int32) (σ : am_St) (r : Int32 × am_St) (Q : am_AQ) (e : f_M_digitsFor x1 σ = some r) (hr : am_Pi r Q) : am_AW G M_M_digitsFor 0 [(0, .ref 66), (1, .int x1)] [] σ Q :=
  (show am_Snd G M_M_digitsFor 0 am_Pi _ from (sn_iload_n (pc := 0) (i := 1) dX12_digitsFor_0 rfl (sn_lsw (pc := 1) (dt := 53) (vs := [98, 100, 114, 116]) (ts := [44, 44, 44, 46]) dX12_digitsFor_1 (by decide +kernel) (sn_iconst (pc := 53) (v := 3) dX12_digitsFor_53 rfl (sn_reti (pc := 54) (R := fun x τ => (some ((x, τ)))) dX12_digitsFor_54 rfl (fun _ _ _ _ e h => by cases e; exact h))) (am_all_cons (sn_iconst (pc := 44) (v := 2) dX12_digitsFor_44 rfl (sn_reti (pc := 45) (R := fun x τ => (some ((x, τ)))) dX12_digitsFor_45 rfl (fun _ _ _ _ e h => by cases e; exact h))) (am_all_cons (sn_iconst (pc := 44) (v := 2) dX12_digitsFor_44 rfl (sn_reti (pc := 45) (R := fun x τ => (some ((x, τ)))) dX12_digitsFor_45 rfl (fun _ _ _ _ e h => by cases e; exact h))) (am_all_cons (sn_iconst (pc := 44) (v := 2) dX12_digitsFor_44 rfl (sn_reti (pc := 45) (R := fun x τ => (some ((x, τ)))) dX12_digitsFor_45 rfl (fun _ _ _ _ e h => by cases e; exact h))) (am_all_cons (sn_iconst (pc := 46) (v := 1) dX12_digitsFor_46 rfl (sn_aload_n (pc := 47) (i := 0) dX12_digitsFor_47 rfl (sn_gI (pc := 48) (h := 66) (f := 31) dX12_digitsFor_48 am_CL_11 sh_66 rfl (Nat.le_of_ble_eq_true rfl) tw_972 (sn_iadd (pc := 51) dX12_digitsFor_51 (sn_reti (pc := 52) (R := fun x τ => (some ((x, τ)))) dX12_digitsFor_52 rfl (fun _ _ _ _ e h => by cases e; exact h)))))) am_all_nil))))))) _ _ _ _ _ ((eq_M_digitsFor x1 σ).symm.trans e) hr
noncomputable def cF_M_digitsFor : am_Fn := fun _ args σ K => match args with
  | [.ref q0, .int z1] => match Nat.beq q0 66 with
    | true => (f_M_digitsFor z1 σ).bind (fun p => K (some (.int p.1)) p.2)
    | _ => none
  | _ => none
theorem cal_M_digitsFor (G : am_G) : am_Cal G M_M_digitsFor cF_M_digitsFor := by
  intro ρ args σ K r e
  unfold cF_M_digitsFor at e
  split at e
  · split at e
    · rename_i hq0
      obtain ⟨p, h1, h2⟩ := am_bind_some e
      rw [Nat.eq_of_beq_eq_true hq0]
      exact ⟨some (.int p.1), p.2, am_Met.of rfl (Nat.le_of_ble_eq_true rfl) (s_M_digitsFor G _ σ p _ h1 ⟨rfl, rfl⟩), h2⟩
    · cases e
  · cases e
abbrev M_M_readSign : am_MD := (yX12_readSign, cX12_readSign, 2, (some .int), 1, 20)
theorem dX12_readSign_0 : decode cX12_readSign 0 = .ok (.aload_n 0, 1) := by decide +kernel
theorem dX12_readSign_1 : decode cX12_readSign 1 = .ok (.invokevirtual 167, 3) := by decide +kernel
theorem dX12_readSign_4 : decode cX12_readSign 4 = .ok (.istore_n 1, 1) := by decide +kernel
theorem dX12_readSign_5 : decode cX12_readSign 5 = .ok (.aload_n 0, 1) := by decide +kernel
theorem dX12_readSign_6 : decode cX12_readSign 6 = .ok (.aload_n 0, 1) := by decide +kernel
theorem dX12_readSign_7 : decode cX12_readSign 7 = .ok (.getfield 163, 3) := by decide +kernel
theorem dX12_readSign_10 : decode cX12_readSign 10 = .ok (.ifCond .ne 15, 3) := by decide +kernel
theorem dX12_readSign_13 : decode cX12_readSign 13 = .ok (.iload_n 1, 1) := by decide +kernel
theorem dX12_readSign_14 : decode cX12_readSign 14 = .ok (.bipush 43, 2) := by decide +kernel
theorem dX12_readSign_16 : decode cX12_readSign 16 = .ok (.if_icmp .eq 13, 3) := by decide +kernel
theorem dX12_readSign_19 : decode cX12_readSign 19 = .ok (.iload_n 1, 1) := by decide +kernel
theorem dX12_readSign_20 : decode cX12_readSign 20 = .ok (.bipush 45, 2) := by decide +kernel
theorem dX12_readSign_22 : decode cX12_readSign 22 = .ok (.if_icmp .eq 7, 3) := by decide +kernel
theorem dX12_readSign_25 : decode cX12_readSign 25 = .ok (.iconst 1, 1) := by decide +kernel
theorem dX12_readSign_26 : decode cX12_readSign 26 = .ok (.goto 4, 3) := by decide +kernel
theorem dX12_readSign_29 : decode cX12_readSign 29 = .ok (.iconst 0, 1) := by decide +kernel
theorem dX12_readSign_30 : decode cX12_readSign 30 = .ok (.putfield 163, 3) := by decide +kernel
theorem dX12_readSign_33 : decode cX12_readSign 33 = .ok (.aload_n 0, 1) := by decide +kernel
theorem dX12_readSign_34 : decode cX12_readSign 34 = .ok (.dup, 1) := by decide +kernel
theorem dX12_readSign_35 : decode cX12_readSign 35 = .ok (.getfield 160, 3) := by decide +kernel
theorem dX12_readSign_38 : decode cX12_readSign 38 = .ok (.aload_n 0, 1) := by decide +kernel
theorem dX12_readSign_39 : decode cX12_readSign 39 = .ok (.getfield 163, 3) := by decide +kernel
theorem dX12_readSign_42 : decode cX12_readSign 42 = .ok (.ifCond .eq 7, 3) := by decide +kernel
theorem dX12_readSign_45 : decode cX12_readSign 45 = .ok (.iconst 0, 1) := by decide +kernel
theorem dX12_readSign_46 : decode cX12_readSign 46 = .ok (.goto 4, 3) := by decide +kernel
theorem dX12_readSign_49 : decode cX12_readSign 49 = .ok (.iconst 1, 1) := by decide +kernel
theorem dX12_readSign_50 : decode cX12_readSign 50 = .ok (.iadd, 1) := by decide +kernel
theorem dX12_readSign_51 : decode cX12_readSign 51 = .ok (.putfield 160, 3) := by decide +kernel
theorem dX12_readSign_54 : decode cX12_readSign 54 = .ok (.iload_n 1, 1) := by decide +kernel
theorem dX12_readSign_55 : decode cX12_readSign 55 = .ok (.bipush 43, 2) := by decide +kernel
theorem dX12_readSign_57 : decode cX12_readSign 57 = .ok (.if_icmp .ne 7, 3) := by decide +kernel
theorem dX12_readSign_60 : decode cX12_readSign 60 = .ok (.iconst 1, 1) := by decide +kernel
theorem dX12_readSign_61 : decode cX12_readSign 61 = .ok (.goto 4, 3) := by decide +kernel
theorem dX12_readSign_64 : decode cX12_readSign 64 = .ok (.iconst 0, 1) := by decide +kernel
theorem dX12_readSign_65 : decode cX12_readSign 65 = .ok (.ireturn, 1) := by decide +kernel
noncomputable def g_M_readSign_50 (x1 : Int32) (y1 : Int32) (y2 : Int32) (σ : am_St) : Option (Int32 × am_St) :=
  let s1 := am_sI σ 66 29 (y1 + y2)
  if x1 = 43 then
    some ((1, s1))
  else
    some ((0, s1))
noncomputable def f_M_readSign_50 (x1 : Int32) (y1 : Int32) (y2 : Int32) (σ : am_St) : Option (Int32 × am_St) := am_lk (g_M_readSign_50 x1 y1 y2 σ)
theorem eq_M_readSign_50 (x1 : Int32) (y1 : Int32) (y2 : Int32) (σ : am_St) : f_M_readSign_50 x1 y1 y2 σ = g_M_readSign_50 x1 y1 y2 σ := am_lk_eq _
set_option maxRecDepth 100000 in
set_option maxHeartbeats 4000000 in
theorem s_M_readSign_50 (G : am_G) (x1 : Int32) (y1 : Int32) (y2 : Int32) (σ : am_St) (r : Int32 × am_St) (Q : am_AQ) (e : f_M_readSign_50 x1 y1 y2 σ = some r) (hr : am_Pi r Q) : am_AW G M_M_readSign 50 [(1, .int x1)] [.int y2, .int y1, .ref 66] σ Q :=
  (show am_Snd G M_M_readSign 50 am_Pi _ from (sn_iadd (pc := 50) dX12_readSign_50 (sn_pI (pc := 51) (h := 66) (f := 29) dX12_readSign_51 am_CL_11 sh_66 rfl (Nat.le_of_ble_eq_true rfl) tw_970 rfl rfl (sn_iload_n (pc := 54) (i := 1) dX12_readSign_54 rfl (sn_bipush (pc := 55) (v := 43) dX12_readSign_55 rfl (sn_icmp_ne (pc := 57) (tgt := 64) dX12_readSign_57 rfl (sn_iconst (pc := 64) (v := 0) dX12_readSign_64 rfl (sn_reti (pc := 65) (R := fun x τ => (some ((x, τ)))) dX12_readSign_65 rfl (fun _ _ _ _ e h => by cases e; exact h))) (sn_iconst (pc := 60) (v := 1) dX12_readSign_60 rfl (sn_goto (pc := 61) (tgt := 65) dX12_readSign_61 rfl (sn_reti (pc := 65) (R := fun x τ => (some ((x, τ)))) dX12_readSign_65 rfl (fun _ _ _ _ e h => by cases e; exact h)))))))))) _ _ _ _ _ ((eq_M_readSign_50 x1 y1 y2 σ).symm.trans e) hr
noncomputable def g_M_readSign_30 (x1 : Int32) (y1 : Int32) (σ : am_St) : Option (Int32 × am_St) :=
  if y1 &&& 1 = y1 then
    let s1 := am_sI σ 66 30 y1
    if (s1.1 66 30) = 0 then
      f_M_readSign_50 x1 (s1.1 66 29) 1 s1
    else
      f_M_readSign_50 x1 (s1.1 66 29) 0 s1
  else none
noncomputable def f_M_readSign_30 (x1 : Int32) (y1 : Int32) (σ : am_St) : Option (Int32 × am_St) := am_lk (g_M_readSign_30 x1 y1 σ)
theorem eq_M_readSign_30 (x1 : Int32) (y1 : Int32) (σ : am_St) : f_M_readSign_30 x1 y1 σ = g_M_readSign_30 x1 y1 σ := am_lk_eq _
set_option maxRecDepth 100000 in
set_option maxHeartbeats 4000000 in
theorem s_M_readSign_30 (G : am_G) (x1 : Int32) (y1 : Int32) (σ : am_St) (r : Int32 × am_St) (Q : am_AQ) (e : f_M_readSign_30 x1 y1 σ = some r) (hr : am_Pi r Q) : am_AW G M_M_readSign 30 [(1, .int x1), (0, .ref 66)] [.int y1, .ref 66] σ Q :=
  (show am_Snd G M_M_readSign 30 am_Pi _ from (sn_pZ (pc := 30) (h := 66) (f := 30) dX12_readSign_30 am_CL_11 sh_66 rfl (Nat.le_of_ble_eq_true rfl) tw_971 rfl rfl (sn_aload_n (pc := 33) (i := 0) dX12_readSign_33 rfl (sn_dup (pc := 34) dX12_readSign_34 (sn_gI (pc := 35) (h := 66) (f := 29) dX12_readSign_35 am_CL_11 sh_66 rfl (Nat.le_of_ble_eq_true rfl) tw_970 (sn_aload_n (pc := 38) (i := 0) dX12_readSign_38 rfl (sn_gI (pc := 39) (h := 66) (f := 30) dX12_readSign_39 am_CL_11 sh_66 rfl (Nat.le_of_ble_eq_true rfl) tw_971 (sn_if_eq (pc := 42) (tgt := 49) dX12_readSign_42 rfl (sn_iconst (pc := 49) (v := 1) dX12_readSign_49 rfl (sn_lf (pc := 50) (ln_i (i := 1) (fun z0 => (ln_si (fun w2 => (ln_si (fun w1 => (ln_sa (q := 66) (ln_end (o := fun τ => f_M_readSign_50 z0 w1 w2 τ) (fun _ _ _ e h => s_M_readSign_50 G z0 w1 w2 _ _ _ e h))))))))))) (sn_iconst (pc := 45) (v := 0) dX12_readSign_45 rfl (sn_goto (pc := 46) (tgt := 50) dX12_readSign_46 rfl (sn_lf (pc := 50) (ln_i (i := 1) (fun z0 => (ln_si (fun w2 => (ln_si (fun w1 => (ln_sa (q := 66) (ln_end (o := fun τ => f_M_readSign_50 z0 w1 w2 τ) (fun _ _ _ e h => s_M_readSign_50 G z0 w1 w2 _ _ _ e h)))))))))))))))))))) _ _ _ _ _ ((eq_M_readSign_30 x1 y1 σ).symm.trans e) hr
noncomputable def g_M_readSign_25 (x1 : Int32) (σ : am_St) : Option (Int32 × am_St) :=
  f_M_readSign_30 x1 1 σ
noncomputable def f_M_readSign_25 (x1 : Int32) (σ : am_St) : Option (Int32 × am_St) := am_lk (g_M_readSign_25 x1 σ)
theorem eq_M_readSign_25 (x1 : Int32) (σ : am_St) : f_M_readSign_25 x1 σ = g_M_readSign_25 x1 σ := am_lk_eq _
set_option maxRecDepth 100000 in
set_option maxHeartbeats 4000000 in
theorem s_M_readSign_25 (G : am_G) (x1 : Int32) (σ : am_St) (r : Int32 × am_St) (Q : am_AQ) (e : f_M_readSign_25 x1 σ = some r) (hr : am_Pi r Q) : am_AW G M_M_readSign 25 [(1, .int x1), (0, .ref 66)] [.ref 66] σ Q :=
  (show am_Snd G M_M_readSign 25 am_Pi _ from (sn_iconst (pc := 25) (v := 1) dX12_readSign_25 rfl (sn_goto (pc := 26) (tgt := 30) dX12_readSign_26 rfl (sn_lf (pc := 30) (ln_a (i := 0) (q := 66) (ln_i (i := 1) (fun z0 => (ln_si (fun w1 => (ln_sa (q := 66) (ln_end (o := fun τ => f_M_readSign_30 z0 w1 τ) (fun _ _ _ e h => s_M_readSign_30 G z0 w1 _ _ _ e h)))))))))))) _ _ _ _ _ ((eq_M_readSign_25 x1 σ).symm.trans e) hr
noncomputable def g_M_readSign_29 (x1 : Int32) (σ : am_St) : Option (Int32 × am_St) :=
  f_M_readSign_30 x1 0 σ
noncomputable def f_M_readSign_29 (x1 : Int32) (σ : am_St) : Option (Int32 × am_St) := am_lk (g_M_readSign_29 x1 σ)
theorem eq_M_readSign_29 (x1 : Int32) (σ : am_St) : f_M_readSign_29 x1 σ = g_M_readSign_29 x1 σ := am_lk_eq _
set_option maxRecDepth 100000 in
set_option maxHeartbeats 4000000 in
theorem s_M_readSign_29 (G : am_G) (x1 : Int32) (σ : am_St) (r : Int32 × am_St) (Q : am_AQ) (e : f_M_readSign_29 x1 σ = some r) (hr : am_Pi r Q) : am_AW G M_M_readSign 29 [(1, .int x1), (0, .ref 66)] [.ref 66] σ Q :=
  (show am_Snd G M_M_readSign 29 am_Pi _ from (sn_iconst (pc := 29) (v := 0) dX12_readSign_29 rfl (sn_lf (pc := 30) (ln_a (i := 0) (q := 66) (ln_i (i := 1) (fun z0 => (ln_si (fun w1 => (ln_sa (q := 66) (ln_end (o := fun τ => f_M_readSign_30 z0 w1 τ) (fun _ _ _ e h => s_M_readSign_30 G z0 w1 _ _ _ e h))))))))))) _ _ _ _ _ ((eq_M_readSign_29 x1 σ).symm.trans e) hr
noncomputable def g_M_readSign (σ : am_St) : Option (Int32 × am_St) :=
  (f_M_here σ).bind (fun p1 =>
    if (p1.2.1 66 30) = 0 then
      if p1.1 = 43 then
        f_M_readSign_29 p1.1 p1.2
      else
        if p1.1 = 45 then
          f_M_readSign_29 p1.1 p1.2
        else
          f_M_readSign_25 p1.1 p1.2
    else
      f_M_readSign_25 p1.1 p1.2)
noncomputable def f_M_readSign (σ : am_St) : Option (Int32 × am_St) := am_lk (g_M_readSign  σ)
theorem eq_M_readSign (σ : am_St) : f_M_readSign  σ = g_M_readSign  σ := am_lk_eq _
set_option maxRecDepth 100000 in
set_option maxHeartbeats 4000000 in
theorem s_M_readSign (G : am_G) (σ : am_St) (r : Int32 × am_St) (Q : am_AQ) (e : f_M_readSign  σ = some r) (hr : am_Pi r Q) : am_AW G M_M_readSign 0 [(0, .ref 66)] [] σ Q :=
  (show am_Snd G M_M_readSign 0 am_Pi _ from (sn_aload_n (pc := 0) (i := 0) dX12_readSign_0 rfl (sn_callV (pc := 1) (N := M_M_here) dX12_readSign_1 (cal_M_here G) sh_66 rfl tw_1102 tw_1104 tp_25 tw_12 tw_1105 dsc_X12_here rfl (sn_istore_n (pc := 4) (i := 1) dX12_readSign_4 rfl (Nat.le_of_ble_eq_true rfl) (sn_aload_n (pc := 5) (i := 0) dX12_readSign_5 rfl (sn_aload_n (pc := 6) (i := 0) dX12_readSign_6 rfl (sn_gI (pc := 7) (h := 66) (f := 30) dX12_readSign_7 am_CL_11 sh_66 rfl (Nat.le_of_ble_eq_true rfl) tw_971 (sn_if_ne (pc := 10) (tgt := 25) dX12_readSign_10 rfl (sn_lf (pc := 25) (ln_a (i := 0) (q := 66) (ln_i (i := 1) (fun z0 => (ln_sa (q := 66) (ln_end (o := fun τ => f_M_readSign_25 z0 τ) (fun _ _ _ e h => s_M_readSign_25 G z0 _ _ _ e h))))))) (sn_iload_n (pc := 13) (i := 1) dX12_readSign_13 rfl (sn_bipush (pc := 14) (v := 43) dX12_readSign_14 rfl (sn_icmp_eq (pc := 16) (tgt := 29) dX12_readSign_16 rfl (sn_lf (pc := 29) (ln_a (i := 0) (q := 66) (ln_i (i := 1) (fun z0 => (ln_sa (q := 66) (ln_end (o := fun τ => f_M_readSign_29 z0 τ) (fun _ _ _ e h => s_M_readSign_29 G z0 _ _ _ e h))))))) (sn_iload_n (pc := 19) (i := 1) dX12_readSign_19 rfl (sn_bipush (pc := 20) (v := 45) dX12_readSign_20 rfl (sn_icmp_eq (pc := 22) (tgt := 29) dX12_readSign_22 rfl (sn_lf (pc := 29) (ln_a (i := 0) (q := 66) (ln_i (i := 1) (fun z0 => (ln_sa (q := 66) (ln_end (o := fun τ => f_M_readSign_29 z0 τ) (fun _ _ _ e h => s_M_readSign_29 G z0 _ _ _ e h))))))) (sn_lf (pc := 25) (ln_a (i := 0) (q := 66) (ln_i (i := 1) (fun z0 => (ln_sa (q := 66) (ln_end (o := fun τ => f_M_readSign_25 z0 τ) (fun _ _ _ e h => s_M_readSign_25 G z0 _ _ _ e h))))))))))))))))))))) _ _ _ _ _ ((eq_M_readSign  σ).symm.trans e) hr
noncomputable def cF_M_readSign : am_Fn := fun _ args σ K => match args with
  | [.ref q0] => match Nat.beq q0 66 with
    | true => (f_M_readSign σ).bind (fun p => K (some (.int p.1)) p.2)
    | _ => none
  | _ => none
theorem cal_M_readSign (G : am_G) : am_Cal G M_M_readSign cF_M_readSign := by
  intro ρ args σ K r e
  unfold cF_M_readSign at e
  split at e
  · split at e
    · rename_i hq0
      obtain ⟨p, h1, h2⟩ := am_bind_some e
      rw [Nat.eq_of_beq_eq_true hq0]
      exact ⟨some (.int p.1), p.2, am_Met.of rfl (Nat.le_of_ble_eq_true rfl) (s_M_readSign G  σ p _ h1 ⟨rfl, rfl⟩), h2⟩
    · cases e
  · cases e
abbrev M_M_in : am_MD := (yX12_in, cX12_in, 6, (some .boolean), 0, 0)
theorem dX12_in_0 : decode cX12_in 0 = .ok (.lload_n 0, 1) := by decide +kernel
theorem dX12_in_1 : decode cX12_in 1 = .ok (.lload_n 2, 1) := by decide +kernel
theorem dX12_in_2 : decode cX12_in 2 = .ok (.lcmp, 1) := by decide +kernel
theorem dX12_in_3 : decode cX12_in 3 = .ok (.ifCond .lt 14, 3) := by decide +kernel
theorem dX12_in_6 : decode cX12_in 6 = .ok (.lload_n 0, 1) := by decide +kernel
theorem dX12_in_7 : decode cX12_in 7 = .ok (.lload 4, 2) := by decide +kernel
theorem dX12_in_9 : decode cX12_in 9 = .ok (.lcmp, 1) := by decide +kernel
theorem dX12_in_10 : decode cX12_in 10 = .ok (.ifCond .gt 7, 3) := by decide +kernel
theorem dX12_in_13 : decode cX12_in 13 = .ok (.iconst 1, 1) := by decide +kernel
theorem dX12_in_14 : decode cX12_in 14 = .ok (.goto 4, 3) := by decide +kernel
theorem dX12_in_17 : decode cX12_in 17 = .ok (.iconst 0, 1) := by decide +kernel
theorem dX12_in_18 : decode cX12_in 18 = .ok (.ireturn, 1) := by decide +kernel
noncomputable def g_M_in (x0 : Int64) (x2 : Int64) (x4 : Int64) (σ : am_St) : Option (Int32 × am_St) :=
  if (lg_cmp x0 x2) < 0 then
    some ((0, σ))
  else
    if 0 < (lg_cmp x0 x4) then
      some ((0, σ))
    else
      some ((1, σ))
noncomputable def f_M_in (x0 : Int64) (x2 : Int64) (x4 : Int64) (σ : am_St) : Option (Int32 × am_St) := am_lk (g_M_in x0 x2 x4 σ)
theorem eq_M_in (x0 : Int64) (x2 : Int64) (x4 : Int64) (σ : am_St) : f_M_in x0 x2 x4 σ = g_M_in x0 x2 x4 σ := am_lk_eq _
set_option maxRecDepth 100000 in
set_option maxHeartbeats 4000000 in
theorem s_M_in (G : am_G) (x0 : Int64) (x2 : Int64) (x4 : Int64) (σ : am_St) (r : Int32 × am_St) (Q : am_AQ) (e : f_M_in x0 x2 x4 σ = some r) (hr : am_Pi r Q) : am_AW G M_M_in 0 [(0, .long x0), (2, .long x2), (4, .long x4)] [] σ Q :=
  (show am_Snd G M_M_in 0 am_Pi _ from (sn_lload_n (pc := 0) (i := 0) dX12_in_0 rfl (sn_lload_n (pc := 1) (i := 2) dX12_in_1 rfl (sn_lcmp (pc := 2) dX12_in_2 (sn_if_lt (pc := 3) (tgt := 17) dX12_in_3 rfl (sn_iconst (pc := 17) (v := 0) dX12_in_17 rfl (sn_retz (pc := 18) (R := fun x τ => (some ((x, τ)))) dX12_in_18 rfl (fun _ _ _ _ e h => by cases e; exact h))) (sn_lload_n (pc := 6) (i := 0) dX12_in_6 rfl (sn_lload (pc := 7) dX12_in_7 (sn_lcmp (pc := 9) dX12_in_9 (sn_if_gt (pc := 10) (tgt := 17) dX12_in_10 rfl (sn_iconst (pc := 17) (v := 0) dX12_in_17 rfl (sn_retz (pc := 18) (R := fun x τ => (some ((x, τ)))) dX12_in_18 rfl (fun _ _ _ _ e h => by cases e; exact h))) (sn_iconst (pc := 13) (v := 1) dX12_in_13 rfl (sn_goto (pc := 14) (tgt := 18) dX12_in_14 rfl (sn_retz (pc := 18) (R := fun x τ => (some ((x, τ)))) dX12_in_18 rfl (fun _ _ _ _ e h => by cases e; exact h))))))))))))) _ _ _ _ _ ((eq_M_in x0 x2 x4 σ).symm.trans e) hr
noncomputable def cF_M_in : am_Fn := fun _ args σ K => match args with
  | [.long z0, .long z1, .long z2] => (f_M_in z0 z1 z2 σ).bind (fun p => K (some (.int p.1)) p.2)
  | _ => none
theorem cal_M_in (G : am_G) : am_Cal G M_M_in cF_M_in := by
  intro ρ args σ K r e
  unfold cF_M_in at e
  split at e
  · obtain ⟨p, h1, h2⟩ := am_bind_some e
    exact ⟨some (.int p.1), p.2, am_Met.of rfl (Nat.le_of_ble_eq_true rfl) (s_M_in G _ _ _ σ p _ h1 ⟨rfl, rfl⟩), h2⟩
  · cases e
abbrev M_M_readDigit : am_MD := (yX12_readDigit, cX12_readDigit, 1, (some .int), 1, 25)
theorem dX12_readDigit_0 : decode cX12_readDigit 0 = .ok (.aload_n 0, 1) := by decide +kernel
theorem dX12_readDigit_1 : decode cX12_readDigit 1 = .ok (.aload_n 0, 1) := by decide +kernel
theorem dX12_readDigit_2 : decode cX12_readDigit 2 = .ok (.getfield 163, 3) := by decide +kernel
theorem dX12_readDigit_5 : decode cX12_readDigit 5 = .ok (.ifCond .ne 20, 3) := by decide +kernel
theorem dX12_readDigit_8 : decode cX12_readDigit 8 = .ok (.aload_n 0, 1) := by decide +kernel
theorem dX12_readDigit_9 : decode cX12_readDigit 9 = .ok (.invokevirtual 167, 3) := by decide +kernel
theorem dX12_readDigit_12 : decode cX12_readDigit 12 = .ok (.i2l, 1) := by decide +kernel
theorem dX12_readDigit_13 : decode cX12_readDigit 13 = .ok (.ldc2_w 170, 3) := by decide +kernel
theorem dX12_readDigit_16 : decode cX12_readDigit 16 = .ok (.ldc2_w 172, 3) := by decide +kernel
theorem dX12_readDigit_19 : decode cX12_readDigit 19 = .ok (.invokestatic 108, 3) := by decide +kernel
theorem dX12_readDigit_22 : decode cX12_readDigit 22 = .ok (.ifCond .ne 7, 3) := by decide +kernel
theorem dX12_readDigit_25 : decode cX12_readDigit 25 = .ok (.iconst 1, 1) := by decide +kernel
theorem dX12_readDigit_26 : decode cX12_readDigit 26 = .ok (.goto 4, 3) := by decide +kernel
theorem dX12_readDigit_29 : decode cX12_readDigit 29 = .ok (.iconst 0, 1) := by decide +kernel
theorem dX12_readDigit_30 : decode cX12_readDigit 30 = .ok (.putfield 163, 3) := by decide +kernel
theorem dX12_readDigit_33 : decode cX12_readDigit 33 = .ok (.aload_n 0, 1) := by decide +kernel
theorem dX12_readDigit_34 : decode cX12_readDigit 34 = .ok (.getfield 163, 3) := by decide +kernel
theorem dX12_readDigit_37 : decode cX12_readDigit 37 = .ok (.ifCond .eq 5, 3) := by decide +kernel
theorem dX12_readDigit_40 : decode cX12_readDigit 40 = .ok (.iconst 0, 1) := by decide +kernel
theorem dX12_readDigit_41 : decode cX12_readDigit 41 = .ok (.ireturn, 1) := by decide +kernel
theorem dX12_readDigit_42 : decode cX12_readDigit 42 = .ok (.aload_n 0, 1) := by decide +kernel
theorem dX12_readDigit_43 : decode cX12_readDigit 43 = .ok (.dup, 1) := by decide +kernel
theorem dX12_readDigit_44 : decode cX12_readDigit 44 = .ok (.getfield 160, 3) := by decide +kernel
theorem dX12_readDigit_47 : decode cX12_readDigit 47 = .ok (.iconst 1, 1) := by decide +kernel
theorem dX12_readDigit_48 : decode cX12_readDigit 48 = .ok (.iadd, 1) := by decide +kernel
theorem dX12_readDigit_49 : decode cX12_readDigit 49 = .ok (.putfield 160, 3) := by decide +kernel
theorem dX12_readDigit_52 : decode cX12_readDigit 52 = .ok (.aload_n 0, 1) := by decide +kernel
theorem dX12_readDigit_53 : decode cX12_readDigit 53 = .ok (.getfield 74, 3) := by decide +kernel
theorem dX12_readDigit_56 : decode cX12_readDigit 56 = .ok (.aload_n 0, 1) := by decide +kernel
theorem dX12_readDigit_57 : decode cX12_readDigit 57 = .ok (.getfield 160, 3) := by decide +kernel
theorem dX12_readDigit_60 : decode cX12_readDigit 60 = .ok (.iconst 1, 1) := by decide +kernel
theorem dX12_readDigit_61 : decode cX12_readDigit 61 = .ok (.isub, 1) := by decide +kernel
theorem dX12_readDigit_62 : decode cX12_readDigit 62 = .ok (.iaload, 1) := by decide +kernel
theorem dX12_readDigit_63 : decode cX12_readDigit 63 = .ok (.bipush 48, 2) := by decide +kernel
theorem dX12_readDigit_65 : decode cX12_readDigit 65 = .ok (.isub, 1) := by decide +kernel
theorem dX12_readDigit_66 : decode cX12_readDigit 66 = .ok (.ireturn, 1) := by decide +kernel
noncomputable def g_M_readDigit_30 (y1 : Int32) (σ : am_St) : Option (Int32 × am_St) :=
  if y1 &&& 1 = y1 then
    let s1 := am_sI σ 66 30 y1
    if (s1.1 66 30) = 0 then
      let s2 := am_sI s1 66 29 ((s1.1 66 29) + 1)
      if am_ix ((s2.1 66 29) - 1) 96 = true then
        some (((s2.1 86 ((s2.1 66 29) - 1).toNatClampNeg) - 48, s2))
      else none
    else
      some ((0, s1))
  else none
noncomputable def f_M_readDigit_30 (y1 : Int32) (σ : am_St) : Option (Int32 × am_St) := am_lk (g_M_readDigit_30 y1 σ)
theorem eq_M_readDigit_30 (y1 : Int32) (σ : am_St) : f_M_readDigit_30 y1 σ = g_M_readDigit_30 y1 σ := am_lk_eq _
set_option maxRecDepth 100000 in
set_option maxHeartbeats 4000000 in
theorem s_M_readDigit_30 (G : am_G) (y1 : Int32) (σ : am_St) (r : Int32 × am_St) (Q : am_AQ) (e : f_M_readDigit_30 y1 σ = some r) (hr : am_Pi r Q) : am_AW G M_M_readDigit 30 [(0, .ref 66)] [.int y1, .ref 66] σ Q :=
  (show am_Snd G M_M_readDigit 30 am_Pi _ from (sn_pZ (pc := 30) (h := 66) (f := 30) dX12_readDigit_30 am_CL_11 sh_66 rfl (Nat.le_of_ble_eq_true rfl) tw_971 rfl rfl (sn_aload_n (pc := 33) (i := 0) dX12_readDigit_33 rfl (sn_gI (pc := 34) (h := 66) (f := 30) dX12_readDigit_34 am_CL_11 sh_66 rfl (Nat.le_of_ble_eq_true rfl) tw_971 (sn_if_eq (pc := 37) (tgt := 42) dX12_readDigit_37 rfl (sn_aload_n (pc := 42) (i := 0) dX12_readDigit_42 rfl (sn_dup (pc := 43) dX12_readDigit_43 (sn_gI (pc := 44) (h := 66) (f := 29) dX12_readDigit_44 am_CL_11 sh_66 rfl (Nat.le_of_ble_eq_true rfl) tw_970 (sn_iconst (pc := 47) (v := 1) dX12_readDigit_47 rfl (sn_iadd (pc := 48) dX12_readDigit_48 (sn_pI (pc := 49) (h := 66) (f := 29) dX12_readDigit_49 am_CL_11 sh_66 rfl (Nat.le_of_ble_eq_true rfl) tw_970 rfl rfl (sn_aload_n (pc := 52) (i := 0) dX12_readDigit_52 rfl (sn_gR (r0 := 86) (pc := 53) (h := 66) (f := 27) dX12_readDigit_53 am_CL_11 sh_66 rfl (Nat.le_of_ble_eq_true rfl) tw_968 (sn_aload_n (pc := 56) (i := 0) dX12_readDigit_56 rfl (sn_gI (pc := 57) (h := 66) (f := 29) dX12_readDigit_57 am_CL_11 sh_66 rfl (Nat.le_of_ble_eq_true rfl) tw_970 (sn_iconst (pc := 60) (v := 1) dX12_readDigit_60 rfl (sn_isub (pc := 61) dX12_readDigit_61 (sn_aI (pc := 62) (h := 86) dX12_readDigit_62 sh_86 (sn_bipush (pc := 63) (v := 48) dX12_readDigit_63 rfl (sn_isub (pc := 65) dX12_readDigit_65 (sn_reti (pc := 66) (R := fun x τ => (some ((x, τ)))) dX12_readDigit_66 rfl (fun _ _ _ _ e h => by cases e; exact h))))))))))))))))) (sn_iconst (pc := 40) (v := 0) dX12_readDigit_40 rfl (sn_reti (pc := 41) (R := fun x τ => (some ((x, τ)))) dX12_readDigit_41 rfl (fun _ _ _ _ e h => by cases e; exact h)))))))) _ _ _ _ _ ((eq_M_readDigit_30 y1 σ).symm.trans e) hr
noncomputable def g_M_readDigit_25 (σ : am_St) : Option (Int32 × am_St) :=
  f_M_readDigit_30 1 σ
noncomputable def f_M_readDigit_25 (σ : am_St) : Option (Int32 × am_St) := am_lk (g_M_readDigit_25  σ)
theorem eq_M_readDigit_25 (σ : am_St) : f_M_readDigit_25  σ = g_M_readDigit_25  σ := am_lk_eq _
set_option maxRecDepth 100000 in
set_option maxHeartbeats 4000000 in
theorem s_M_readDigit_25 (G : am_G) (σ : am_St) (r : Int32 × am_St) (Q : am_AQ) (e : f_M_readDigit_25  σ = some r) (hr : am_Pi r Q) : am_AW G M_M_readDigit 25 [(0, .ref 66)] [.ref 66] σ Q :=
  (show am_Snd G M_M_readDigit 25 am_Pi _ from (sn_iconst (pc := 25) (v := 1) dX12_readDigit_25 rfl (sn_goto (pc := 26) (tgt := 30) dX12_readDigit_26 rfl (sn_lf (pc := 30) (ln_a (i := 0) (q := 66) (ln_si (fun w1 => (ln_sa (q := 66) (ln_end (o := fun τ => f_M_readDigit_30 w1 τ) (fun _ _ _ e h => s_M_readDigit_30 G w1 _ _ _ e h)))))))))) _ _ _ _ _ ((eq_M_readDigit_25  σ).symm.trans e) hr
noncomputable def g_M_readDigit (σ : am_St) : Option (Int32 × am_St) :=
  if (σ.1 66 30) = 0 then
    (f_M_here σ).bind (fun p1 =>
      (f_M_in p1.1.toInt64 48 57 p1.2).bind (fun p2 =>
        if p2.1 = 0 then
          f_M_readDigit_25 p2.2
        else
          f_M_readDigit_30 0 p2.2))
  else
    f_M_readDigit_25 σ
noncomputable def f_M_readDigit (σ : am_St) : Option (Int32 × am_St) := am_lk (g_M_readDigit  σ)
theorem eq_M_readDigit (σ : am_St) : f_M_readDigit  σ = g_M_readDigit  σ := am_lk_eq _
set_option maxRecDepth 100000 in
set_option maxHeartbeats 4000000 in
theorem s_M_readDigit (G : am_G) (σ : am_St) (r : Int32 × am_St) (Q : am_AQ) (e : f_M_readDigit  σ = some r) (hr : am_Pi r Q) : am_AW G M_M_readDigit 0 [(0, .ref 66)] [] σ Q :=
  (show am_Snd G M_M_readDigit 0 am_Pi _ from (sn_aload_n (pc := 0) (i := 0) dX12_readDigit_0 rfl (sn_aload_n (pc := 1) (i := 0) dX12_readDigit_1 rfl (sn_gI (pc := 2) (h := 66) (f := 30) dX12_readDigit_2 am_CL_11 sh_66 rfl (Nat.le_of_ble_eq_true rfl) tw_971 (sn_if_ne (pc := 5) (tgt := 25) dX12_readDigit_5 rfl (sn_lf (pc := 25) (ln_a (i := 0) (q := 66) (ln_sa (q := 66) (ln_end (o := fun τ => f_M_readDigit_25 τ) (fun _ _ _ e h => s_M_readDigit_25 G  _ _ _ e h))))) (sn_aload_n (pc := 8) (i := 0) dX12_readDigit_8 rfl (sn_callV (pc := 9) (N := M_M_here) dX12_readDigit_9 (cal_M_here G) sh_66 rfl tw_1102 tw_1104 tp_25 tw_12 tw_1105 dsc_X12_here rfl (sn_i2l (pc := 12) dX12_readDigit_12 (sn_ldc2 (pc := 13) dX12_readDigit_13 tw_1114 (sn_ldc2 (pc := 16) dX12_readDigit_16 tw_1115 (sn_callS (pc := 19) (N := M_M_in) dX12_readDigit_19 (cal_M_in G) tw_1116 tw_1117 tw_12 tw_1118 dsc_X12_in rfl (sn_if_ne (pc := 22) (tgt := 29) dX12_readDigit_22 rfl (sn_iconst (pc := 29) (v := 0) dX12_readDigit_29 rfl (sn_lf (pc := 30) (ln_a (i := 0) (q := 66) (ln_si (fun w1 => (ln_sa (q := 66) (ln_end (o := fun τ => f_M_readDigit_30 w1 τ) (fun _ _ _ e h => s_M_readDigit_30 G w1 _ _ _ e h)))))))) (sn_lf (pc := 25) (ln_a (i := 0) (q := 66) (ln_sa (q := 66) (ln_end (o := fun τ => f_M_readDigit_25 τ) (fun _ _ _ e h => s_M_readDigit_25 G  _ _ _ e h))))))))))))))))) _ _ _ _ _ ((eq_M_readDigit  σ).symm.trans e) hr
noncomputable def cF_M_readDigit : am_Fn := fun _ args σ K => match args with
  | [.ref q0] => match Nat.beq q0 66 with
    | true => (f_M_readDigit σ).bind (fun p => K (some (.int p.1)) p.2)
    | _ => none
  | _ => none
theorem cal_M_readDigit (G : am_G) : am_Cal G M_M_readDigit cF_M_readDigit := by
  intro ρ args σ K r e
  unfold cF_M_readDigit at e
  split at e
  · split at e
    · rename_i hq0
      obtain ⟨p, h1, h2⟩ := am_bind_some e
      rw [Nat.eq_of_beq_eq_true hq0]
      exact ⟨some (.int p.1), p.2, am_Met.of rfl (Nat.le_of_ble_eq_true rfl) (s_M_readDigit G  σ p _ h1 ⟨rfl, rfl⟩), h2⟩
    · cases e
  · cases e
abbrev M_M_readStatement : am_MD := (yX12_readStatement, cX12_readStatement, 5, none, 2, 45)
theorem dX12_readStatement_0 : decode cX12_readStatement 0 = .ok (.aload_n 0, 1) := by decide +kernel
theorem dX12_readStatement_1 : decode cX12_readStatement 1 = .ok (.getfield 177, 3) := by decide +kernel
theorem dX12_readStatement_4 : decode cX12_readStatement 4 = .ok (.istore_n 1, 1) := by decide +kernel
theorem dX12_readStatement_5 : decode cX12_readStatement 5 = .ok (.aload_n 0, 1) := by decide +kernel
theorem dX12_readStatement_6 : decode cX12_readStatement 6 = .ok (.invokevirtual 167, 3) := by decide +kernel
theorem dX12_readStatement_9 : decode cX12_readStatement 9 = .ok (.istore_n 2, 1) := by decide +kernel
theorem dX12_readStatement_10 : decode cX12_readStatement 10 = .ok (.aload_n 0, 1) := by decide +kernel
theorem dX12_readStatement_11 : decode cX12_readStatement 11 = .ok (.getfield 77, 3) := by decide +kernel
theorem dX12_readStatement_14 : decode cX12_readStatement 14 = .ok (.iload_n 1, 1) := by decide +kernel
theorem dX12_readStatement_15 : decode cX12_readStatement 15 = .ok (.aload_n 0, 1) := by decide +kernel
theorem dX12_readStatement_16 : decode cX12_readStatement 16 = .ok (.getfield 160, 3) := by decide +kernel
theorem dX12_readStatement_19 : decode cX12_readStatement 19 = .ok (.iastore, 1) := by decide +kernel
theorem dX12_readStatement_20 : decode cX12_readStatement 20 = .ok (.aload_n 0, 1) := by decide +kernel
theorem dX12_readStatement_21 : decode cX12_readStatement 21 = .ok (.getfield 80, 3) := by decide +kernel
theorem dX12_readStatement_24 : decode cX12_readStatement 24 = .ok (.iload_n 1, 1) := by decide +kernel
theorem dX12_readStatement_25 : decode cX12_readStatement 25 = .ok (.iload_n 2, 1) := by decide +kernel
theorem dX12_readStatement_26 : decode cX12_readStatement 26 = .ok (.iastore, 1) := by decide +kernel
theorem dX12_readStatement_27 : decode cX12_readStatement 27 = .ok (.aload_n 0, 1) := by decide +kernel
theorem dX12_readStatement_28 : decode cX12_readStatement 28 = .ok (.aload_n 0, 1) := by decide +kernel
theorem dX12_readStatement_29 : decode cX12_readStatement 29 = .ok (.getfield 163, 3) := by decide +kernel
theorem dX12_readStatement_32 : decode cX12_readStatement 32 = .ok (.ifCond .ne 39, 3) := by decide +kernel
theorem dX12_readStatement_35 : decode cX12_readStatement 35 = .ok (.iload_n 2, 1) := by decide +kernel
theorem dX12_readStatement_36 : decode cX12_readStatement 36 = .ok (.bipush 114, 2) := by decide +kernel
theorem dX12_readStatement_38 : decode cX12_readStatement 38 = .ok (.if_icmp .eq 37, 3) := by decide +kernel
theorem dX12_readStatement_41 : decode cX12_readStatement 41 = .ok (.iload_n 2, 1) := by decide +kernel
theorem dX12_readStatement_42 : decode cX12_readStatement 42 = .ok (.bipush 100, 2) := by decide +kernel
theorem dX12_readStatement_44 : decode cX12_readStatement 44 = .ok (.if_icmp .eq 31, 3) := by decide +kernel
theorem dX12_readStatement_47 : decode cX12_readStatement 47 = .ok (.iload_n 2, 1) := by decide +kernel
theorem dX12_readStatement_48 : decode cX12_readStatement 48 = .ok (.bipush 99, 2) := by decide +kernel
theorem dX12_readStatement_50 : decode cX12_readStatement 50 = .ok (.if_icmp .eq 25, 3) := by decide +kernel
theorem dX12_readStatement_53 : decode cX12_readStatement 53 = .ok (.iload_n 2, 1) := by decide +kernel
theorem dX12_readStatement_54 : decode cX12_readStatement 54 = .ok (.bipush 116, 2) := by decide +kernel
theorem dX12_readStatement_56 : decode cX12_readStatement 56 = .ok (.if_icmp .eq 19, 3) := by decide +kernel
theorem dX12_readStatement_59 : decode cX12_readStatement 59 = .ok (.iload_n 2, 1) := by decide +kernel
theorem dX12_readStatement_60 : decode cX12_readStatement 60 = .ok (.bipush 98, 2) := by decide +kernel
theorem dX12_readStatement_62 : decode cX12_readStatement 62 = .ok (.if_icmp .eq 13, 3) := by decide +kernel
theorem dX12_readStatement_65 : decode cX12_readStatement 65 = .ok (.iload_n 2, 1) := by decide +kernel
theorem dX12_readStatement_66 : decode cX12_readStatement 66 = .ok (.bipush 102, 2) := by decide +kernel
theorem dX12_readStatement_68 : decode cX12_readStatement 68 = .ok (.if_icmp .eq 7, 3) := by decide +kernel
theorem dX12_readStatement_71 : decode cX12_readStatement 71 = .ok (.iconst 1, 1) := by decide +kernel
theorem dX12_readStatement_72 : decode cX12_readStatement 72 = .ok (.goto 4, 3) := by decide +kernel
theorem dX12_readStatement_75 : decode cX12_readStatement 75 = .ok (.iconst 0, 1) := by decide +kernel
theorem dX12_readStatement_76 : decode cX12_readStatement 76 = .ok (.putfield 163, 3) := by decide +kernel
theorem dX12_readStatement_79 : decode cX12_readStatement 79 = .ok (.aload_n 0, 1) := by decide +kernel
theorem dX12_readStatement_80 : decode cX12_readStatement 80 = .ok (.dup, 1) := by decide +kernel
theorem dX12_readStatement_81 : decode cX12_readStatement 81 = .ok (.getfield 160, 3) := by decide +kernel
theorem dX12_readStatement_84 : decode cX12_readStatement 84 = .ok (.aload_n 0, 1) := by decide +kernel
theorem dX12_readStatement_85 : decode cX12_readStatement 85 = .ok (.getfield 163, 3) := by decide +kernel
theorem dX12_readStatement_88 : decode cX12_readStatement 88 = .ok (.ifCond .eq 7, 3) := by decide +kernel
theorem dX12_readStatement_91 : decode cX12_readStatement 91 = .ok (.iconst 0, 1) := by decide +kernel
theorem dX12_readStatement_92 : decode cX12_readStatement 92 = .ok (.goto 4, 3) := by decide +kernel
theorem dX12_readStatement_95 : decode cX12_readStatement 95 = .ok (.iconst 1, 1) := by decide +kernel
theorem dX12_readStatement_96 : decode cX12_readStatement 96 = .ok (.iadd, 1) := by decide +kernel
theorem dX12_readStatement_97 : decode cX12_readStatement 97 = .ok (.putfield 160, 3) := by decide +kernel
theorem dX12_readStatement_100 : decode cX12_readStatement 100 = .ok (.aload_n 0, 1) := by decide +kernel
theorem dX12_readStatement_101 : decode cX12_readStatement 101 = .ok (.iload_n 2, 1) := by decide +kernel
theorem dX12_readStatement_102 : decode cX12_readStatement 102 = .ok (.invokevirtual 180, 3) := by decide +kernel
theorem dX12_readStatement_105 : decode cX12_readStatement 105 = .ok (.istore_n 3, 1) := by decide +kernel
theorem dX12_readStatement_106 : decode cX12_readStatement 106 = .ok (.iconst 0, 1) := by decide +kernel
theorem dX12_readStatement_107 : decode cX12_readStatement 107 = .ok (.istore 4, 2) := by decide +kernel
theorem dX12_readStatement_109 : decode cX12_readStatement 109 = .ok (.iload 4, 2) := by decide +kernel
theorem dX12_readStatement_111 : decode cX12_readStatement 111 = .ok (.iload_n 3, 1) := by decide +kernel
theorem dX12_readStatement_112 : decode cX12_readStatement 112 = .ok (.if_icmp .ge 25, 3) := by decide +kernel
theorem dX12_readStatement_115 : decode cX12_readStatement 115 = .ok (.aload_n 0, 1) := by decide +kernel
theorem dX12_readStatement_116 : decode cX12_readStatement 116 = .ok (.getfield 83, 3) := by decide +kernel
theorem dX12_readStatement_119 : decode cX12_readStatement 119 = .ok (.bipush 7, 2) := by decide +kernel
theorem dX12_readStatement_121 : decode cX12_readStatement 121 = .ok (.iload_n 1, 1) := by decide +kernel
theorem dX12_readStatement_122 : decode cX12_readStatement 122 = .ok (.imul, 1) := by decide +kernel
theorem dX12_readStatement_123 : decode cX12_readStatement 123 = .ok (.iload 4, 2) := by decide +kernel
theorem dX12_readStatement_125 : decode cX12_readStatement 125 = .ok (.iadd, 1) := by decide +kernel
theorem dX12_readStatement_126 : decode cX12_readStatement 126 = .ok (.aload_n 0, 1) := by decide +kernel
theorem dX12_readStatement_127 : decode cX12_readStatement 127 = .ok (.invokevirtual 183, 3) := by decide +kernel
theorem dX12_readStatement_130 : decode cX12_readStatement 130 = .ok (.iastore, 1) := by decide +kernel
theorem dX12_readStatement_131 : decode cX12_readStatement 131 = .ok (.iinc 4 1, 3) := by decide +kernel
theorem dX12_readStatement_134 : decode cX12_readStatement 134 = .ok (.goto (-25), 3) := by decide +kernel
theorem dX12_readStatement_137 : decode cX12_readStatement 137 = .ok (.iload_n 2, 1) := by decide +kernel
theorem dX12_readStatement_138 : decode cX12_readStatement 138 = .ok (.bipush 102, 2) := by decide +kernel
theorem dX12_readStatement_140 : decode cX12_readStatement 140 = .ok (.if_icmp .ne 18, 3) := by decide +kernel
theorem dX12_readStatement_143 : decode cX12_readStatement 143 = .ok (.aload_n 0, 1) := by decide +kernel
theorem dX12_readStatement_144 : decode cX12_readStatement 144 = .ok (.getfield 83, 3) := by decide +kernel
theorem dX12_readStatement_147 : decode cX12_readStatement 147 = .ok (.bipush 7, 2) := by decide +kernel
theorem dX12_readStatement_149 : decode cX12_readStatement 149 = .ok (.iload_n 1, 1) := by decide +kernel
theorem dX12_readStatement_150 : decode cX12_readStatement 150 = .ok (.imul, 1) := by decide +kernel
theorem dX12_readStatement_151 : decode cX12_readStatement 151 = .ok (.iconst 3, 1) := by decide +kernel
theorem dX12_readStatement_152 : decode cX12_readStatement 152 = .ok (.iadd, 1) := by decide +kernel
theorem dX12_readStatement_153 : decode cX12_readStatement 153 = .ok (.aload_n 0, 1) := by decide +kernel
theorem dX12_readStatement_154 : decode cX12_readStatement 154 = .ok (.invokevirtual 186, 3) := by decide +kernel
theorem dX12_readStatement_157 : decode cX12_readStatement 157 = .ok (.iastore, 1) := by decide +kernel
theorem dX12_readStatement_158 : decode cX12_readStatement 158 = .ok (.iload_n 2, 1) := by decide +kernel
theorem dX12_readStatement_159 : decode cX12_readStatement 159 = .ok (.bipush 114, 2) := by decide +kernel
theorem dX12_readStatement_161 : decode cX12_readStatement 161 = .ok (.if_icmp .ne 53, 3) := by decide +kernel
theorem dX12_readStatement_164 : decode cX12_readStatement 164 = .ok (.aload_n 0, 1) := by decide +kernel
theorem dX12_readStatement_165 : decode cX12_readStatement 165 = .ok (.getfield 83, 3) := by decide +kernel
theorem dX12_readStatement_168 : decode cX12_readStatement 168 = .ok (.bipush 7, 2) := by decide +kernel
theorem dX12_readStatement_170 : decode cX12_readStatement 170 = .ok (.iload_n 1, 1) := by decide +kernel
theorem dX12_readStatement_171 : decode cX12_readStatement 171 = .ok (.imul, 1) := by decide +kernel
theorem dX12_readStatement_172 : decode cX12_readStatement 172 = .ok (.iaload, 1) := by decide +kernel
theorem dX12_readStatement_173 : decode cX12_readStatement 173 = .ok (.i2l, 1) := by decide +kernel
theorem dX12_readStatement_174 : decode cX12_readStatement 174 = .ok (.ldc2_w 189, 3) := by decide +kernel
theorem dX12_readStatement_177 : decode cX12_readStatement 177 = .ok (.ldc2_w 191, 3) := by decide +kernel
theorem dX12_readStatement_180 : decode cX12_readStatement 180 = .ok (.invokestatic 108, 3) := by decide +kernel
theorem dX12_readStatement_183 : decode cX12_readStatement 183 = .ok (.ifCond .eq 31, 3) := by decide +kernel
theorem dX12_readStatement_186 : decode cX12_readStatement 186 = .ok (.aload_n 0, 1) := by decide +kernel
theorem dX12_readStatement_187 : decode cX12_readStatement 187 = .ok (.getfield 83, 3) := by decide +kernel
theorem dX12_readStatement_190 : decode cX12_readStatement 190 = .ok (.bipush 7, 2) := by decide +kernel
theorem dX12_readStatement_192 : decode cX12_readStatement 192 = .ok (.iload_n 1, 1) := by decide +kernel
theorem dX12_readStatement_193 : decode cX12_readStatement 193 = .ok (.imul, 1) := by decide +kernel
theorem dX12_readStatement_194 : decode cX12_readStatement 194 = .ok (.iconst 1, 1) := by decide +kernel
theorem dX12_readStatement_195 : decode cX12_readStatement 195 = .ok (.iadd, 1) := by decide +kernel
theorem dX12_readStatement_196 : decode cX12_readStatement 196 = .ok (.iaload, 1) := by decide +kernel
theorem dX12_readStatement_197 : decode cX12_readStatement 197 = .ok (.i2l, 1) := by decide +kernel
theorem dX12_readStatement_198 : decode cX12_readStatement 198 = .ok (.ldc2_w 189, 3) := by decide +kernel
theorem dX12_readStatement_201 : decode cX12_readStatement 201 = .ok (.ldc2_w 193, 3) := by decide +kernel
theorem dX12_readStatement_204 : decode cX12_readStatement 204 = .ok (.invokestatic 108, 3) := by decide +kernel
theorem dX12_readStatement_207 : decode cX12_readStatement 207 = .ok (.ifCond .eq 7, 3) := by decide +kernel
theorem dX12_readStatement_210 : decode cX12_readStatement 210 = .ok (.iconst 1, 1) := by decide +kernel
theorem dX12_readStatement_211 : decode cX12_readStatement 211 = .ok (.goto 4, 3) := by decide +kernel
theorem dX12_readStatement_214 : decode cX12_readStatement 214 = .ok (.iconst 0, 1) := by decide +kernel
theorem dX12_readStatement_215 : decode cX12_readStatement 215 = .ok (.istore 4, 2) := by decide +kernel
theorem dX12_readStatement_217 : decode cX12_readStatement 217 = .ok (.aload_n 0, 1) := by decide +kernel
theorem dX12_readStatement_218 : decode cX12_readStatement 218 = .ok (.iload 4, 2) := by decide +kernel
theorem dX12_readStatement_220 : decode cX12_readStatement 220 = .ok (.ifCond .eq 17, 3) := by decide +kernel
theorem dX12_readStatement_223 : decode cX12_readStatement 223 = .ok (.aload_n 0, 1) := by decide +kernel
theorem dX12_readStatement_224 : decode cX12_readStatement 224 = .ok (.getfield 83, 3) := by decide +kernel
theorem dX12_readStatement_227 : decode cX12_readStatement 227 = .ok (.bipush 7, 2) := by decide +kernel
theorem dX12_readStatement_229 : decode cX12_readStatement 229 = .ok (.iload_n 1, 1) := by decide +kernel
theorem dX12_readStatement_230 : decode cX12_readStatement 230 = .ok (.imul, 1) := by decide +kernel
theorem dX12_readStatement_231 : decode cX12_readStatement 231 = .ok (.iconst 1, 1) := by decide +kernel
theorem dX12_readStatement_232 : decode cX12_readStatement 232 = .ok (.iadd, 1) := by decide +kernel
theorem dX12_readStatement_233 : decode cX12_readStatement 233 = .ok (.iaload, 1) := by decide +kernel
theorem dX12_readStatement_234 : decode cX12_readStatement 234 = .ok (.goto 7, 3) := by decide +kernel
theorem dX12_readStatement_237 : decode cX12_readStatement 237 = .ok (.aload_n 0, 1) := by decide +kernel
theorem dX12_readStatement_238 : decode cX12_readStatement 238 = .ok (.getfield 174, 3) := by decide +kernel
theorem dX12_readStatement_241 : decode cX12_readStatement 241 = .ok (.putfield 174, 3) := by decide +kernel
theorem dX12_readStatement_244 : decode cX12_readStatement 244 = .ok (.aload_n 0, 1) := by decide +kernel
theorem dX12_readStatement_245 : decode cX12_readStatement 245 = .ok (.aload_n 0, 1) := by decide +kernel
theorem dX12_readStatement_246 : decode cX12_readStatement 246 = .ok (.getfield 163, 3) := by decide +kernel
theorem dX12_readStatement_249 : decode cX12_readStatement 249 = .ok (.ifCond .ne 12, 3) := by decide +kernel
theorem dX12_readStatement_252 : decode cX12_readStatement 252 = .ok (.aload_n 0, 1) := by decide +kernel
theorem dX12_readStatement_253 : decode cX12_readStatement 253 = .ok (.invokevirtual 167, 3) := by decide +kernel
theorem dX12_readStatement_256 : decode cX12_readStatement 256 = .ok (.bipush 59, 2) := by decide +kernel
theorem dX12_readStatement_258 : decode cX12_readStatement 258 = .ok (.if_icmp .eq 7, 3) := by decide +kernel
theorem dX12_readStatement_261 : decode cX12_readStatement 261 = .ok (.iconst 1, 1) := by decide +kernel
theorem dX12_readStatement_262 : decode cX12_readStatement 262 = .ok (.goto 4, 3) := by decide +kernel
theorem dX12_readStatement_265 : decode cX12_readStatement 265 = .ok (.iconst 0, 1) := by decide +kernel
theorem dX12_readStatement_266 : decode cX12_readStatement 266 = .ok (.putfield 163, 3) := by decide +kernel
theorem dX12_readStatement_269 : decode cX12_readStatement 269 = .ok (.aload_n 0, 1) := by decide +kernel
theorem dX12_readStatement_270 : decode cX12_readStatement 270 = .ok (.dup, 1) := by decide +kernel
theorem dX12_readStatement_271 : decode cX12_readStatement 271 = .ok (.getfield 160, 3) := by decide +kernel
theorem dX12_readStatement_274 : decode cX12_readStatement 274 = .ok (.aload_n 0, 1) := by decide +kernel
theorem dX12_readStatement_275 : decode cX12_readStatement 275 = .ok (.getfield 163, 3) := by decide +kernel
theorem dX12_readStatement_278 : decode cX12_readStatement 278 = .ok (.ifCond .eq 7, 3) := by decide +kernel
theorem dX12_readStatement_281 : decode cX12_readStatement 281 = .ok (.iconst 0, 1) := by decide +kernel
theorem dX12_readStatement_282 : decode cX12_readStatement 282 = .ok (.goto 4, 3) := by decide +kernel
theorem dX12_readStatement_285 : decode cX12_readStatement 285 = .ok (.iconst 1, 1) := by decide +kernel
theorem dX12_readStatement_286 : decode cX12_readStatement 286 = .ok (.iadd, 1) := by decide +kernel
theorem dX12_readStatement_287 : decode cX12_readStatement 287 = .ok (.putfield 160, 3) := by decide +kernel
theorem dX12_readStatement_290 : decode cX12_readStatement 290 = .ok (.aload_n 0, 1) := by decide +kernel
theorem dX12_readStatement_291 : decode cX12_readStatement 291 = .ok (.dup, 1) := by decide +kernel
theorem dX12_readStatement_292 : decode cX12_readStatement 292 = .ok (.getfield 177, 3) := by decide +kernel
theorem dX12_readStatement_295 : decode cX12_readStatement 295 = .ok (.iconst 1, 1) := by decide +kernel
theorem dX12_readStatement_296 : decode cX12_readStatement 296 = .ok (.iadd, 1) := by decide +kernel
theorem dX12_readStatement_297 : decode cX12_readStatement 297 = .ok (.putfield 177, 3) := by decide +kernel
theorem dX12_readStatement_300 : decode cX12_readStatement 300 = .ok (.return_, 1) := by decide +kernel
abbrev Pl_M_readStatement_109 (G : am_G) : ((Int32 × Int32 × Int32 × Int32 × am_St) ⊕ (am_St)) → am_AQ → Prop := am_PL G M_M_readStatement 109 (fun s : Int32 × Int32 × Int32 × Int32 × am_St => [(4, .int s.2.2.2.1), (3, .int s.2.2.1), (2, .int s.2.1), (1, .int s.1), (0, .ref 66)]) (fun s => s.2.2.2.2) am_Pv
noncomputable def g_M_readStatement_286 (y1 : Int32) (y2 : Int32) (σ : am_St) : Option (am_St) :=
  let s1 := am_sI σ 66 29 (y1 + y2)
  let s2 := am_sI s1 66 32 ((s1.1 66 32) + 1)
  some (s2)
noncomputable def f_M_readStatement_286 (y1 : Int32) (y2 : Int32) (σ : am_St) : Option (am_St) := am_lk (g_M_readStatement_286 y1 y2 σ)
theorem eq_M_readStatement_286 (y1 : Int32) (y2 : Int32) (σ : am_St) : f_M_readStatement_286 y1 y2 σ = g_M_readStatement_286 y1 y2 σ := am_lk_eq _
set_option maxRecDepth 100000 in
set_option maxHeartbeats 4000000 in
theorem s_M_readStatement_286 (G : am_G) (y1 : Int32) (y2 : Int32) (σ : am_St) (r : am_St) (Q : am_AQ) (e : f_M_readStatement_286 y1 y2 σ = some r) (hr : am_Pv r Q) : am_AW G M_M_readStatement 286 [(0, .ref 66)] [.int y2, .int y1, .ref 66] σ Q :=
  (show am_Snd G M_M_readStatement 286 am_Pv _ from (sn_iadd (pc := 286) dX12_readStatement_286 (sn_pI (pc := 287) (h := 66) (f := 29) dX12_readStatement_287 am_CL_11 sh_66 rfl (Nat.le_of_ble_eq_true rfl) tw_970 rfl rfl (sn_aload_n (pc := 290) (i := 0) dX12_readStatement_290 rfl (sn_dup (pc := 291) dX12_readStatement_291 (sn_gI (pc := 292) (h := 66) (f := 32) dX12_readStatement_292 am_CL_11 sh_66 rfl (Nat.le_of_ble_eq_true rfl) tw_973 (sn_iconst (pc := 295) (v := 1) dX12_readStatement_295 rfl (sn_iadd (pc := 296) dX12_readStatement_296 (sn_pI (pc := 297) (h := 66) (f := 32) dX12_readStatement_297 am_CL_11 sh_66 rfl (Nat.le_of_ble_eq_true rfl) tw_973 rfl rfl (sn_retv (pc := 300) (R := fun τ => (some (τ))) dX12_readStatement_300 rfl (fun _ _ _ e h => by cases e; exact h))))))))))) _ _ _ _ _ ((eq_M_readStatement_286 y1 y2 σ).symm.trans e) hr
noncomputable def g_M_readStatement_266 (y1 : Int32) (σ : am_St) : Option (am_St) :=
  if y1 &&& 1 = y1 then
    let s1 := am_sI σ 66 30 y1
    if (s1.1 66 30) = 0 then
      f_M_readStatement_286 (s1.1 66 29) 1 s1
    else
      f_M_readStatement_286 (s1.1 66 29) 0 s1
  else none
noncomputable def f_M_readStatement_266 (y1 : Int32) (σ : am_St) : Option (am_St) := am_lk (g_M_readStatement_266 y1 σ)
theorem eq_M_readStatement_266 (y1 : Int32) (σ : am_St) : f_M_readStatement_266 y1 σ = g_M_readStatement_266 y1 σ := am_lk_eq _
set_option maxRecDepth 100000 in
set_option maxHeartbeats 4000000 in
theorem s_M_readStatement_266 (G : am_G) (y1 : Int32) (σ : am_St) (r : am_St) (Q : am_AQ) (e : f_M_readStatement_266 y1 σ = some r) (hr : am_Pv r Q) : am_AW G M_M_readStatement 266 [(0, .ref 66)] [.int y1, .ref 66] σ Q :=
  (show am_Snd G M_M_readStatement 266 am_Pv _ from (sn_pZ (pc := 266) (h := 66) (f := 30) dX12_readStatement_266 am_CL_11 sh_66 rfl (Nat.le_of_ble_eq_true rfl) tw_971 rfl rfl (sn_aload_n (pc := 269) (i := 0) dX12_readStatement_269 rfl (sn_dup (pc := 270) dX12_readStatement_270 (sn_gI (pc := 271) (h := 66) (f := 29) dX12_readStatement_271 am_CL_11 sh_66 rfl (Nat.le_of_ble_eq_true rfl) tw_970 (sn_aload_n (pc := 274) (i := 0) dX12_readStatement_274 rfl (sn_gI (pc := 275) (h := 66) (f := 30) dX12_readStatement_275 am_CL_11 sh_66 rfl (Nat.le_of_ble_eq_true rfl) tw_971 (sn_if_eq (pc := 278) (tgt := 285) dX12_readStatement_278 rfl (sn_iconst (pc := 285) (v := 1) dX12_readStatement_285 rfl (sn_lf (pc := 286) (ln_a (i := 0) (q := 66) (ln_si (fun w2 => (ln_si (fun w1 => (ln_sa (q := 66) (ln_end (o := fun τ => f_M_readStatement_286 w1 w2 τ) (fun _ _ _ e h => s_M_readStatement_286 G w1 w2 _ _ _ e h)))))))))) (sn_iconst (pc := 281) (v := 0) dX12_readStatement_281 rfl (sn_goto (pc := 282) (tgt := 286) dX12_readStatement_282 rfl (sn_lf (pc := 286) (ln_a (i := 0) (q := 66) (ln_si (fun w2 => (ln_si (fun w1 => (ln_sa (q := 66) (ln_end (o := fun τ => f_M_readStatement_286 w1 w2 τ) (fun _ _ _ e h => s_M_readStatement_286 G w1 w2 _ _ _ e h))))))))))))))))))) _ _ _ _ _ ((eq_M_readStatement_266 y1 σ).symm.trans e) hr
noncomputable def g_M_readStatement_261 (σ : am_St) : Option (am_St) :=
  f_M_readStatement_266 1 σ
noncomputable def f_M_readStatement_261 (σ : am_St) : Option (am_St) := am_lk (g_M_readStatement_261  σ)
theorem eq_M_readStatement_261 (σ : am_St) : f_M_readStatement_261  σ = g_M_readStatement_261  σ := am_lk_eq _
set_option maxRecDepth 100000 in
set_option maxHeartbeats 4000000 in
theorem s_M_readStatement_261 (G : am_G) (σ : am_St) (r : am_St) (Q : am_AQ) (e : f_M_readStatement_261  σ = some r) (hr : am_Pv r Q) : am_AW G M_M_readStatement 261 [(0, .ref 66)] [.ref 66] σ Q :=
  (show am_Snd G M_M_readStatement 261 am_Pv _ from (sn_iconst (pc := 261) (v := 1) dX12_readStatement_261 rfl (sn_goto (pc := 262) (tgt := 266) dX12_readStatement_262 rfl (sn_lf (pc := 266) (ln_a (i := 0) (q := 66) (ln_si (fun w1 => (ln_sa (q := 66) (ln_end (o := fun τ => f_M_readStatement_266 w1 τ) (fun _ _ _ e h => s_M_readStatement_266 G w1 _ _ _ e h)))))))))) _ _ _ _ _ ((eq_M_readStatement_261  σ).symm.trans e) hr
noncomputable def g_M_readStatement_241 (y1 : Int32) (σ : am_St) : Option (am_St) :=
  let s1 := am_sI σ 66 31 y1
  if (s1.1 66 30) = 0 then
    (f_M_here s1).bind (fun p2 =>
      if p2.1 = 59 then
        f_M_readStatement_266 0 p2.2
      else
        f_M_readStatement_261 p2.2)
  else
    f_M_readStatement_261 s1
noncomputable def f_M_readStatement_241 (y1 : Int32) (σ : am_St) : Option (am_St) := am_lk (g_M_readStatement_241 y1 σ)
theorem eq_M_readStatement_241 (y1 : Int32) (σ : am_St) : f_M_readStatement_241 y1 σ = g_M_readStatement_241 y1 σ := am_lk_eq _
set_option maxRecDepth 100000 in
set_option maxHeartbeats 4000000 in
theorem s_M_readStatement_241 (G : am_G) (y1 : Int32) (σ : am_St) (r : am_St) (Q : am_AQ) (e : f_M_readStatement_241 y1 σ = some r) (hr : am_Pv r Q) : am_AW G M_M_readStatement 241 [(0, .ref 66)] [.int y1, .ref 66] σ Q :=
  (show am_Snd G M_M_readStatement 241 am_Pv _ from (sn_pI (pc := 241) (h := 66) (f := 31) dX12_readStatement_241 am_CL_11 sh_66 rfl (Nat.le_of_ble_eq_true rfl) tw_972 rfl rfl (sn_aload_n (pc := 244) (i := 0) dX12_readStatement_244 rfl (sn_aload_n (pc := 245) (i := 0) dX12_readStatement_245 rfl (sn_gI (pc := 246) (h := 66) (f := 30) dX12_readStatement_246 am_CL_11 sh_66 rfl (Nat.le_of_ble_eq_true rfl) tw_971 (sn_if_ne (pc := 249) (tgt := 261) dX12_readStatement_249 rfl (sn_lf (pc := 261) (ln_a (i := 0) (q := 66) (ln_sa (q := 66) (ln_end (o := fun τ => f_M_readStatement_261 τ) (fun _ _ _ e h => s_M_readStatement_261 G  _ _ _ e h))))) (sn_aload_n (pc := 252) (i := 0) dX12_readStatement_252 rfl (sn_callV (pc := 253) (N := M_M_here) dX12_readStatement_253 (cal_M_here G) sh_66 rfl tw_1102 tw_1104 tp_25 tw_12 tw_1105 dsc_X12_here rfl (sn_bipush (pc := 256) (v := 59) dX12_readStatement_256 rfl (sn_icmp_eq (pc := 258) (tgt := 265) dX12_readStatement_258 rfl (sn_iconst (pc := 265) (v := 0) dX12_readStatement_265 rfl (sn_lf (pc := 266) (ln_a (i := 0) (q := 66) (ln_si (fun w1 => (ln_sa (q := 66) (ln_end (o := fun τ => f_M_readStatement_266 w1 τ) (fun _ _ _ e h => s_M_readStatement_266 G w1 _ _ _ e h)))))))) (sn_lf (pc := 261) (ln_a (i := 0) (q := 66) (ln_sa (q := 66) (ln_end (o := fun τ => f_M_readStatement_261 τ) (fun _ _ _ e h => s_M_readStatement_261 G  _ _ _ e h))))))))))))))) _ _ _ _ _ ((eq_M_readStatement_241 y1 σ).symm.trans e) hr
noncomputable def g_M_readStatement_215 (x1 : Int32) (y0 : Int32) (σ : am_St) : Option (am_St) :=
  if y0 = 0 then
    f_M_readStatement_241 (σ.1 66 31) σ
  else
    if am_ix ((7 * x1) + 1) 231 = true then
      f_M_readStatement_241 (σ.1 89 ((7 * x1) + 1).toNatClampNeg) σ
    else none
noncomputable def f_M_readStatement_215 (x1 : Int32) (y0 : Int32) (σ : am_St) : Option (am_St) := am_lk (g_M_readStatement_215 x1 y0 σ)
theorem eq_M_readStatement_215 (x1 : Int32) (y0 : Int32) (σ : am_St) : f_M_readStatement_215 x1 y0 σ = g_M_readStatement_215 x1 y0 σ := am_lk_eq _
set_option maxRecDepth 100000 in
set_option maxHeartbeats 4000000 in
theorem s_M_readStatement_215 (G : am_G) (x1 : Int32) (y0 : Int32) (σ : am_St) (r : am_St) (Q : am_AQ) (e : f_M_readStatement_215 x1 y0 σ = some r) (hr : am_Pv r Q) : am_AW G M_M_readStatement 215 [(1, .int x1), (0, .ref 66)] [.int y0] σ Q :=
  (show am_Snd G M_M_readStatement 215 am_Pv _ from (sn_istore (pc := 215) dX12_readStatement_215 (Nat.le_of_ble_eq_true rfl) (sn_aload_n (pc := 217) (i := 0) dX12_readStatement_217 rfl (sn_iload (pc := 218) dX12_readStatement_218 (sn_if_eq (pc := 220) (tgt := 237) dX12_readStatement_220 rfl (sn_aload_n (pc := 237) (i := 0) dX12_readStatement_237 rfl (sn_gI (pc := 238) (h := 66) (f := 31) dX12_readStatement_238 am_CL_11 sh_66 rfl (Nat.le_of_ble_eq_true rfl) tw_972 (sn_lf (pc := 241) (ln_a (i := 0) (q := 66) (ln_si (fun w1 => (ln_sa (q := 66) (ln_end (o := fun τ => f_M_readStatement_241 w1 τ) (fun _ _ _ e h => s_M_readStatement_241 G w1 _ _ _ e h))))))))) (sn_aload_n (pc := 223) (i := 0) dX12_readStatement_223 rfl (sn_gR (r0 := 89) (pc := 224) (h := 66) (f := 35) dX12_readStatement_224 am_CL_11 sh_66 rfl (Nat.le_of_ble_eq_true rfl) tw_976 (sn_bipush (pc := 227) (v := 7) dX12_readStatement_227 rfl (sn_iload_n (pc := 229) (i := 1) dX12_readStatement_229 rfl (sn_imul (pc := 230) dX12_readStatement_230 (sn_iconst (pc := 231) (v := 1) dX12_readStatement_231 rfl (sn_iadd (pc := 232) dX12_readStatement_232 (sn_aI (pc := 233) (h := 89) dX12_readStatement_233 sh_89 (sn_goto (pc := 234) (tgt := 241) dX12_readStatement_234 rfl (sn_lf (pc := 241) (ln_a (i := 0) (q := 66) (ln_si (fun w1 => (ln_sa (q := 66) (ln_end (o := fun τ => f_M_readStatement_241 w1 τ) (fun _ _ _ e h => s_M_readStatement_241 G w1 _ _ _ e h))))))))))))))))))))) _ _ _ _ _ ((eq_M_readStatement_215 x1 y0 σ).symm.trans e) hr
noncomputable def g_M_readStatement_210 (x1 : Int32) (σ : am_St) : Option (am_St) :=
  f_M_readStatement_215 x1 1 σ
noncomputable def f_M_readStatement_210 (x1 : Int32) (σ : am_St) : Option (am_St) := am_lk (g_M_readStatement_210 x1 σ)
theorem eq_M_readStatement_210 (x1 : Int32) (σ : am_St) : f_M_readStatement_210 x1 σ = g_M_readStatement_210 x1 σ := am_lk_eq _
set_option maxRecDepth 100000 in
set_option maxHeartbeats 4000000 in
theorem s_M_readStatement_210 (G : am_G) (x1 : Int32) (σ : am_St) (r : am_St) (Q : am_AQ) (e : f_M_readStatement_210 x1 σ = some r) (hr : am_Pv r Q) : am_AW G M_M_readStatement 210 [(1, .int x1), (0, .ref 66)] [] σ Q :=
  (show am_Snd G M_M_readStatement 210 am_Pv _ from (sn_iconst (pc := 210) (v := 1) dX12_readStatement_210 rfl (sn_goto (pc := 211) (tgt := 215) dX12_readStatement_211 rfl (sn_lf (pc := 215) (ln_a (i := 0) (q := 66) (ln_i (i := 1) (fun z0 => (ln_si (fun w0 => (ln_end (o := fun τ => f_M_readStatement_215 z0 w0 τ) (fun _ _ _ e h => s_M_readStatement_215 G z0 w0 _ _ _ e h))))))))))) _ _ _ _ _ ((eq_M_readStatement_210 x1 σ).symm.trans e) hr
noncomputable def g_M_readStatement_214 (x1 : Int32) (σ : am_St) : Option (am_St) :=
  f_M_readStatement_215 x1 0 σ
noncomputable def f_M_readStatement_214 (x1 : Int32) (σ : am_St) : Option (am_St) := am_lk (g_M_readStatement_214 x1 σ)
theorem eq_M_readStatement_214 (x1 : Int32) (σ : am_St) : f_M_readStatement_214 x1 σ = g_M_readStatement_214 x1 σ := am_lk_eq _
set_option maxRecDepth 100000 in
set_option maxHeartbeats 4000000 in
theorem s_M_readStatement_214 (G : am_G) (x1 : Int32) (σ : am_St) (r : am_St) (Q : am_AQ) (e : f_M_readStatement_214 x1 σ = some r) (hr : am_Pv r Q) : am_AW G M_M_readStatement 214 [(1, .int x1), (0, .ref 66)] [] σ Q :=
  (show am_Snd G M_M_readStatement 214 am_Pv _ from (sn_iconst (pc := 214) (v := 0) dX12_readStatement_214 rfl (sn_lf (pc := 215) (ln_a (i := 0) (q := 66) (ln_i (i := 1) (fun z0 => (ln_si (fun w0 => (ln_end (o := fun τ => f_M_readStatement_215 z0 w0 τ) (fun _ _ _ e h => s_M_readStatement_215 G z0 w0 _ _ _ e h)))))))))) _ _ _ _ _ ((eq_M_readStatement_214 x1 σ).symm.trans e) hr
noncomputable def g_M_readStatement_158 (x1 : Int32) (x2 : Int32) (σ : am_St) : Option (am_St) :=
  if x2 = 114 then
    if am_ix (7 * x1) 231 = true then
      (f_M_in ((σ.1 89 (7 * x1).toNatClampNeg).toInt64) 2 4 σ).bind (fun p1 =>
        if p1.1 = 0 then
          f_M_readStatement_214 x1 p1.2
        else
          if am_ix ((7 * x1) + 1) 231 = true then
            (f_M_in ((p1.2.1 89 ((7 * x1) + 1).toNatClampNeg).toInt64) 2 6 p1.2).bind (fun p2 =>
              if p2.1 = 0 then
                f_M_readStatement_214 x1 p2.2
              else
                f_M_readStatement_210 x1 p2.2)
          else none)
    else none
  else
    f_M_readStatement_214 x1 σ
noncomputable def f_M_readStatement_158 (x1 : Int32) (x2 : Int32) (σ : am_St) : Option (am_St) := am_lk (g_M_readStatement_158 x1 x2 σ)
theorem eq_M_readStatement_158 (x1 : Int32) (x2 : Int32) (σ : am_St) : f_M_readStatement_158 x1 x2 σ = g_M_readStatement_158 x1 x2 σ := am_lk_eq _
set_option maxRecDepth 100000 in
set_option maxHeartbeats 4000000 in
theorem s_M_readStatement_158 (G : am_G) (x1 : Int32) (x2 : Int32) (σ : am_St) (r : am_St) (Q : am_AQ) (e : f_M_readStatement_158 x1 x2 σ = some r) (hr : am_Pv r Q) : am_AW G M_M_readStatement 158 [(2, .int x2), (1, .int x1), (0, .ref 66)] [] σ Q :=
  (show am_Snd G M_M_readStatement 158 am_Pv _ from (sn_iload_n (pc := 158) (i := 2) dX12_readStatement_158 rfl (sn_bipush (pc := 159) (v := 114) dX12_readStatement_159 rfl (sn_icmp_ne (pc := 161) (tgt := 214) dX12_readStatement_161 rfl (sn_lf (pc := 214) (ln_a (i := 0) (q := 66) (ln_i (i := 1) (fun z0 => (ln_end (o := fun τ => f_M_readStatement_214 z0 τ) (fun _ _ _ e h => s_M_readStatement_214 G z0 _ _ _ e h)))))) (sn_aload_n (pc := 164) (i := 0) dX12_readStatement_164 rfl (sn_gR (r0 := 89) (pc := 165) (h := 66) (f := 35) dX12_readStatement_165 am_CL_11 sh_66 rfl (Nat.le_of_ble_eq_true rfl) tw_976 (sn_bipush (pc := 168) (v := 7) dX12_readStatement_168 rfl (sn_iload_n (pc := 170) (i := 1) dX12_readStatement_170 rfl (sn_imul (pc := 171) dX12_readStatement_171 (sn_aI (pc := 172) (h := 89) dX12_readStatement_172 sh_89 (sn_i2l (pc := 173) dX12_readStatement_173 (sn_ldc2 (pc := 174) dX12_readStatement_174 tw_1123 (sn_ldc2 (pc := 177) dX12_readStatement_177 tw_1124 (sn_callS (pc := 180) (N := M_M_in) dX12_readStatement_180 (cal_M_in G) tw_1116 tw_1117 tw_12 tw_1118 dsc_X12_in rfl (sn_if_eq (pc := 183) (tgt := 214) dX12_readStatement_183 rfl (sn_lf (pc := 214) (ln_a (i := 0) (q := 66) (ln_i (i := 1) (fun z0 => (ln_end (o := fun τ => f_M_readStatement_214 z0 τ) (fun _ _ _ e h => s_M_readStatement_214 G z0 _ _ _ e h)))))) (sn_aload_n (pc := 186) (i := 0) dX12_readStatement_186 rfl (sn_gR (r0 := 89) (pc := 187) (h := 66) (f := 35) dX12_readStatement_187 am_CL_11 sh_66 rfl (Nat.le_of_ble_eq_true rfl) tw_976 (sn_bipush (pc := 190) (v := 7) dX12_readStatement_190 rfl (sn_iload_n (pc := 192) (i := 1) dX12_readStatement_192 rfl (sn_imul (pc := 193) dX12_readStatement_193 (sn_iconst (pc := 194) (v := 1) dX12_readStatement_194 rfl (sn_iadd (pc := 195) dX12_readStatement_195 (sn_aI (pc := 196) (h := 89) dX12_readStatement_196 sh_89 (sn_i2l (pc := 197) dX12_readStatement_197 (sn_ldc2 (pc := 198) dX12_readStatement_198 tw_1123 (sn_ldc2 (pc := 201) dX12_readStatement_201 tw_1125 (sn_callS (pc := 204) (N := M_M_in) dX12_readStatement_204 (cal_M_in G) tw_1116 tw_1117 tw_12 tw_1118 dsc_X12_in rfl (sn_if_eq (pc := 207) (tgt := 214) dX12_readStatement_207 rfl (sn_lf (pc := 214) (ln_a (i := 0) (q := 66) (ln_i (i := 1) (fun z0 => (ln_end (o := fun τ => f_M_readStatement_214 z0 τ) (fun _ _ _ e h => s_M_readStatement_214 G z0 _ _ _ e h)))))) (sn_lf (pc := 210) (ln_a (i := 0) (q := 66) (ln_i (i := 1) (fun z0 => (ln_end (o := fun τ => f_M_readStatement_210 z0 τ) (fun _ _ _ e h => s_M_readStatement_210 G z0 _ _ _ e h)))))))))))))))))))))))))))))))))) _ _ _ _ _ ((eq_M_readStatement_158 x1 x2 σ).symm.trans e) hr
noncomputable def b_M_readStatement_109 (x1 : Int32) (x2 : Int32) (x3 : Int32) (x4 : Int32) (σ : am_St) : Option ((Int32 × Int32 × Int32 × Int32 × am_St) ⊕ (am_St)) :=
  if x3 ≤ x4 then
    if x2 = 102 then
      (f_M_readSign σ).bind (fun p1 =>
        if am_ix ((7 * x1) + 3) 231 = true then
          let s2 := am_sI p1.2 89 ((7 * x1) + 3).toNatClampNeg p1.1
          (f_M_readStatement_158 x1 x2 s2).map (fun r => .inr r)
        else none)
    else
      (f_M_readStatement_158 x1 x2 σ).map (fun r => .inr r)
  else
    (f_M_readDigit σ).bind (fun p3 =>
      if am_ix ((7 * x1) + x4) 231 = true then
        let s4 := am_sI p3.2 89 ((7 * x1) + x4).toNatClampNeg p3.1
        let v5 := x4 + 1
        some (.inl (x1, x2, x3, v5, s4))
      else none)
noncomputable def f_M_readStatement_109 (x1 : Int32) (x2 : Int32) (x3 : Int32) (x4 : Int32) (σ : am_St) : Option (am_St) := am_lp (fun s : Int32 × Int32 × Int32 × Int32 × am_St => b_M_readStatement_109 s.1 s.2.1 s.2.2.1 s.2.2.2.1 s.2.2.2.2) (x1, x2, x3, x4, σ)
set_option maxRecDepth 100000 in
set_option maxHeartbeats 4000000 in
theorem sb_M_readStatement_109 (G : am_G) (x1 : Int32) (x2 : Int32) (x3 : Int32) (x4 : Int32) (σ : am_St) (r : (Int32 × Int32 × Int32 × Int32 × am_St) ⊕ (am_St)) (Q : am_AQ) (e : b_M_readStatement_109 x1 x2 x3 x4 σ = some r) (hr : Pl_M_readStatement_109 G r Q) : am_AW G M_M_readStatement 109 [(4, .int x4), (3, .int x3), (2, .int x2), (1, .int x1), (0, .ref 66)] [] σ Q :=
  (show am_Snd G M_M_readStatement 109 (Pl_M_readStatement_109 G) _ from (sn_iload (pc := 109) dX12_readStatement_109 (sn_iload_n (pc := 111) (i := 3) dX12_readStatement_111 rfl (sn_icmp_ge (pc := 112) (tgt := 137) dX12_readStatement_112 rfl (sn_iload_n (pc := 137) (i := 2) dX12_readStatement_137 rfl (sn_bipush (pc := 138) (v := 102) dX12_readStatement_138 rfl (sn_icmp_ne (pc := 140) (tgt := 158) dX12_readStatement_140 rfl (sn_lf (pc := 158) (ln_a (i := 0) (q := 66) (ln_i (i := 1) (fun z0 => (ln_i (i := 2) (fun z1 => (ln_end (o := fun τ => ((f_M_readStatement_158 z0 z1 τ).map (fun r => .inr r) : Option ((Int32 × Int32 × Int32 × Int32 × am_St) ⊕ (am_St)))) (fun _ _ _ e h => by obtain ⟨r9, e9, rfl⟩ := am_map_some e; exact s_M_readStatement_158 G z0 z1 _ _ _ e9 h)))))))) (sn_aload_n (pc := 143) (i := 0) dX12_readStatement_143 rfl (sn_gR (r0 := 89) (pc := 144) (h := 66) (f := 35) dX12_readStatement_144 am_CL_11 sh_66 rfl (Nat.le_of_ble_eq_true rfl) tw_976 (sn_bipush (pc := 147) (v := 7) dX12_readStatement_147 rfl (sn_iload_n (pc := 149) (i := 1) dX12_readStatement_149 rfl (sn_imul (pc := 150) dX12_readStatement_150 (sn_iconst (pc := 151) (v := 3) dX12_readStatement_151 rfl (sn_iadd (pc := 152) dX12_readStatement_152 (sn_aload_n (pc := 153) (i := 0) dX12_readStatement_153 rfl (sn_callV (pc := 154) (N := M_M_readSign) dX12_readStatement_154 (cal_M_readSign G) sh_66 rfl tw_1119 tw_1121 tp_28 tw_12 tw_1122 dsc_X12_readSign rfl (sn_sI (pc := 157) (h := 89) dX12_readStatement_157 sh_89 (sn_lf (pc := 158) (ln_a (i := 0) (q := 66) (ln_i (i := 1) (fun z0 => (ln_i (i := 2) (fun z1 => (ln_end (o := fun τ => ((f_M_readStatement_158 z0 z1 τ).map (fun r => .inr r) : Option ((Int32 × Int32 × Int32 × Int32 × am_St) ⊕ (am_St)))) (fun _ _ _ e h => by obtain ⟨r9, e9, rfl⟩ := am_map_some e; exact s_M_readStatement_158 G z0 z1 _ _ _ e9 h))))))))))))))))))))) (sn_aload_n (pc := 115) (i := 0) dX12_readStatement_115 rfl (sn_gR (r0 := 89) (pc := 116) (h := 66) (f := 35) dX12_readStatement_116 am_CL_11 sh_66 rfl (Nat.le_of_ble_eq_true rfl) tw_976 (sn_bipush (pc := 119) (v := 7) dX12_readStatement_119 rfl (sn_iload_n (pc := 121) (i := 1) dX12_readStatement_121 rfl (sn_imul (pc := 122) dX12_readStatement_122 (sn_iload (pc := 123) dX12_readStatement_123 (sn_iadd (pc := 125) dX12_readStatement_125 (sn_aload_n (pc := 126) (i := 0) dX12_readStatement_126 rfl (sn_callV (pc := 127) (N := M_M_readDigit) dX12_readStatement_127 (cal_M_readDigit G) sh_66 rfl tw_1110 tw_1112 tp_27 tw_12 tw_1113 dsc_X12_readDigit rfl (sn_sI (pc := 130) (h := 89) dX12_readStatement_130 sh_89 (sn_iinc (pc := 131) (v := 1) dX12_readStatement_131 rfl (Nat.le_of_ble_eq_true rfl) (sn_goto (pc := 134) (tgt := 109) dX12_readStatement_134 rfl (sn_lf (pc := 109) (ln_a (i := 0) (q := 66) (ln_i (i := 1) (fun z0 => (ln_i (i := 2) (fun z1 => (ln_i (i := 3) (fun z2 => (ln_i (i := 4) (fun z3 => (ln_end (o := fun τ => (some (.inl (z0, z1, z2, z3, τ)) : Option ((Int32 × Int32 × Int32 × Int32 × am_St) ⊕ (am_St)))) (fun _ _ _ e h => by cases e; exact h)))))))))))))))))))))))))))) _ _ _ _ _ e hr
theorem s_M_readStatement_109 (G : am_G) (x1 : Int32) (x2 : Int32) (x3 : Int32) (x4 : Int32) (σ : am_St) (r : am_St) (Q : am_AQ) (e : f_M_readStatement_109 x1 x2 x3 x4 σ = some r) (hr : am_Pv r Q) : am_AW G M_M_readStatement 109 [(4, .int x4), (3, .int x3), (2, .int x2), (1, .int x1), (0, .ref 66)] [] σ Q :=
  am_loop (P := am_Pv) (L := fun s : Int32 × Int32 × Int32 × Int32 × am_St => [(4, .int s.2.2.2.1), (3, .int s.2.2.1), (2, .int s.2.1), (1, .int s.1), (0, .ref 66)]) (g := fun s => s.2.2.2.2) (fun s o Q e hr => sb_M_readStatement_109 G s.1 s.2.1 s.2.2.1 s.2.2.2.1 s.2.2.2.2 o Q e hr) (x1, x2, x3, x4, σ) r Q e hr
noncomputable def g_M_readStatement_96 (x1 : Int32) (x2 : Int32) (y1 : Int32) (y2 : Int32) (σ : am_St) : Option (am_St) :=
  let s1 := am_sI σ 66 29 (y1 + y2)
  (f_M_digitsFor x2 s1).bind (fun p2 =>
    f_M_readStatement_109 x1 x2 p2.1 0 p2.2)
noncomputable def f_M_readStatement_96 (x1 : Int32) (x2 : Int32) (y1 : Int32) (y2 : Int32) (σ : am_St) : Option (am_St) := am_lk (g_M_readStatement_96 x1 x2 y1 y2 σ)
theorem eq_M_readStatement_96 (x1 : Int32) (x2 : Int32) (y1 : Int32) (y2 : Int32) (σ : am_St) : f_M_readStatement_96 x1 x2 y1 y2 σ = g_M_readStatement_96 x1 x2 y1 y2 σ := am_lk_eq _
set_option maxRecDepth 100000 in
set_option maxHeartbeats 4000000 in
theorem s_M_readStatement_96 (G : am_G) (x1 : Int32) (x2 : Int32) (y1 : Int32) (y2 : Int32) (σ : am_St) (r : am_St) (Q : am_AQ) (e : f_M_readStatement_96 x1 x2 y1 y2 σ = some r) (hr : am_Pv r Q) : am_AW G M_M_readStatement 96 [(2, .int x2), (1, .int x1), (0, .ref 66)] [.int y2, .int y1, .ref 66] σ Q :=
  (show am_Snd G M_M_readStatement 96 am_Pv _ from (sn_iadd (pc := 96) dX12_readStatement_96 (sn_pI (pc := 97) (h := 66) (f := 29) dX12_readStatement_97 am_CL_11 sh_66 rfl (Nat.le_of_ble_eq_true rfl) tw_970 rfl rfl (sn_aload_n (pc := 100) (i := 0) dX12_readStatement_100 rfl (sn_iload_n (pc := 101) (i := 2) dX12_readStatement_101 rfl (sn_callV (pc := 102) (N := M_M_digitsFor) dX12_readStatement_102 (cal_M_digitsFor G) sh_66 rfl tw_1106 tw_1108 tp_26 tw_12 tw_1109 dsc_X12_digitsFor rfl (sn_istore_n (pc := 105) (i := 3) dX12_readStatement_105 rfl (Nat.le_of_ble_eq_true rfl) (sn_iconst (pc := 106) (v := 0) dX12_readStatement_106 rfl (sn_istore (pc := 107) dX12_readStatement_107 (Nat.le_of_ble_eq_true rfl) (sn_lf (pc := 109) (ln_a (i := 0) (q := 66) (ln_i (i := 1) (fun z0 => (ln_i (i := 2) (fun z1 => (ln_i (i := 3) (fun z2 => (ln_i (i := 4) (fun z3 => (ln_end (o := fun τ => f_M_readStatement_109 z0 z1 z2 z3 τ) (fun _ _ _ e h => s_M_readStatement_109 G z0 z1 z2 z3 _ _ _ e h))))))))))))))))))))) _ _ _ _ _ ((eq_M_readStatement_96 x1 x2 y1 y2 σ).symm.trans e) hr
noncomputable def g_M_readStatement_76 (x1 : Int32) (x2 : Int32) (y1 : Int32) (σ : am_St) : Option (am_St) :=
  if y1 &&& 1 = y1 then
    let s1 := am_sI σ 66 30 y1
    if (s1.1 66 30) = 0 then
      f_M_readStatement_96 x1 x2 (s1.1 66 29) 1 s1
    else
      f_M_readStatement_96 x1 x2 (s1.1 66 29) 0 s1
  else none
noncomputable def f_M_readStatement_76 (x1 : Int32) (x2 : Int32) (y1 : Int32) (σ : am_St) : Option (am_St) := am_lk (g_M_readStatement_76 x1 x2 y1 σ)
theorem eq_M_readStatement_76 (x1 : Int32) (x2 : Int32) (y1 : Int32) (σ : am_St) : f_M_readStatement_76 x1 x2 y1 σ = g_M_readStatement_76 x1 x2 y1 σ := am_lk_eq _
set_option maxRecDepth 100000 in
set_option maxHeartbeats 4000000 in
theorem s_M_readStatement_76 (G : am_G) (x1 : Int32) (x2 : Int32) (y1 : Int32) (σ : am_St) (r : am_St) (Q : am_AQ) (e : f_M_readStatement_76 x1 x2 y1 σ = some r) (hr : am_Pv r Q) : am_AW G M_M_readStatement 76 [(2, .int x2), (1, .int x1), (0, .ref 66)] [.int y1, .ref 66] σ Q :=
  (show am_Snd G M_M_readStatement 76 am_Pv _ from (sn_pZ (pc := 76) (h := 66) (f := 30) dX12_readStatement_76 am_CL_11 sh_66 rfl (Nat.le_of_ble_eq_true rfl) tw_971 rfl rfl (sn_aload_n (pc := 79) (i := 0) dX12_readStatement_79 rfl (sn_dup (pc := 80) dX12_readStatement_80 (sn_gI (pc := 81) (h := 66) (f := 29) dX12_readStatement_81 am_CL_11 sh_66 rfl (Nat.le_of_ble_eq_true rfl) tw_970 (sn_aload_n (pc := 84) (i := 0) dX12_readStatement_84 rfl (sn_gI (pc := 85) (h := 66) (f := 30) dX12_readStatement_85 am_CL_11 sh_66 rfl (Nat.le_of_ble_eq_true rfl) tw_971 (sn_if_eq (pc := 88) (tgt := 95) dX12_readStatement_88 rfl (sn_iconst (pc := 95) (v := 1) dX12_readStatement_95 rfl (sn_lf (pc := 96) (ln_a (i := 0) (q := 66) (ln_i (i := 1) (fun z0 => (ln_i (i := 2) (fun z1 => (ln_si (fun w2 => (ln_si (fun w1 => (ln_sa (q := 66) (ln_end (o := fun τ => f_M_readStatement_96 z0 z1 w1 w2 τ) (fun _ _ _ e h => s_M_readStatement_96 G z0 z1 w1 w2 _ _ _ e h)))))))))))))) (sn_iconst (pc := 91) (v := 0) dX12_readStatement_91 rfl (sn_goto (pc := 92) (tgt := 96) dX12_readStatement_92 rfl (sn_lf (pc := 96) (ln_a (i := 0) (q := 66) (ln_i (i := 1) (fun z0 => (ln_i (i := 2) (fun z1 => (ln_si (fun w2 => (ln_si (fun w1 => (ln_sa (q := 66) (ln_end (o := fun τ => f_M_readStatement_96 z0 z1 w1 w2 τ) (fun _ _ _ e h => s_M_readStatement_96 G z0 z1 w1 w2 _ _ _ e h))))))))))))))))))))))) _ _ _ _ _ ((eq_M_readStatement_76 x1 x2 y1 σ).symm.trans e) hr
noncomputable def g_M_readStatement_71 (x1 : Int32) (x2 : Int32) (σ : am_St) : Option (am_St) :=
  f_M_readStatement_76 x1 x2 1 σ
noncomputable def f_M_readStatement_71 (x1 : Int32) (x2 : Int32) (σ : am_St) : Option (am_St) := am_lk (g_M_readStatement_71 x1 x2 σ)
theorem eq_M_readStatement_71 (x1 : Int32) (x2 : Int32) (σ : am_St) : f_M_readStatement_71 x1 x2 σ = g_M_readStatement_71 x1 x2 σ := am_lk_eq _
set_option maxRecDepth 100000 in
set_option maxHeartbeats 4000000 in
theorem s_M_readStatement_71 (G : am_G) (x1 : Int32) (x2 : Int32) (σ : am_St) (r : am_St) (Q : am_AQ) (e : f_M_readStatement_71 x1 x2 σ = some r) (hr : am_Pv r Q) : am_AW G M_M_readStatement 71 [(2, .int x2), (1, .int x1), (0, .ref 66)] [.ref 66] σ Q :=
  (show am_Snd G M_M_readStatement 71 am_Pv _ from (sn_iconst (pc := 71) (v := 1) dX12_readStatement_71 rfl (sn_goto (pc := 72) (tgt := 76) dX12_readStatement_72 rfl (sn_lf (pc := 76) (ln_a (i := 0) (q := 66) (ln_i (i := 1) (fun z0 => (ln_i (i := 2) (fun z1 => (ln_si (fun w1 => (ln_sa (q := 66) (ln_end (o := fun τ => f_M_readStatement_76 z0 z1 w1 τ) (fun _ _ _ e h => s_M_readStatement_76 G z0 z1 w1 _ _ _ e h)))))))))))))) _ _ _ _ _ ((eq_M_readStatement_71 x1 x2 σ).symm.trans e) hr
noncomputable def g_M_readStatement_75 (x1 : Int32) (x2 : Int32) (σ : am_St) : Option (am_St) :=
  f_M_readStatement_76 x1 x2 0 σ
noncomputable def f_M_readStatement_75 (x1 : Int32) (x2 : Int32) (σ : am_St) : Option (am_St) := am_lk (g_M_readStatement_75 x1 x2 σ)
theorem eq_M_readStatement_75 (x1 : Int32) (x2 : Int32) (σ : am_St) : f_M_readStatement_75 x1 x2 σ = g_M_readStatement_75 x1 x2 σ := am_lk_eq _
set_option maxRecDepth 100000 in
set_option maxHeartbeats 4000000 in
theorem s_M_readStatement_75 (G : am_G) (x1 : Int32) (x2 : Int32) (σ : am_St) (r : am_St) (Q : am_AQ) (e : f_M_readStatement_75 x1 x2 σ = some r) (hr : am_Pv r Q) : am_AW G M_M_readStatement 75 [(2, .int x2), (1, .int x1), (0, .ref 66)] [.ref 66] σ Q :=
  (show am_Snd G M_M_readStatement 75 am_Pv _ from (sn_iconst (pc := 75) (v := 0) dX12_readStatement_75 rfl (sn_lf (pc := 76) (ln_a (i := 0) (q := 66) (ln_i (i := 1) (fun z0 => (ln_i (i := 2) (fun z1 => (ln_si (fun w1 => (ln_sa (q := 66) (ln_end (o := fun τ => f_M_readStatement_76 z0 z1 w1 τ) (fun _ _ _ e h => s_M_readStatement_76 G z0 z1 w1 _ _ _ e h))))))))))))) _ _ _ _ _ ((eq_M_readStatement_75 x1 x2 σ).symm.trans e) hr
noncomputable def g_M_readStatement_27 (x1 : Int32) (x2 : Int32) (σ : am_St) : Option (am_St) :=
  if (σ.1 66 30) = 0 then
    if x2 = 114 then
      f_M_readStatement_75 x1 x2 σ
    else
      if x2 = 100 then
        f_M_readStatement_75 x1 x2 σ
      else
        if x2 = 99 then
          f_M_readStatement_75 x1 x2 σ
        else
          if x2 = 116 then
            f_M_readStatement_75 x1 x2 σ
          else
            if x2 = 98 then
              f_M_readStatement_75 x1 x2 σ
            else
              if x2 = 102 then
                f_M_readStatement_75 x1 x2 σ
              else
                f_M_readStatement_71 x1 x2 σ
  else
    f_M_readStatement_71 x1 x2 σ
noncomputable def f_M_readStatement_27 (x1 : Int32) (x2 : Int32) (σ : am_St) : Option (am_St) := am_lk (g_M_readStatement_27 x1 x2 σ)
theorem eq_M_readStatement_27 (x1 : Int32) (x2 : Int32) (σ : am_St) : f_M_readStatement_27 x1 x2 σ = g_M_readStatement_27 x1 x2 σ := am_lk_eq _
set_option maxRecDepth 100000 in
set_option maxHeartbeats 4000000 in
theorem s_M_readStatement_27 (G : am_G) (x1 : Int32) (x2 : Int32) (σ : am_St) (r : am_St) (Q : am_AQ) (e : f_M_readStatement_27 x1 x2 σ = some r) (hr : am_Pv r Q) : am_AW G M_M_readStatement 27 [(2, .int x2), (1, .int x1), (0, .ref 66)] [] σ Q :=
  (show am_Snd G M_M_readStatement 27 am_Pv _ from (sn_aload_n (pc := 27) (i := 0) dX12_readStatement_27 rfl (sn_aload_n (pc := 28) (i := 0) dX12_readStatement_28 rfl (sn_gI (pc := 29) (h := 66) (f := 30) dX12_readStatement_29 am_CL_11 sh_66 rfl (Nat.le_of_ble_eq_true rfl) tw_971 (sn_if_ne (pc := 32) (tgt := 71) dX12_readStatement_32 rfl (sn_lf (pc := 71) (ln_a (i := 0) (q := 66) (ln_i (i := 1) (fun z0 => (ln_i (i := 2) (fun z1 => (ln_sa (q := 66) (ln_end (o := fun τ => f_M_readStatement_71 z0 z1 τ) (fun _ _ _ e h => s_M_readStatement_71 G z0 z1 _ _ _ e h))))))))) (sn_iload_n (pc := 35) (i := 2) dX12_readStatement_35 rfl (sn_bipush (pc := 36) (v := 114) dX12_readStatement_36 rfl (sn_icmp_eq (pc := 38) (tgt := 75) dX12_readStatement_38 rfl (sn_lf (pc := 75) (ln_a (i := 0) (q := 66) (ln_i (i := 1) (fun z0 => (ln_i (i := 2) (fun z1 => (ln_sa (q := 66) (ln_end (o := fun τ => f_M_readStatement_75 z0 z1 τ) (fun _ _ _ e h => s_M_readStatement_75 G z0 z1 _ _ _ e h))))))))) (sn_iload_n (pc := 41) (i := 2) dX12_readStatement_41 rfl (sn_bipush (pc := 42) (v := 100) dX12_readStatement_42 rfl (sn_icmp_eq (pc := 44) (tgt := 75) dX12_readStatement_44 rfl (sn_lf (pc := 75) (ln_a (i := 0) (q := 66) (ln_i (i := 1) (fun z0 => (ln_i (i := 2) (fun z1 => (ln_sa (q := 66) (ln_end (o := fun τ => f_M_readStatement_75 z0 z1 τ) (fun _ _ _ e h => s_M_readStatement_75 G z0 z1 _ _ _ e h))))))))) (sn_iload_n (pc := 47) (i := 2) dX12_readStatement_47 rfl (sn_bipush (pc := 48) (v := 99) dX12_readStatement_48 rfl (sn_icmp_eq (pc := 50) (tgt := 75) dX12_readStatement_50 rfl (sn_lf (pc := 75) (ln_a (i := 0) (q := 66) (ln_i (i := 1) (fun z0 => (ln_i (i := 2) (fun z1 => (ln_sa (q := 66) (ln_end (o := fun τ => f_M_readStatement_75 z0 z1 τ) (fun _ _ _ e h => s_M_readStatement_75 G z0 z1 _ _ _ e h))))))))) (sn_iload_n (pc := 53) (i := 2) dX12_readStatement_53 rfl (sn_bipush (pc := 54) (v := 116) dX12_readStatement_54 rfl (sn_icmp_eq (pc := 56) (tgt := 75) dX12_readStatement_56 rfl (sn_lf (pc := 75) (ln_a (i := 0) (q := 66) (ln_i (i := 1) (fun z0 => (ln_i (i := 2) (fun z1 => (ln_sa (q := 66) (ln_end (o := fun τ => f_M_readStatement_75 z0 z1 τ) (fun _ _ _ e h => s_M_readStatement_75 G z0 z1 _ _ _ e h))))))))) (sn_iload_n (pc := 59) (i := 2) dX12_readStatement_59 rfl (sn_bipush (pc := 60) (v := 98) dX12_readStatement_60 rfl (sn_icmp_eq (pc := 62) (tgt := 75) dX12_readStatement_62 rfl (sn_lf (pc := 75) (ln_a (i := 0) (q := 66) (ln_i (i := 1) (fun z0 => (ln_i (i := 2) (fun z1 => (ln_sa (q := 66) (ln_end (o := fun τ => f_M_readStatement_75 z0 z1 τ) (fun _ _ _ e h => s_M_readStatement_75 G z0 z1 _ _ _ e h))))))))) (sn_iload_n (pc := 65) (i := 2) dX12_readStatement_65 rfl (sn_bipush (pc := 66) (v := 102) dX12_readStatement_66 rfl (sn_icmp_eq (pc := 68) (tgt := 75) dX12_readStatement_68 rfl (sn_lf (pc := 75) (ln_a (i := 0) (q := 66) (ln_i (i := 1) (fun z0 => (ln_i (i := 2) (fun z1 => (ln_sa (q := 66) (ln_end (o := fun τ => f_M_readStatement_75 z0 z1 τ) (fun _ _ _ e h => s_M_readStatement_75 G z0 z1 _ _ _ e h))))))))) (sn_lf (pc := 71) (ln_a (i := 0) (q := 66) (ln_i (i := 1) (fun z0 => (ln_i (i := 2) (fun z1 => (ln_sa (q := 66) (ln_end (o := fun τ => f_M_readStatement_71 z0 z1 τ) (fun _ _ _ e h => s_M_readStatement_71 G z0 z1 _ _ _ e h)))))))))))))))))))))))))))))))) _ _ _ _ _ ((eq_M_readStatement_27 x1 x2 σ).symm.trans e) hr
noncomputable def g_M_readStatement (σ : am_St) : Option (am_St) :=
  let v1 := σ.1 66 32
  (f_M_here σ).bind (fun p2 =>
    if am_ix v1 33 = true then
      let s3 := am_sI p2.2 87 v1.toNatClampNeg (p2.2.1 66 29)
      if am_ix v1 33 = true then
        let s4 := am_sI s3 88 v1.toNatClampNeg p2.1
        f_M_readStatement_27 v1 p2.1 s4
      else none
    else none)
noncomputable def f_M_readStatement (σ : am_St) : Option (am_St) := am_lk (g_M_readStatement  σ)
theorem eq_M_readStatement (σ : am_St) : f_M_readStatement  σ = g_M_readStatement  σ := am_lk_eq _
set_option maxRecDepth 100000 in
set_option maxHeartbeats 4000000 in
theorem s_M_readStatement (G : am_G) (σ : am_St) (r : am_St) (Q : am_AQ) (e : f_M_readStatement  σ = some r) (hr : am_Pv r Q) : am_AW G M_M_readStatement 0 [(0, .ref 66)] [] σ Q :=
  (show am_Snd G M_M_readStatement 0 am_Pv _ from (sn_aload_n (pc := 0) (i := 0) dX12_readStatement_0 rfl (sn_gI (pc := 1) (h := 66) (f := 32) dX12_readStatement_1 am_CL_11 sh_66 rfl (Nat.le_of_ble_eq_true rfl) tw_973 (sn_istore_n (pc := 4) (i := 1) dX12_readStatement_4 rfl (Nat.le_of_ble_eq_true rfl) (sn_aload_n (pc := 5) (i := 0) dX12_readStatement_5 rfl (sn_callV (pc := 6) (N := M_M_here) dX12_readStatement_6 (cal_M_here G) sh_66 rfl tw_1102 tw_1104 tp_25 tw_12 tw_1105 dsc_X12_here rfl (sn_istore_n (pc := 9) (i := 2) dX12_readStatement_9 rfl (Nat.le_of_ble_eq_true rfl) (sn_aload_n (pc := 10) (i := 0) dX12_readStatement_10 rfl (sn_gR (r0 := 87) (pc := 11) (h := 66) (f := 33) dX12_readStatement_11 am_CL_11 sh_66 rfl (Nat.le_of_ble_eq_true rfl) tw_974 (sn_iload_n (pc := 14) (i := 1) dX12_readStatement_14 rfl (sn_aload_n (pc := 15) (i := 0) dX12_readStatement_15 rfl (sn_gI (pc := 16) (h := 66) (f := 29) dX12_readStatement_16 am_CL_11 sh_66 rfl (Nat.le_of_ble_eq_true rfl) tw_970 (sn_sI (pc := 19) (h := 87) dX12_readStatement_19 sh_87 (sn_aload_n (pc := 20) (i := 0) dX12_readStatement_20 rfl (sn_gR (r0 := 88) (pc := 21) (h := 66) (f := 34) dX12_readStatement_21 am_CL_11 sh_66 rfl (Nat.le_of_ble_eq_true rfl) tw_975 (sn_iload_n (pc := 24) (i := 1) dX12_readStatement_24 rfl (sn_iload_n (pc := 25) (i := 2) dX12_readStatement_25 rfl (sn_sI (pc := 26) (h := 88) dX12_readStatement_26 sh_88 (sn_lf (pc := 27) (ln_a (i := 0) (q := 66) (ln_i (i := 1) (fun z0 => (ln_i (i := 2) (fun z1 => (ln_end (o := fun τ => f_M_readStatement_27 z0 z1 τ) (fun _ _ _ e h => s_M_readStatement_27 G z0 z1 _ _ _ e h)))))))))))))))))))))))))) _ _ _ _ _ ((eq_M_readStatement  σ).symm.trans e) hr
noncomputable def cF_M_readStatement : am_Fn := fun _ args σ K => match args with
  | [.ref q0] => match Nat.beq q0 66 with
    | true => (f_M_readStatement σ).bind (fun p => K none p)
    | _ => none
  | _ => none
theorem cal_M_readStatement (G : am_G) : am_Cal G M_M_readStatement cF_M_readStatement := by
  intro ρ args σ K r e
  unfold cF_M_readStatement at e
  split at e
  · split at e
    · rename_i hq0
      obtain ⟨p, h1, h2⟩ := am_bind_some e
      rw [Nat.eq_of_beq_eq_true hq0]
      exact ⟨none, p, am_Met.of rfl (Nat.le_of_ble_eq_true rfl) (s_M_readStatement G  σ p _ h1 ⟨rfl, rfl⟩), h2⟩
    · cases e
  · cases e
abbrev M_M_carry : am_MD := (yX12_carry, cX12_carry, 2, (some .int), 0, 0)
theorem dX12_carry_0 : decode cX12_carry 0 = .ok (.aload_n 0, 1) := by decide +kernel
theorem dX12_carry_1 : decode cX12_carry 1 = .ok (.getfield 242, 3) := by decide +kernel
theorem dX12_carry_4 : decode cX12_carry 4 = .ok (.ifCond .eq 13, 3) := by decide +kernel
theorem dX12_carry_7 : decode cX12_carry 7 = .ok (.aload_n 0, 1) := by decide +kernel
theorem dX12_carry_8 : decode cX12_carry 8 = .ok (.getfield 245, 3) := by decide +kernel
theorem dX12_carry_11 : decode cX12_carry 11 = .ok (.aload_n 0, 1) := by decide +kernel
theorem dX12_carry_12 : decode cX12_carry 12 = .ok (.getfield 248, 3) := by decide +kernel
theorem dX12_carry_15 : decode cX12_carry 15 = .ok (.iload_n 1, 1) := by decide +kernel
theorem dX12_carry_16 : decode cX12_carry 16 = .ok (.iastore, 1) := by decide +kernel
theorem dX12_carry_17 : decode cX12_carry 17 = .ok (.aload_n 0, 1) := by decide +kernel
theorem dX12_carry_18 : decode cX12_carry 18 = .ok (.dup, 1) := by decide +kernel
theorem dX12_carry_19 : decode cX12_carry 19 = .ok (.getfield 248, 3) := by decide +kernel
theorem dX12_carry_22 : decode cX12_carry 22 = .ok (.iconst 1, 1) := by decide +kernel
theorem dX12_carry_23 : decode cX12_carry 23 = .ok (.iadd, 1) := by decide +kernel
theorem dX12_carry_24 : decode cX12_carry 24 = .ok (.putfield 248, 3) := by decide +kernel
theorem dX12_carry_27 : decode cX12_carry 27 = .ok (.aload_n 0, 1) := by decide +kernel
theorem dX12_carry_28 : decode cX12_carry 28 = .ok (.getfield 245, 3) := by decide +kernel
theorem dX12_carry_31 : decode cX12_carry 31 = .ok (.aload_n 0, 1) := by decide +kernel
theorem dX12_carry_32 : decode cX12_carry 32 = .ok (.getfield 248, 3) := by decide +kernel
theorem dX12_carry_35 : decode cX12_carry 35 = .ok (.iconst 1, 1) := by decide +kernel
theorem dX12_carry_36 : decode cX12_carry 36 = .ok (.isub, 1) := by decide +kernel
theorem dX12_carry_37 : decode cX12_carry 37 = .ok (.iaload, 1) := by decide +kernel
theorem dX12_carry_38 : decode cX12_carry 38 = .ok (.ireturn, 1) := by decide +kernel
noncomputable def g_M_carry_17 (σ : am_St) : Option (Int32 × am_St) :=
  let s1 := am_sI σ 66 39 ((σ.1 66 39) + 1)
  s1.2.2.bind (fun q2 =>
    if q2 = 90 then
      if am_ix ((s1.1 66 39) - 1) 154 = true then
        some ((s1.1 90 ((s1.1 66 39) - 1).toNatClampNeg, s1))
      else none
    else
    if q2 = 91 then
      if am_ix ((s1.1 66 39) - 1) 154 = true then
        some ((s1.1 91 ((s1.1 66 39) - 1).toNatClampNeg, s1))
      else none
    else
      none)
noncomputable def f_M_carry_17 (σ : am_St) : Option (Int32 × am_St) := am_lk (g_M_carry_17  σ)
theorem eq_M_carry_17 (σ : am_St) : f_M_carry_17  σ = g_M_carry_17  σ := am_lk_eq _
set_option maxRecDepth 100000 in
set_option maxHeartbeats 4000000 in
theorem s_M_carry_17 (G : am_G) (σ : am_St) (r : Int32 × am_St) (Q : am_AQ) (e : f_M_carry_17  σ = some r) (hr : am_Pi r Q) : am_AW G M_M_carry 17 [(0, .ref 66)] [] σ Q :=
  (show am_Snd G M_M_carry 17 am_Pi _ from (sn_aload_n (pc := 17) (i := 0) dX12_carry_17 rfl (sn_dup (pc := 18) dX12_carry_18 (sn_gI (pc := 19) (h := 66) (f := 39) dX12_carry_19 am_CL_11 sh_66 rfl (Nat.le_of_ble_eq_true rfl) tw_980 (sn_iconst (pc := 22) (v := 1) dX12_carry_22 rfl (sn_iadd (pc := 23) dX12_carry_23 (sn_pI (pc := 24) (h := 66) (f := 39) dX12_carry_24 am_CL_11 sh_66 rfl (Nat.le_of_ble_eq_true rfl) tw_980 rfl rfl (sn_aload_n (pc := 27) (i := 0) dX12_carry_27 rfl (sn_gK (pc := 28) (h := 66) (f := 41) dX12_carry_28 am_CL_11 sh_66 rfl (Nat.le_of_ble_eq_true rfl) tw_982 (sn_aload_n (pc := 31) (i := 0) dX12_carry_31 rfl (sn_gI (pc := 32) (h := 66) (f := 39) dX12_carry_32 am_CL_11 sh_66 rfl (Nat.le_of_ble_eq_true rfl) tw_980 (sn_iconst (pc := 35) (v := 1) dX12_carry_35 rfl (sn_isub (pc := 36) dX12_carry_36 (sn_spl (n := 1) (c0 := 90) (sn_aI (pc := 37) (h := 90) dX12_carry_37 sh_90 (sn_reti (pc := 38) (R := fun x τ => (some ((x, τ)))) dX12_carry_38 rfl (fun _ _ _ _ e h => by cases e; exact h))) (sn_spl (n := 1) (c0 := 91) (sn_aI (pc := 37) (h := 91) dX12_carry_37 sh_91 (sn_reti (pc := 38) (R := fun x τ => (some ((x, τ)))) dX12_carry_38 rfl (fun _ _ _ _ e h => by cases e; exact h))) sn_no))))))))))))))) _ _ _ _ _ ((eq_M_carry_17  σ).symm.trans e) hr
noncomputable def g_M_carry (x1 : Int32) (σ : am_St) : Option (Int32 × am_St) :=
  if (σ.1 66 40) = 0 then
    f_M_carry_17 σ
  else
    σ.2.2.bind (fun q1 =>
      if q1 = 90 then
        if am_ix (σ.1 66 39) 154 = true then
          let s2 := am_sI σ 90 (σ.1 66 39).toNatClampNeg x1
          f_M_carry_17 s2
        else none
      else
      if q1 = 91 then
        if am_ix (σ.1 66 39) 154 = true then
          let s3 := am_sI σ 91 (σ.1 66 39).toNatClampNeg x1
          f_M_carry_17 s3
        else none
      else
        none)
noncomputable def f_M_carry (x1 : Int32) (σ : am_St) : Option (Int32 × am_St) := am_lk (g_M_carry x1 σ)
theorem eq_M_carry (x1 : Int32) (σ : am_St) : f_M_carry x1 σ = g_M_carry x1 σ := am_lk_eq _
set_option maxRecDepth 100000 in
set_option maxHeartbeats 4000000 in
theorem s_M_carry (G : am_G) (x1 : Int32) (σ : am_St) (r : Int32 × am_St) (Q : am_AQ) (e : f_M_carry x1 σ = some r) (hr : am_Pi r Q) : am_AW G M_M_carry 0 [(0, .ref 66), (1, .int x1)] [] σ Q :=
  (show am_Snd G M_M_carry 0 am_Pi _ from (sn_aload_n (pc := 0) (i := 0) dX12_carry_0 rfl (sn_gI (pc := 1) (h := 66) (f := 40) dX12_carry_1 am_CL_11 sh_66 rfl (Nat.le_of_ble_eq_true rfl) tw_981 (sn_if_eq (pc := 4) (tgt := 17) dX12_carry_4 rfl (sn_lf (pc := 17) (ln_a (i := 0) (q := 66) (ln_end (o := fun τ => f_M_carry_17 τ) (fun _ _ _ e h => s_M_carry_17 G  _ _ _ e h)))) (sn_aload_n (pc := 7) (i := 0) dX12_carry_7 rfl (sn_gK (pc := 8) (h := 66) (f := 41) dX12_carry_8 am_CL_11 sh_66 rfl (Nat.le_of_ble_eq_true rfl) tw_982 (sn_aload_n (pc := 11) (i := 0) dX12_carry_11 rfl (sn_gI (pc := 12) (h := 66) (f := 39) dX12_carry_12 am_CL_11 sh_66 rfl (Nat.le_of_ble_eq_true rfl) tw_980 (sn_iload_n (pc := 15) (i := 1) dX12_carry_15 rfl (sn_spl (n := 2) (c0 := 90) (sn_sI (pc := 16) (h := 90) dX12_carry_16 sh_90 (sn_lf (pc := 17) (ln_a (i := 0) (q := 66) (ln_end (o := fun τ => f_M_carry_17 τ) (fun _ _ _ e h => s_M_carry_17 G  _ _ _ e h))))) (sn_spl (n := 2) (c0 := 91) (sn_sI (pc := 16) (h := 91) dX12_carry_16 sh_91 (sn_lf (pc := 17) (ln_a (i := 0) (q := 66) (ln_end (o := fun τ => f_M_carry_17 τ) (fun _ _ _ e h => s_M_carry_17 G  _ _ _ e h))))) sn_no))))))))))) _ _ _ _ _ ((eq_M_carry x1 σ).symm.trans e) hr
noncomputable def cF_M_carry : am_Fn := fun _ args σ K => match args with
  | [.ref q0, .int z1] => match Nat.beq q0 66 with
    | true => (f_M_carry z1 σ).bind (fun p => K (some (.int p.1)) p.2)
    | _ => none
  | _ => none
theorem cal_M_carry (G : am_G) : am_Cal G M_M_carry cF_M_carry := by
  intro ρ args σ K r e
  unfold cF_M_carry at e
  split at e
  · split at e
    · rename_i hq0
      obtain ⟨p, h1, h2⟩ := am_bind_some e
      rw [Nat.eq_of_beq_eq_true hq0]
      exact ⟨some (.int p.1), p.2, am_Met.of rfl (Nat.le_of_ble_eq_true rfl) (s_M_carry G _ σ p _ h1 ⟨rfl, rfl⟩), h2⟩
    · cases e
  · cases e
abbrev M_M_carrySays : am_MD := (yX12_carrySays, cX12_carrySays, 2, none, 1, 21)
theorem dX12_carrySays_0 : decode cX12_carrySays 0 = .ok (.iconst 0, 1) := by decide +kernel
theorem dX12_carrySays_1 : decode cX12_carrySays 1 = .ok (.istore_n 1, 1) := by decide +kernel
theorem dX12_carrySays_2 : decode cX12_carrySays 2 = .ok (.iload_n 1, 1) := by decide +kernel
theorem dX12_carrySays_3 : decode cX12_carrySays 3 = .ok (.bipush 16, 2) := by decide +kernel
theorem dX12_carrySays_5 : decode cX12_carrySays 5 = .ok (.if_icmp .ge 73, 3) := by decide +kernel
theorem dX12_carrySays_8 : decode cX12_carrySays 8 = .ok (.aload_n 0, 1) := by decide +kernel
theorem dX12_carrySays_9 : decode cX12_carrySays 9 = .ok (.getfield 35, 3) := by decide +kernel
theorem dX12_carrySays_12 : decode cX12_carrySays 12 = .ok (.iload_n 1, 1) := by decide +kernel
theorem dX12_carrySays_13 : decode cX12_carrySays 13 = .ok (.aload_n 0, 1) := by decide +kernel
theorem dX12_carrySays_14 : decode cX12_carrySays 14 = .ok (.aload_n 0, 1) := by decide +kernel
theorem dX12_carrySays_15 : decode cX12_carrySays 15 = .ok (.getfield 35, 3) := by decide +kernel
theorem dX12_carrySays_18 : decode cX12_carrySays 18 = .ok (.iload_n 1, 1) := by decide +kernel
theorem dX12_carrySays_19 : decode cX12_carrySays 19 = .ok (.iaload, 1) := by decide +kernel
theorem dX12_carrySays_20 : decode cX12_carrySays 20 = .ok (.invokevirtual 251, 3) := by decide +kernel
theorem dX12_carrySays_23 : decode cX12_carrySays 23 = .ok (.iastore, 1) := by decide +kernel
theorem dX12_carrySays_24 : decode cX12_carrySays 24 = .ok (.aload_n 0, 1) := by decide +kernel
theorem dX12_carrySays_25 : decode cX12_carrySays 25 = .ok (.getfield 38, 3) := by decide +kernel
theorem dX12_carrySays_28 : decode cX12_carrySays 28 = .ok (.iload_n 1, 1) := by decide +kernel
theorem dX12_carrySays_29 : decode cX12_carrySays 29 = .ok (.aload_n 0, 1) := by decide +kernel
theorem dX12_carrySays_30 : decode cX12_carrySays 30 = .ok (.aload_n 0, 1) := by decide +kernel
theorem dX12_carrySays_31 : decode cX12_carrySays 31 = .ok (.getfield 38, 3) := by decide +kernel
theorem dX12_carrySays_34 : decode cX12_carrySays 34 = .ok (.iload_n 1, 1) := by decide +kernel
theorem dX12_carrySays_35 : decode cX12_carrySays 35 = .ok (.iaload, 1) := by decide +kernel
theorem dX12_carrySays_36 : decode cX12_carrySays 36 = .ok (.invokevirtual 251, 3) := by decide +kernel
theorem dX12_carrySays_39 : decode cX12_carrySays 39 = .ok (.iastore, 1) := by decide +kernel
theorem dX12_carrySays_40 : decode cX12_carrySays 40 = .ok (.aload_n 0, 1) := by decide +kernel
theorem dX12_carrySays_41 : decode cX12_carrySays 41 = .ok (.getfield 41, 3) := by decide +kernel
theorem dX12_carrySays_44 : decode cX12_carrySays 44 = .ok (.iload_n 1, 1) := by decide +kernel
theorem dX12_carrySays_45 : decode cX12_carrySays 45 = .ok (.aload_n 0, 1) := by decide +kernel
theorem dX12_carrySays_46 : decode cX12_carrySays 46 = .ok (.aload_n 0, 1) := by decide +kernel
theorem dX12_carrySays_47 : decode cX12_carrySays 47 = .ok (.getfield 41, 3) := by decide +kernel
theorem dX12_carrySays_50 : decode cX12_carrySays 50 = .ok (.iload_n 1, 1) := by decide +kernel
theorem dX12_carrySays_51 : decode cX12_carrySays 51 = .ok (.iaload, 1) := by decide +kernel
theorem dX12_carrySays_52 : decode cX12_carrySays 52 = .ok (.invokevirtual 251, 3) := by decide +kernel
theorem dX12_carrySays_55 : decode cX12_carrySays 55 = .ok (.iastore, 1) := by decide +kernel
theorem dX12_carrySays_56 : decode cX12_carrySays 56 = .ok (.aload_n 0, 1) := by decide +kernel
theorem dX12_carrySays_57 : decode cX12_carrySays 57 = .ok (.getfield 44, 3) := by decide +kernel
theorem dX12_carrySays_60 : decode cX12_carrySays 60 = .ok (.iload_n 1, 1) := by decide +kernel
theorem dX12_carrySays_61 : decode cX12_carrySays 61 = .ok (.aload_n 0, 1) := by decide +kernel
theorem dX12_carrySays_62 : decode cX12_carrySays 62 = .ok (.aload_n 0, 1) := by decide +kernel
theorem dX12_carrySays_63 : decode cX12_carrySays 63 = .ok (.getfield 44, 3) := by decide +kernel
theorem dX12_carrySays_66 : decode cX12_carrySays 66 = .ok (.iload_n 1, 1) := by decide +kernel
theorem dX12_carrySays_67 : decode cX12_carrySays 67 = .ok (.iaload, 1) := by decide +kernel
theorem dX12_carrySays_68 : decode cX12_carrySays 68 = .ok (.invokevirtual 251, 3) := by decide +kernel
theorem dX12_carrySays_71 : decode cX12_carrySays 71 = .ok (.iastore, 1) := by decide +kernel
theorem dX12_carrySays_72 : decode cX12_carrySays 72 = .ok (.iinc 1 1, 3) := by decide +kernel
theorem dX12_carrySays_75 : decode cX12_carrySays 75 = .ok (.goto (-73), 3) := by decide +kernel
theorem dX12_carrySays_78 : decode cX12_carrySays 78 = .ok (.iconst 0, 1) := by decide +kernel
theorem dX12_carrySays_79 : decode cX12_carrySays 79 = .ok (.istore_n 1, 1) := by decide +kernel
theorem dX12_carrySays_80 : decode cX12_carrySays 80 = .ok (.iload_n 1, 1) := by decide +kernel
theorem dX12_carrySays_81 : decode cX12_carrySays 81 = .ok (.bipush 8, 2) := by decide +kernel
theorem dX12_carrySays_83 : decode cX12_carrySays 83 = .ok (.if_icmp .ge 73, 3) := by decide +kernel
theorem dX12_carrySays_86 : decode cX12_carrySays 86 = .ok (.aload_n 0, 1) := by decide +kernel
theorem dX12_carrySays_87 : decode cX12_carrySays 87 = .ok (.getfield 50, 3) := by decide +kernel
theorem dX12_carrySays_90 : decode cX12_carrySays 90 = .ok (.iload_n 1, 1) := by decide +kernel
theorem dX12_carrySays_91 : decode cX12_carrySays 91 = .ok (.aload_n 0, 1) := by decide +kernel
theorem dX12_carrySays_92 : decode cX12_carrySays 92 = .ok (.aload_n 0, 1) := by decide +kernel
theorem dX12_carrySays_93 : decode cX12_carrySays 93 = .ok (.getfield 50, 3) := by decide +kernel
theorem dX12_carrySays_96 : decode cX12_carrySays 96 = .ok (.iload_n 1, 1) := by decide +kernel
theorem dX12_carrySays_97 : decode cX12_carrySays 97 = .ok (.iaload, 1) := by decide +kernel
theorem dX12_carrySays_98 : decode cX12_carrySays 98 = .ok (.invokevirtual 251, 3) := by decide +kernel
theorem dX12_carrySays_101 : decode cX12_carrySays 101 = .ok (.iastore, 1) := by decide +kernel
theorem dX12_carrySays_102 : decode cX12_carrySays 102 = .ok (.aload_n 0, 1) := by decide +kernel
theorem dX12_carrySays_103 : decode cX12_carrySays 103 = .ok (.getfield 53, 3) := by decide +kernel
theorem dX12_carrySays_106 : decode cX12_carrySays 106 = .ok (.iload_n 1, 1) := by decide +kernel
theorem dX12_carrySays_107 : decode cX12_carrySays 107 = .ok (.aload_n 0, 1) := by decide +kernel
theorem dX12_carrySays_108 : decode cX12_carrySays 108 = .ok (.aload_n 0, 1) := by decide +kernel
theorem dX12_carrySays_109 : decode cX12_carrySays 109 = .ok (.getfield 53, 3) := by decide +kernel
theorem dX12_carrySays_112 : decode cX12_carrySays 112 = .ok (.iload_n 1, 1) := by decide +kernel
theorem dX12_carrySays_113 : decode cX12_carrySays 113 = .ok (.iaload, 1) := by decide +kernel
theorem dX12_carrySays_114 : decode cX12_carrySays 114 = .ok (.invokevirtual 251, 3) := by decide +kernel
theorem dX12_carrySays_117 : decode cX12_carrySays 117 = .ok (.iastore, 1) := by decide +kernel
theorem dX12_carrySays_118 : decode cX12_carrySays 118 = .ok (.aload_n 0, 1) := by decide +kernel
theorem dX12_carrySays_119 : decode cX12_carrySays 119 = .ok (.getfield 56, 3) := by decide +kernel
theorem dX12_carrySays_122 : decode cX12_carrySays 122 = .ok (.iload_n 1, 1) := by decide +kernel
theorem dX12_carrySays_123 : decode cX12_carrySays 123 = .ok (.aload_n 0, 1) := by decide +kernel
theorem dX12_carrySays_124 : decode cX12_carrySays 124 = .ok (.aload_n 0, 1) := by decide +kernel
theorem dX12_carrySays_125 : decode cX12_carrySays 125 = .ok (.getfield 56, 3) := by decide +kernel
theorem dX12_carrySays_128 : decode cX12_carrySays 128 = .ok (.iload_n 1, 1) := by decide +kernel
theorem dX12_carrySays_129 : decode cX12_carrySays 129 = .ok (.iaload, 1) := by decide +kernel
theorem dX12_carrySays_130 : decode cX12_carrySays 130 = .ok (.invokevirtual 251, 3) := by decide +kernel
theorem dX12_carrySays_133 : decode cX12_carrySays 133 = .ok (.iastore, 1) := by decide +kernel
theorem dX12_carrySays_134 : decode cX12_carrySays 134 = .ok (.aload_n 0, 1) := by decide +kernel
theorem dX12_carrySays_135 : decode cX12_carrySays 135 = .ok (.getfield 59, 3) := by decide +kernel
theorem dX12_carrySays_138 : decode cX12_carrySays 138 = .ok (.iload_n 1, 1) := by decide +kernel
theorem dX12_carrySays_139 : decode cX12_carrySays 139 = .ok (.aload_n 0, 1) := by decide +kernel
theorem dX12_carrySays_140 : decode cX12_carrySays 140 = .ok (.aload_n 0, 1) := by decide +kernel
theorem dX12_carrySays_141 : decode cX12_carrySays 141 = .ok (.getfield 59, 3) := by decide +kernel
theorem dX12_carrySays_144 : decode cX12_carrySays 144 = .ok (.iload_n 1, 1) := by decide +kernel
theorem dX12_carrySays_145 : decode cX12_carrySays 145 = .ok (.iaload, 1) := by decide +kernel
theorem dX12_carrySays_146 : decode cX12_carrySays 146 = .ok (.invokevirtual 251, 3) := by decide +kernel
theorem dX12_carrySays_149 : decode cX12_carrySays 149 = .ok (.iastore, 1) := by decide +kernel
theorem dX12_carrySays_150 : decode cX12_carrySays 150 = .ok (.iinc 1 1, 3) := by decide +kernel
theorem dX12_carrySays_153 : decode cX12_carrySays 153 = .ok (.goto (-73), 3) := by decide +kernel
theorem dX12_carrySays_156 : decode cX12_carrySays 156 = .ok (.return_, 1) := by decide +kernel
abbrev Pl_M_carrySays_80 (G : am_G) : ((Int32 × am_St) ⊕ (am_St)) → am_AQ → Prop := am_PL G M_M_carrySays 80 (fun s : Int32 × am_St => [(1, .int s.1), (0, .ref 66)]) (fun s => s.2) am_Pv
abbrev Pl_M_carrySays_2 (G : am_G) : ((Int32 × am_St) ⊕ (am_St)) → am_AQ → Prop := am_PL G M_M_carrySays 2 (fun s : Int32 × am_St => [(1, .int s.1), (0, .ref 66)]) (fun s => s.2) am_Pv
noncomputable def g_M_carrySays_72 (x1 : Int32) (σ : am_St) : Option ((Int32 × am_St) ⊕ (am_St)) :=
  let v1 := x1 + 1
  some (.inl (v1, σ))
noncomputable def f_M_carrySays_72 (x1 : Int32) (σ : am_St) : Option ((Int32 × am_St) ⊕ (am_St)) := am_lk (g_M_carrySays_72 x1 σ)
theorem eq_M_carrySays_72 (x1 : Int32) (σ : am_St) : f_M_carrySays_72 x1 σ = g_M_carrySays_72 x1 σ := am_lk_eq _
set_option maxRecDepth 100000 in
set_option maxHeartbeats 4000000 in
theorem s_M_carrySays_72 (G : am_G) (x1 : Int32) (σ : am_St) (r : (Int32 × am_St) ⊕ (am_St)) (Q : am_AQ) (e : f_M_carrySays_72 x1 σ = some r) (hr : (Pl_M_carrySays_2 G) r Q) : am_AW G M_M_carrySays 72 [(1, .int x1), (0, .ref 66)] [] σ Q :=
  (show am_Snd G M_M_carrySays 72 (Pl_M_carrySays_2 G) _ from (sn_iinc (pc := 72) (v := 1) dX12_carrySays_72 rfl (Nat.le_of_ble_eq_true rfl) (sn_goto (pc := 75) (tgt := 2) dX12_carrySays_75 rfl (sn_lf (pc := 2) (ln_a (i := 0) (q := 66) (ln_i (i := 1) (fun z0 => (ln_end (o := fun τ => (some (.inl (z0, τ)) : Option ((Int32 × am_St) ⊕ (am_St)))) (fun _ _ _ e h => by cases e; exact h))))))))) _ _ _ _ _ ((eq_M_carrySays_72 x1 σ).symm.trans e) hr
noncomputable def g_M_carrySays_40 (x1 : Int32) (σ : am_St) : Option ((Int32 × am_St) ⊕ (am_St)) :=
  if am_ix x1 17 = true then
    (f_M_carry (σ.1 75 x1.toNatClampNeg) σ).bind (fun p1 =>
      if am_ix x1 17 = true then
        let s2 := am_sI p1.2 75 x1.toNatClampNeg p1.1
        if am_ix x1 17 = true then
          (f_M_carry (s2.1 76 x1.toNatClampNeg) s2).bind (fun p3 =>
            if am_ix x1 17 = true then
              let s4 := am_sI p3.2 76 x1.toNatClampNeg p3.1
              f_M_carrySays_72 x1 s4
            else none)
        else none
      else none)
  else none
noncomputable def f_M_carrySays_40 (x1 : Int32) (σ : am_St) : Option ((Int32 × am_St) ⊕ (am_St)) := am_lk (g_M_carrySays_40 x1 σ)
theorem eq_M_carrySays_40 (x1 : Int32) (σ : am_St) : f_M_carrySays_40 x1 σ = g_M_carrySays_40 x1 σ := am_lk_eq _
set_option maxRecDepth 100000 in
set_option maxHeartbeats 4000000 in
theorem s_M_carrySays_40 (G : am_G) (x1 : Int32) (σ : am_St) (r : (Int32 × am_St) ⊕ (am_St)) (Q : am_AQ) (e : f_M_carrySays_40 x1 σ = some r) (hr : (Pl_M_carrySays_2 G) r Q) : am_AW G M_M_carrySays 40 [(1, .int x1), (0, .ref 66)] [] σ Q :=
  (show am_Snd G M_M_carrySays 40 (Pl_M_carrySays_2 G) _ from (sn_aload_n (pc := 40) (i := 0) dX12_carrySays_40 rfl (sn_gR (r0 := 75) (pc := 41) (h := 66) (f := 15) dX12_carrySays_41 am_CL_11 sh_66 rfl (Nat.le_of_ble_eq_true rfl) tw_956 (sn_iload_n (pc := 44) (i := 1) dX12_carrySays_44 rfl (sn_aload_n (pc := 45) (i := 0) dX12_carrySays_45 rfl (sn_aload_n (pc := 46) (i := 0) dX12_carrySays_46 rfl (sn_gR (r0 := 75) (pc := 47) (h := 66) (f := 15) dX12_carrySays_47 am_CL_11 sh_66 rfl (Nat.le_of_ble_eq_true rfl) tw_956 (sn_iload_n (pc := 50) (i := 1) dX12_carrySays_50 rfl (sn_aI (pc := 51) (h := 75) dX12_carrySays_51 sh_75 (sn_callV (pc := 52) (N := M_M_carry) dX12_carrySays_52 (cal_M_carry G) sh_66 rfl tw_1130 tw_1132 tp_30 tw_12 tw_1133 dsc_X12_carry rfl (sn_sI (pc := 55) (h := 75) dX12_carrySays_55 sh_75 (sn_aload_n (pc := 56) (i := 0) dX12_carrySays_56 rfl (sn_gR (r0 := 76) (pc := 57) (h := 66) (f := 16) dX12_carrySays_57 am_CL_11 sh_66 rfl (Nat.le_of_ble_eq_true rfl) tw_957 (sn_iload_n (pc := 60) (i := 1) dX12_carrySays_60 rfl (sn_aload_n (pc := 61) (i := 0) dX12_carrySays_61 rfl (sn_aload_n (pc := 62) (i := 0) dX12_carrySays_62 rfl (sn_gR (r0 := 76) (pc := 63) (h := 66) (f := 16) dX12_carrySays_63 am_CL_11 sh_66 rfl (Nat.le_of_ble_eq_true rfl) tw_957 (sn_iload_n (pc := 66) (i := 1) dX12_carrySays_66 rfl (sn_aI (pc := 67) (h := 76) dX12_carrySays_67 sh_76 (sn_callV (pc := 68) (N := M_M_carry) dX12_carrySays_68 (cal_M_carry G) sh_66 rfl tw_1130 tw_1132 tp_30 tw_12 tw_1133 dsc_X12_carry rfl (sn_sI (pc := 71) (h := 76) dX12_carrySays_71 sh_76 (sn_lf (pc := 72) (ln_a (i := 0) (q := 66) (ln_i (i := 1) (fun z0 => (ln_end (o := fun τ => f_M_carrySays_72 z0 τ) (fun _ _ _ e h => s_M_carrySays_72 G z0 _ _ _ e h))))))))))))))))))))))))))) _ _ _ _ _ ((eq_M_carrySays_40 x1 σ).symm.trans e) hr
noncomputable def g_M_carrySays_150 (x1 : Int32) (σ : am_St) : Option ((Int32 × am_St) ⊕ (am_St)) :=
  let v1 := x1 + 1
  some (.inl (v1, σ))
noncomputable def f_M_carrySays_150 (x1 : Int32) (σ : am_St) : Option ((Int32 × am_St) ⊕ (am_St)) := am_lk (g_M_carrySays_150 x1 σ)
theorem eq_M_carrySays_150 (x1 : Int32) (σ : am_St) : f_M_carrySays_150 x1 σ = g_M_carrySays_150 x1 σ := am_lk_eq _
set_option maxRecDepth 100000 in
set_option maxHeartbeats 4000000 in
theorem s_M_carrySays_150 (G : am_G) (x1 : Int32) (σ : am_St) (r : (Int32 × am_St) ⊕ (am_St)) (Q : am_AQ) (e : f_M_carrySays_150 x1 σ = some r) (hr : (Pl_M_carrySays_80 G) r Q) : am_AW G M_M_carrySays 150 [(1, .int x1), (0, .ref 66)] [] σ Q :=
  (show am_Snd G M_M_carrySays 150 (Pl_M_carrySays_80 G) _ from (sn_iinc (pc := 150) (v := 1) dX12_carrySays_150 rfl (Nat.le_of_ble_eq_true rfl) (sn_goto (pc := 153) (tgt := 80) dX12_carrySays_153 rfl (sn_lf (pc := 80) (ln_a (i := 0) (q := 66) (ln_i (i := 1) (fun z0 => (ln_end (o := fun τ => (some (.inl (z0, τ)) : Option ((Int32 × am_St) ⊕ (am_St)))) (fun _ _ _ e h => by cases e; exact h))))))))) _ _ _ _ _ ((eq_M_carrySays_150 x1 σ).symm.trans e) hr
noncomputable def g_M_carrySays_118 (x1 : Int32) (σ : am_St) : Option ((Int32 × am_St) ⊕ (am_St)) :=
  if am_ix x1 8 = true then
    (f_M_carry (σ.1 80 x1.toNatClampNeg) σ).bind (fun p1 =>
      if am_ix x1 8 = true then
        let s2 := am_sI p1.2 80 x1.toNatClampNeg p1.1
        if am_ix x1 8 = true then
          (f_M_carry (s2.1 81 x1.toNatClampNeg) s2).bind (fun p3 =>
            if am_ix x1 8 = true then
              let s4 := am_sI p3.2 81 x1.toNatClampNeg p3.1
              f_M_carrySays_150 x1 s4
            else none)
        else none
      else none)
  else none
noncomputable def f_M_carrySays_118 (x1 : Int32) (σ : am_St) : Option ((Int32 × am_St) ⊕ (am_St)) := am_lk (g_M_carrySays_118 x1 σ)
theorem eq_M_carrySays_118 (x1 : Int32) (σ : am_St) : f_M_carrySays_118 x1 σ = g_M_carrySays_118 x1 σ := am_lk_eq _
set_option maxRecDepth 100000 in
set_option maxHeartbeats 4000000 in
theorem s_M_carrySays_118 (G : am_G) (x1 : Int32) (σ : am_St) (r : (Int32 × am_St) ⊕ (am_St)) (Q : am_AQ) (e : f_M_carrySays_118 x1 σ = some r) (hr : (Pl_M_carrySays_80 G) r Q) : am_AW G M_M_carrySays 118 [(1, .int x1), (0, .ref 66)] [] σ Q :=
  (show am_Snd G M_M_carrySays 118 (Pl_M_carrySays_80 G) _ from (sn_aload_n (pc := 118) (i := 0) dX12_carrySays_118 rfl (sn_gR (r0 := 80) (pc := 119) (h := 66) (f := 20) dX12_carrySays_119 am_CL_11 sh_66 rfl (Nat.le_of_ble_eq_true rfl) tw_961 (sn_iload_n (pc := 122) (i := 1) dX12_carrySays_122 rfl (sn_aload_n (pc := 123) (i := 0) dX12_carrySays_123 rfl (sn_aload_n (pc := 124) (i := 0) dX12_carrySays_124 rfl (sn_gR (r0 := 80) (pc := 125) (h := 66) (f := 20) dX12_carrySays_125 am_CL_11 sh_66 rfl (Nat.le_of_ble_eq_true rfl) tw_961 (sn_iload_n (pc := 128) (i := 1) dX12_carrySays_128 rfl (sn_aI (pc := 129) (h := 80) dX12_carrySays_129 sh_80 (sn_callV (pc := 130) (N := M_M_carry) dX12_carrySays_130 (cal_M_carry G) sh_66 rfl tw_1130 tw_1132 tp_30 tw_12 tw_1133 dsc_X12_carry rfl (sn_sI (pc := 133) (h := 80) dX12_carrySays_133 sh_80 (sn_aload_n (pc := 134) (i := 0) dX12_carrySays_134 rfl (sn_gR (r0 := 81) (pc := 135) (h := 66) (f := 21) dX12_carrySays_135 am_CL_11 sh_66 rfl (Nat.le_of_ble_eq_true rfl) tw_962 (sn_iload_n (pc := 138) (i := 1) dX12_carrySays_138 rfl (sn_aload_n (pc := 139) (i := 0) dX12_carrySays_139 rfl (sn_aload_n (pc := 140) (i := 0) dX12_carrySays_140 rfl (sn_gR (r0 := 81) (pc := 141) (h := 66) (f := 21) dX12_carrySays_141 am_CL_11 sh_66 rfl (Nat.le_of_ble_eq_true rfl) tw_962 (sn_iload_n (pc := 144) (i := 1) dX12_carrySays_144 rfl (sn_aI (pc := 145) (h := 81) dX12_carrySays_145 sh_81 (sn_callV (pc := 146) (N := M_M_carry) dX12_carrySays_146 (cal_M_carry G) sh_66 rfl tw_1130 tw_1132 tp_30 tw_12 tw_1133 dsc_X12_carry rfl (sn_sI (pc := 149) (h := 81) dX12_carrySays_149 sh_81 (sn_lf (pc := 150) (ln_a (i := 0) (q := 66) (ln_i (i := 1) (fun z0 => (ln_end (o := fun τ => f_M_carrySays_150 z0 τ) (fun _ _ _ e h => s_M_carrySays_150 G z0 _ _ _ e h))))))))))))))))))))))))))) _ _ _ _ _ ((eq_M_carrySays_118 x1 σ).symm.trans e) hr
noncomputable def b_M_carrySays_80 (x1 : Int32) (σ : am_St) : Option ((Int32 × am_St) ⊕ (am_St)) :=
  if 8 ≤ x1 then
    some (.inr (σ))
  else
    if am_ix x1 8 = true then
      (f_M_carry (σ.1 78 x1.toNatClampNeg) σ).bind (fun p1 =>
        if am_ix x1 8 = true then
          let s2 := am_sI p1.2 78 x1.toNatClampNeg p1.1
          if am_ix x1 8 = true then
            (f_M_carry (s2.1 79 x1.toNatClampNeg) s2).bind (fun p3 =>
              if am_ix x1 8 = true then
                let s4 := am_sI p3.2 79 x1.toNatClampNeg p3.1
                f_M_carrySays_118 x1 s4
              else none)
          else none
        else none)
    else none
noncomputable def f_M_carrySays_80 (x1 : Int32) (σ : am_St) : Option (am_St) := am_lp (fun s : Int32 × am_St => b_M_carrySays_80 s.1 s.2) (x1, σ)
set_option maxRecDepth 100000 in
set_option maxHeartbeats 4000000 in
theorem sb_M_carrySays_80 (G : am_G) (x1 : Int32) (σ : am_St) (r : (Int32 × am_St) ⊕ (am_St)) (Q : am_AQ) (e : b_M_carrySays_80 x1 σ = some r) (hr : Pl_M_carrySays_80 G r Q) : am_AW G M_M_carrySays 80 [(1, .int x1), (0, .ref 66)] [] σ Q :=
  (show am_Snd G M_M_carrySays 80 (Pl_M_carrySays_80 G) _ from (sn_iload_n (pc := 80) (i := 1) dX12_carrySays_80 rfl (sn_bipush (pc := 81) (v := 8) dX12_carrySays_81 rfl (sn_icmp_ge (pc := 83) (tgt := 156) dX12_carrySays_83 rfl (sn_retv (pc := 156) (R := fun τ => (some (.inr (τ)) : Option ((Int32 × am_St) ⊕ (am_St)))) dX12_carrySays_156 rfl (fun _ _ _ e h => by cases e; exact h)) (sn_aload_n (pc := 86) (i := 0) dX12_carrySays_86 rfl (sn_gR (r0 := 78) (pc := 87) (h := 66) (f := 18) dX12_carrySays_87 am_CL_11 sh_66 rfl (Nat.le_of_ble_eq_true rfl) tw_959 (sn_iload_n (pc := 90) (i := 1) dX12_carrySays_90 rfl (sn_aload_n (pc := 91) (i := 0) dX12_carrySays_91 rfl (sn_aload_n (pc := 92) (i := 0) dX12_carrySays_92 rfl (sn_gR (r0 := 78) (pc := 93) (h := 66) (f := 18) dX12_carrySays_93 am_CL_11 sh_66 rfl (Nat.le_of_ble_eq_true rfl) tw_959 (sn_iload_n (pc := 96) (i := 1) dX12_carrySays_96 rfl (sn_aI (pc := 97) (h := 78) dX12_carrySays_97 sh_78 (sn_callV (pc := 98) (N := M_M_carry) dX12_carrySays_98 (cal_M_carry G) sh_66 rfl tw_1130 tw_1132 tp_30 tw_12 tw_1133 dsc_X12_carry rfl (sn_sI (pc := 101) (h := 78) dX12_carrySays_101 sh_78 (sn_aload_n (pc := 102) (i := 0) dX12_carrySays_102 rfl (sn_gR (r0 := 79) (pc := 103) (h := 66) (f := 19) dX12_carrySays_103 am_CL_11 sh_66 rfl (Nat.le_of_ble_eq_true rfl) tw_960 (sn_iload_n (pc := 106) (i := 1) dX12_carrySays_106 rfl (sn_aload_n (pc := 107) (i := 0) dX12_carrySays_107 rfl (sn_aload_n (pc := 108) (i := 0) dX12_carrySays_108 rfl (sn_gR (r0 := 79) (pc := 109) (h := 66) (f := 19) dX12_carrySays_109 am_CL_11 sh_66 rfl (Nat.le_of_ble_eq_true rfl) tw_960 (sn_iload_n (pc := 112) (i := 1) dX12_carrySays_112 rfl (sn_aI (pc := 113) (h := 79) dX12_carrySays_113 sh_79 (sn_callV (pc := 114) (N := M_M_carry) dX12_carrySays_114 (cal_M_carry G) sh_66 rfl tw_1130 tw_1132 tp_30 tw_12 tw_1133 dsc_X12_carry rfl (sn_sI (pc := 117) (h := 79) dX12_carrySays_117 sh_79 (sn_lf (pc := 118) (ln_a (i := 0) (q := 66) (ln_i (i := 1) (fun z0 => (ln_end (o := fun τ => f_M_carrySays_118 z0 τ) (fun _ _ _ e h => s_M_carrySays_118 G z0 _ _ _ e h)))))))))))))))))))))))))))))) _ _ _ _ _ e hr
theorem s_M_carrySays_80 (G : am_G) (x1 : Int32) (σ : am_St) (r : am_St) (Q : am_AQ) (e : f_M_carrySays_80 x1 σ = some r) (hr : am_Pv r Q) : am_AW G M_M_carrySays 80 [(1, .int x1), (0, .ref 66)] [] σ Q :=
  am_loop (P := am_Pv) (L := fun s : Int32 × am_St => [(1, .int s.1), (0, .ref 66)]) (g := fun s => s.2) (fun s o Q e hr => sb_M_carrySays_80 G s.1 s.2 o Q e hr) (x1, σ) r Q e hr
noncomputable def b_M_carrySays_2 (x1 : Int32) (σ : am_St) : Option ((Int32 × am_St) ⊕ (am_St)) :=
  if 16 ≤ x1 then
    (f_M_carrySays_80 0 σ).map (fun r => .inr r)
  else
    if am_ix x1 17 = true then
      (f_M_carry (σ.1 73 x1.toNatClampNeg) σ).bind (fun p1 =>
        if am_ix x1 17 = true then
          let s2 := am_sI p1.2 73 x1.toNatClampNeg p1.1
          if am_ix x1 17 = true then
            (f_M_carry (s2.1 74 x1.toNatClampNeg) s2).bind (fun p3 =>
              if am_ix x1 17 = true then
                let s4 := am_sI p3.2 74 x1.toNatClampNeg p3.1
                f_M_carrySays_40 x1 s4
              else none)
          else none
        else none)
    else none
noncomputable def f_M_carrySays_2 (x1 : Int32) (σ : am_St) : Option (am_St) := am_lp (fun s : Int32 × am_St => b_M_carrySays_2 s.1 s.2) (x1, σ)
set_option maxRecDepth 100000 in
set_option maxHeartbeats 4000000 in
theorem sb_M_carrySays_2 (G : am_G) (x1 : Int32) (σ : am_St) (r : (Int32 × am_St) ⊕ (am_St)) (Q : am_AQ) (e : b_M_carrySays_2 x1 σ = some r) (hr : Pl_M_carrySays_2 G r Q) : am_AW G M_M_carrySays 2 [(1, .int x1), (0, .ref 66)] [] σ Q :=
  (show am_Snd G M_M_carrySays 2 (Pl_M_carrySays_2 G) _ from (sn_iload_n (pc := 2) (i := 1) dX12_carrySays_2 rfl (sn_bipush (pc := 3) (v := 16) dX12_carrySays_3 rfl (sn_icmp_ge (pc := 5) (tgt := 78) dX12_carrySays_5 rfl (sn_iconst (pc := 78) (v := 0) dX12_carrySays_78 rfl (sn_istore_n (pc := 79) (i := 1) dX12_carrySays_79 rfl (Nat.le_of_ble_eq_true rfl) (sn_lf (pc := 80) (ln_a (i := 0) (q := 66) (ln_i (i := 1) (fun z0 => (ln_end (o := fun τ => ((f_M_carrySays_80 z0 τ).map (fun r => .inr r) : Option ((Int32 × am_St) ⊕ (am_St)))) (fun _ _ _ e h => by obtain ⟨r9, e9, rfl⟩ := am_map_some e; exact s_M_carrySays_80 G z0 _ _ _ e9 h)))))))) (sn_aload_n (pc := 8) (i := 0) dX12_carrySays_8 rfl (sn_gR (r0 := 73) (pc := 9) (h := 66) (f := 13) dX12_carrySays_9 am_CL_11 sh_66 rfl (Nat.le_of_ble_eq_true rfl) tw_954 (sn_iload_n (pc := 12) (i := 1) dX12_carrySays_12 rfl (sn_aload_n (pc := 13) (i := 0) dX12_carrySays_13 rfl (sn_aload_n (pc := 14) (i := 0) dX12_carrySays_14 rfl (sn_gR (r0 := 73) (pc := 15) (h := 66) (f := 13) dX12_carrySays_15 am_CL_11 sh_66 rfl (Nat.le_of_ble_eq_true rfl) tw_954 (sn_iload_n (pc := 18) (i := 1) dX12_carrySays_18 rfl (sn_aI (pc := 19) (h := 73) dX12_carrySays_19 sh_73 (sn_callV (pc := 20) (N := M_M_carry) dX12_carrySays_20 (cal_M_carry G) sh_66 rfl tw_1130 tw_1132 tp_30 tw_12 tw_1133 dsc_X12_carry rfl (sn_sI (pc := 23) (h := 73) dX12_carrySays_23 sh_73 (sn_aload_n (pc := 24) (i := 0) dX12_carrySays_24 rfl (sn_gR (r0 := 74) (pc := 25) (h := 66) (f := 14) dX12_carrySays_25 am_CL_11 sh_66 rfl (Nat.le_of_ble_eq_true rfl) tw_955 (sn_iload_n (pc := 28) (i := 1) dX12_carrySays_28 rfl (sn_aload_n (pc := 29) (i := 0) dX12_carrySays_29 rfl (sn_aload_n (pc := 30) (i := 0) dX12_carrySays_30 rfl (sn_gR (r0 := 74) (pc := 31) (h := 66) (f := 14) dX12_carrySays_31 am_CL_11 sh_66 rfl (Nat.le_of_ble_eq_true rfl) tw_955 (sn_iload_n (pc := 34) (i := 1) dX12_carrySays_34 rfl (sn_aI (pc := 35) (h := 74) dX12_carrySays_35 sh_74 (sn_callV (pc := 36) (N := M_M_carry) dX12_carrySays_36 (cal_M_carry G) sh_66 rfl tw_1130 tw_1132 tp_30 tw_12 tw_1133 dsc_X12_carry rfl (sn_sI (pc := 39) (h := 74) dX12_carrySays_39 sh_74 (sn_lf (pc := 40) (ln_a (i := 0) (q := 66) (ln_i (i := 1) (fun z0 => (ln_end (o := fun τ => f_M_carrySays_40 z0 τ) (fun _ _ _ e h => s_M_carrySays_40 G z0 _ _ _ e h)))))))))))))))))))))))))))))) _ _ _ _ _ e hr
theorem s_M_carrySays_2 (G : am_G) (x1 : Int32) (σ : am_St) (r : am_St) (Q : am_AQ) (e : f_M_carrySays_2 x1 σ = some r) (hr : am_Pv r Q) : am_AW G M_M_carrySays 2 [(1, .int x1), (0, .ref 66)] [] σ Q :=
  am_loop (P := am_Pv) (L := fun s : Int32 × am_St => [(1, .int s.1), (0, .ref 66)]) (g := fun s => s.2) (fun s o Q e hr => sb_M_carrySays_2 G s.1 s.2 o Q e hr) (x1, σ) r Q e hr
noncomputable def g_M_carrySays (σ : am_St) : Option (am_St) :=
  f_M_carrySays_2 0 σ
noncomputable def f_M_carrySays (σ : am_St) : Option (am_St) := am_lk (g_M_carrySays  σ)
theorem eq_M_carrySays (σ : am_St) : f_M_carrySays  σ = g_M_carrySays  σ := am_lk_eq _
set_option maxRecDepth 100000 in
set_option maxHeartbeats 4000000 in
theorem s_M_carrySays (G : am_G) (σ : am_St) (r : am_St) (Q : am_AQ) (e : f_M_carrySays  σ = some r) (hr : am_Pv r Q) : am_AW G M_M_carrySays 0 [(0, .ref 66)] [] σ Q :=
  (show am_Snd G M_M_carrySays 0 am_Pv _ from (sn_iconst (pc := 0) (v := 0) dX12_carrySays_0 rfl (sn_istore_n (pc := 1) (i := 1) dX12_carrySays_1 rfl (Nat.le_of_ble_eq_true rfl) (sn_lf (pc := 2) (ln_a (i := 0) (q := 66) (ln_i (i := 1) (fun z0 => (ln_end (o := fun τ => f_M_carrySays_2 z0 τ) (fun _ _ _ e h => s_M_carrySays_2 G z0 _ _ _ e h))))))))) _ _ _ _ _ ((eq_M_carrySays  σ).symm.trans e) hr
noncomputable def cF_M_carrySays : am_Fn := fun _ args σ K => match args with
  | [.ref q0] => match Nat.beq q0 66 with
    | true => (f_M_carrySays σ).bind (fun p => K none p)
    | _ => none
  | _ => none
theorem cal_M_carrySays (G : am_G) : am_Cal G M_M_carrySays cF_M_carrySays := by
  intro ρ args σ K r e
  unfold cF_M_carrySays at e
  split at e
  · split at e
    · rename_i hq0
      obtain ⟨p, h1, h2⟩ := am_bind_some e
      rw [Nat.eq_of_beq_eq_true hq0]
      exact ⟨none, p, am_Met.of rfl (Nat.le_of_ble_eq_true rfl) (s_M_carrySays G  σ p _ h1 ⟨rfl, rfl⟩), h2⟩
    · cases e
  · cases e
