abbrev M_M_notAlone : am_MD := (yX12_notAlone, cX12_notAlone, 3, (some .int), 4, 89)
theorem dX12_notAlone_0 : decode cX12_notAlone 0 = .ok (.iconst 0, 1) := by decide +kernel
theorem dX12_notAlone_1 : decode cX12_notAlone 1 = .ok (.istore_n 1, 1) := by decide +kernel
theorem dX12_notAlone_2 : decode cX12_notAlone 2 = .ok (.iconst 0, 1) := by decide +kernel
theorem dX12_notAlone_3 : decode cX12_notAlone 3 = .ok (.istore_n 2, 1) := by decide +kernel
theorem dX12_notAlone_4 : decode cX12_notAlone 4 = .ok (.iload_n 2, 1) := by decide +kernel
theorem dX12_notAlone_5 : decode cX12_notAlone 5 = .ok (.aload_n 0, 1) := by decide +kernel
theorem dX12_notAlone_6 : decode cX12_notAlone 6 = .ok (.getfield 239, 3) := by decide +kernel
theorem dX12_notAlone_9 : decode cX12_notAlone 9 = .ok (.if_icmp .ge 27, 3) := by decide +kernel
theorem dX12_notAlone_12 : decode cX12_notAlone 12 = .ok (.iload_n 1, 1) := by decide +kernel
theorem dX12_notAlone_13 : decode cX12_notAlone 13 = .ok (.aload_n 0, 1) := by decide +kernel
theorem dX12_notAlone_14 : decode cX12_notAlone 14 = .ok (.iload_n 2, 1) := by decide +kernel
theorem dX12_notAlone_15 : decode cX12_notAlone 15 = .ok (.invokevirtual 291, 3) := by decide +kernel
theorem dX12_notAlone_18 : decode cX12_notAlone 18 = .ok (.ifCond .ne 9, 3) := by decide +kernel
theorem dX12_notAlone_21 : decode cX12_notAlone 21 = .ok (.iconst 1, 1) := by decide +kernel
theorem dX12_notAlone_22 : decode cX12_notAlone 22 = .ok (.iload_n 2, 1) := by decide +kernel
theorem dX12_notAlone_23 : decode cX12_notAlone 23 = .ok (.ishl, 1) := by decide +kernel
theorem dX12_notAlone_24 : decode cX12_notAlone 24 = .ok (.goto 4, 3) := by decide +kernel
theorem dX12_notAlone_27 : decode cX12_notAlone 27 = .ok (.iconst 0, 1) := by decide +kernel
theorem dX12_notAlone_28 : decode cX12_notAlone 28 = .ok (.ior, 1) := by decide +kernel
theorem dX12_notAlone_29 : decode cX12_notAlone 29 = .ok (.istore_n 1, 1) := by decide +kernel
theorem dX12_notAlone_30 : decode cX12_notAlone 30 = .ok (.iinc 2 1, 3) := by decide +kernel
theorem dX12_notAlone_33 : decode cX12_notAlone 33 = .ok (.goto (-29), 3) := by decide +kernel
theorem dX12_notAlone_36 : decode cX12_notAlone 36 = .ok (.iload_n 1, 1) := by decide +kernel
theorem dX12_notAlone_37 : decode cX12_notAlone 37 = .ok (.ireturn, 1) := by decide +kernel
abbrev Pl_M_notAlone_4 (G : am_G) : ((Int32 × Int32 × am_St) ⊕ (Int32 × am_St)) → am_AQ → Prop := am_PL G M_M_notAlone 4 (fun s : Int32 × Int32 × am_St => [(2, .int s.2.1), (1, .int s.1), (0, .ref 66)]) (fun s => s.2.2) am_Pi
noncomputable def g_M_notAlone_28 (x2 : Int32) (y0 : Int32) (y1 : Int32) (σ : am_St) : Option ((Int32 × Int32 × am_St) ⊕ (Int32 × am_St)) :=
  let v1 := y0 ||| y1
  let v2 := x2 + 1
  some (.inl (v1, v2, σ))
noncomputable def f_M_notAlone_28 (x2 : Int32) (y0 : Int32) (y1 : Int32) (σ : am_St) : Option ((Int32 × Int32 × am_St) ⊕ (Int32 × am_St)) := am_lk (g_M_notAlone_28 x2 y0 y1 σ)
theorem eq_M_notAlone_28 (x2 : Int32) (y0 : Int32) (y1 : Int32) (σ : am_St) : f_M_notAlone_28 x2 y0 y1 σ = g_M_notAlone_28 x2 y0 y1 σ := am_lk_eq _
set_option maxRecDepth 100000 in
set_option maxHeartbeats 4000000 in
theorem s_M_notAlone_28 (G : am_G) (x2 : Int32) (y0 : Int32) (y1 : Int32) (σ : am_St) (r : (Int32 × Int32 × am_St) ⊕ (Int32 × am_St)) (Q : am_AQ) (e : f_M_notAlone_28 x2 y0 y1 σ = some r) (hr : (Pl_M_notAlone_4 G) r Q) : am_AW G M_M_notAlone 28 [(2, .int x2), (0, .ref 66)] [.int y1, .int y0] σ Q :=
  (show am_Snd G M_M_notAlone 28 (Pl_M_notAlone_4 G) _ from (sn_ior (pc := 28) dX12_notAlone_28 (sn_istore_n (pc := 29) (i := 1) dX12_notAlone_29 rfl (Nat.le_of_ble_eq_true rfl) (sn_iinc (pc := 30) (v := 1) dX12_notAlone_30 rfl (Nat.le_of_ble_eq_true rfl) (sn_goto (pc := 33) (tgt := 4) dX12_notAlone_33 rfl (sn_lf (pc := 4) (ln_a (i := 0) (q := 66) (ln_i (i := 1) (fun z0 => (ln_i (i := 2) (fun z1 => (ln_end (o := fun τ => (some (.inl (z0, z1, τ)) : Option ((Int32 × Int32 × am_St) ⊕ (Int32 × am_St)))) (fun _ _ _ e h => by cases e; exact h))))))))))))) _ _ _ _ _ ((eq_M_notAlone_28 x2 y0 y1 σ).symm.trans e) hr
noncomputable def b_M_notAlone_4 (x1 : Int32) (x2 : Int32) (σ : am_St) : Option ((Int32 × Int32 × am_St) ⊕ (Int32 × am_St)) :=
  if (σ.1 66 4) ≤ x2 then
    some (.inr ((x1, σ)))
  else
    (f_M_holdsOf x2 σ).bind (fun p1 =>
      if p1.1 = 0 then
        f_M_notAlone_28 x2 x1 (1 <<< (x2 &&& 31)) p1.2
      else
        f_M_notAlone_28 x2 x1 0 p1.2)
noncomputable def f_M_notAlone_4 (x1 : Int32) (x2 : Int32) (σ : am_St) : Option (Int32 × am_St) := am_lp (fun s : Int32 × Int32 × am_St => b_M_notAlone_4 s.1 s.2.1 s.2.2) (x1, x2, σ)
set_option maxRecDepth 100000 in
set_option maxHeartbeats 4000000 in
theorem sb_M_notAlone_4 (G : am_G) (x1 : Int32) (x2 : Int32) (σ : am_St) (r : (Int32 × Int32 × am_St) ⊕ (Int32 × am_St)) (Q : am_AQ) (e : b_M_notAlone_4 x1 x2 σ = some r) (hr : Pl_M_notAlone_4 G r Q) : am_AW G M_M_notAlone 4 [(2, .int x2), (1, .int x1), (0, .ref 66)] [] σ Q :=
  (show am_Snd G M_M_notAlone 4 (Pl_M_notAlone_4 G) _ from (sn_iload_n (pc := 4) (i := 2) dX12_notAlone_4 rfl (sn_aload_n (pc := 5) (i := 0) dX12_notAlone_5 rfl (sn_gI (pc := 6) (h := 66) (f := 4) dX12_notAlone_6 am_CL_11 sh_66 rfl (Nat.le_of_ble_eq_true rfl) tw_945 (sn_icmp_ge (pc := 9) (tgt := 36) dX12_notAlone_9 rfl (sn_iload_n (pc := 36) (i := 1) dX12_notAlone_36 rfl (sn_reti (pc := 37) (R := fun x τ => (some (.inr ((x, τ))) : Option ((Int32 × Int32 × am_St) ⊕ (Int32 × am_St)))) dX12_notAlone_37 rfl (fun _ _ _ _ e h => by cases e; exact h))) (sn_iload_n (pc := 12) (i := 1) dX12_notAlone_12 rfl (sn_aload_n (pc := 13) (i := 0) dX12_notAlone_13 rfl (sn_iload_n (pc := 14) (i := 2) dX12_notAlone_14 rfl (sn_callV (pc := 15) (N := M_M_holdsOf) dX12_notAlone_15 (cal_M_holdsOf G) sh_66 rfl tw_1304 tw_1306 tp_53 tw_12 tw_1307 dsc_X12_holdsOf rfl (sn_if_ne (pc := 18) (tgt := 27) dX12_notAlone_18 rfl (sn_iconst (pc := 27) (v := 0) dX12_notAlone_27 rfl (sn_lf (pc := 28) (ln_a (i := 0) (q := 66) (ln_i (i := 2) (fun z0 => (ln_si (fun w1 => (ln_si (fun w0 => (ln_end (o := fun τ => f_M_notAlone_28 z0 w0 w1 τ) (fun _ _ _ e h => s_M_notAlone_28 G z0 w0 w1 _ _ _ e h))))))))))) (sn_iconst (pc := 21) (v := 1) dX12_notAlone_21 rfl (sn_iload_n (pc := 22) (i := 2) dX12_notAlone_22 rfl (sn_ishl (pc := 23) dX12_notAlone_23 (sn_goto (pc := 24) (tgt := 28) dX12_notAlone_24 rfl (sn_lf (pc := 28) (ln_a (i := 0) (q := 66) (ln_i (i := 2) (fun z0 => (ln_si (fun w1 => (ln_si (fun w0 => (ln_end (o := fun τ => f_M_notAlone_28 z0 w0 w1 τ) (fun _ _ _ e h => s_M_notAlone_28 G z0 w0 w1 _ _ _ e h)))))))))))))))))))))))) _ _ _ _ _ e hr
theorem s_M_notAlone_4 (G : am_G) (x1 : Int32) (x2 : Int32) (σ : am_St) (r : Int32 × am_St) (Q : am_AQ) (e : f_M_notAlone_4 x1 x2 σ = some r) (hr : am_Pi r Q) : am_AW G M_M_notAlone 4 [(2, .int x2), (1, .int x1), (0, .ref 66)] [] σ Q :=
  am_loop (P := am_Pi) (L := fun s : Int32 × Int32 × am_St => [(2, .int s.2.1), (1, .int s.1), (0, .ref 66)]) (g := fun s => s.2.2) (fun s o Q e hr => sb_M_notAlone_4 G s.1 s.2.1 s.2.2 o Q e hr) (x1, x2, σ) r Q e hr
noncomputable def g_M_notAlone (σ : am_St) : Option (Int32 × am_St) :=
  f_M_notAlone_4 0 0 σ
noncomputable def f_M_notAlone (σ : am_St) : Option (Int32 × am_St) := am_lk (g_M_notAlone  σ)
theorem eq_M_notAlone (σ : am_St) : f_M_notAlone  σ = g_M_notAlone  σ := am_lk_eq _
set_option maxRecDepth 100000 in
set_option maxHeartbeats 4000000 in
theorem s_M_notAlone (G : am_G) (σ : am_St) (r : Int32 × am_St) (Q : am_AQ) (e : f_M_notAlone  σ = some r) (hr : am_Pi r Q) : am_AW G M_M_notAlone 0 [(0, .ref 66)] [] σ Q :=
  (show am_Snd G M_M_notAlone 0 am_Pi _ from (sn_iconst (pc := 0) (v := 0) dX12_notAlone_0 rfl (sn_istore_n (pc := 1) (i := 1) dX12_notAlone_1 rfl (Nat.le_of_ble_eq_true rfl) (sn_iconst (pc := 2) (v := 0) dX12_notAlone_2 rfl (sn_istore_n (pc := 3) (i := 2) dX12_notAlone_3 rfl (Nat.le_of_ble_eq_true rfl) (sn_lf (pc := 4) (ln_a (i := 0) (q := 66) (ln_i (i := 1) (fun z0 => (ln_i (i := 2) (fun z1 => (ln_end (o := fun τ => f_M_notAlone_4 z0 z1 τ) (fun _ _ _ e h => s_M_notAlone_4 G z0 z1 _ _ _ e h))))))))))))) _ _ _ _ _ ((eq_M_notAlone  σ).symm.trans e) hr
noncomputable def cF_M_notAlone : am_Fn := fun _ args σ K => match args with
  | [.ref q0] => match Nat.beq q0 66 with
    | true => (f_M_notAlone σ).bind (fun p => K (some (.int p.1)) p.2)
    | _ => none
  | _ => none
theorem cal_M_notAlone (G : am_G) : am_Cal G M_M_notAlone cF_M_notAlone := by
  intro ρ args σ K r e
  unfold cF_M_notAlone at e
  split at e
  · split at e
    · rename_i hq0
      obtain ⟨p, h1, h2⟩ := am_bind_some e
      rw [Nat.eq_of_beq_eq_true hq0]
      exact ⟨some (.int p.1), p.2, am_Met.of rfl (Nat.le_of_ble_eq_true rfl) (s_M_notAlone G  σ p _ h1 ⟨rfl, rfl⟩), h2⟩
    · cases e
  · cases e
abbrev M_M_speakersOf : am_MD := (yX12_speakersOf, cX12_speakersOf, 4, (some .int), 1, 21)
theorem dX12_speakersOf_0 : decode cX12_speakersOf 0 = .ok (.iconst 0, 1) := by decide +kernel
theorem dX12_speakersOf_1 : decode cX12_speakersOf 1 = .ok (.istore_n 2, 1) := by decide +kernel
theorem dX12_speakersOf_2 : decode cX12_speakersOf 2 = .ok (.iconst 0, 1) := by decide +kernel
theorem dX12_speakersOf_3 : decode cX12_speakersOf 3 = .ok (.istore_n 3, 1) := by decide +kernel
theorem dX12_speakersOf_4 : decode cX12_speakersOf 4 = .ok (.iload_n 3, 1) := by decide +kernel
theorem dX12_speakersOf_5 : decode cX12_speakersOf 5 = .ok (.aload_n 0, 1) := by decide +kernel
theorem dX12_speakersOf_6 : decode cX12_speakersOf 6 = .ok (.getfield 239, 3) := by decide +kernel
theorem dX12_speakersOf_9 : decode cX12_speakersOf 9 = .ok (.if_icmp .ge 32, 3) := by decide +kernel
theorem dX12_speakersOf_12 : decode cX12_speakersOf 12 = .ok (.iload_n 2, 1) := by decide +kernel
theorem dX12_speakersOf_13 : decode cX12_speakersOf 13 = .ok (.iload_n 1, 1) := by decide +kernel
theorem dX12_speakersOf_14 : decode cX12_speakersOf 14 = .ok (.iload_n 3, 1) := by decide +kernel
theorem dX12_speakersOf_15 : decode cX12_speakersOf 15 = .ok (.invokestatic 115, 3) := by decide +kernel
theorem dX12_speakersOf_18 : decode cX12_speakersOf 18 = .ok (.ifCond .eq 14, 3) := by decide +kernel
theorem dX12_speakersOf_21 : decode cX12_speakersOf 21 = .ok (.iconst 1, 1) := by decide +kernel
theorem dX12_speakersOf_22 : decode cX12_speakersOf 22 = .ok (.aload_n 0, 1) := by decide +kernel
theorem dX12_speakersOf_23 : decode cX12_speakersOf 23 = .ok (.getfield 50, 3) := by decide +kernel
theorem dX12_speakersOf_26 : decode cX12_speakersOf 26 = .ok (.iload_n 3, 1) := by decide +kernel
theorem dX12_speakersOf_27 : decode cX12_speakersOf 27 = .ok (.iaload, 1) := by decide +kernel
theorem dX12_speakersOf_28 : decode cX12_speakersOf 28 = .ok (.ishl, 1) := by decide +kernel
theorem dX12_speakersOf_29 : decode cX12_speakersOf 29 = .ok (.goto 4, 3) := by decide +kernel
theorem dX12_speakersOf_32 : decode cX12_speakersOf 32 = .ok (.iconst 0, 1) := by decide +kernel
theorem dX12_speakersOf_33 : decode cX12_speakersOf 33 = .ok (.ior, 1) := by decide +kernel
theorem dX12_speakersOf_34 : decode cX12_speakersOf 34 = .ok (.istore_n 2, 1) := by decide +kernel
theorem dX12_speakersOf_35 : decode cX12_speakersOf 35 = .ok (.iinc 3 1, 3) := by decide +kernel
theorem dX12_speakersOf_38 : decode cX12_speakersOf 38 = .ok (.goto (-34), 3) := by decide +kernel
theorem dX12_speakersOf_41 : decode cX12_speakersOf 41 = .ok (.iload_n 2, 1) := by decide +kernel
theorem dX12_speakersOf_42 : decode cX12_speakersOf 42 = .ok (.ireturn, 1) := by decide +kernel
abbrev Pl_M_speakersOf_4 (G : am_G) : ((Int32 × Int32 × Int32 × am_St) ⊕ (Int32 × am_St)) → am_AQ → Prop := am_PL G M_M_speakersOf 4 (fun s : Int32 × Int32 × Int32 × am_St => [(3, .int s.2.2.1), (2, .int s.2.1), (1, .int s.1), (0, .ref 66)]) (fun s => s.2.2.2) am_Pi
noncomputable def g_M_speakersOf_33 (x1 : Int32) (x3 : Int32) (y0 : Int32) (y1 : Int32) (σ : am_St) : Option ((Int32 × Int32 × Int32 × am_St) ⊕ (Int32 × am_St)) :=
  let v1 := y0 ||| y1
  let v2 := x3 + 1
  some (.inl (x1, v1, v2, σ))
noncomputable def f_M_speakersOf_33 (x1 : Int32) (x3 : Int32) (y0 : Int32) (y1 : Int32) (σ : am_St) : Option ((Int32 × Int32 × Int32 × am_St) ⊕ (Int32 × am_St)) := am_lk (g_M_speakersOf_33 x1 x3 y0 y1 σ)
theorem eq_M_speakersOf_33 (x1 : Int32) (x3 : Int32) (y0 : Int32) (y1 : Int32) (σ : am_St) : f_M_speakersOf_33 x1 x3 y0 y1 σ = g_M_speakersOf_33 x1 x3 y0 y1 σ := am_lk_eq _
set_option maxRecDepth 100000 in
set_option maxHeartbeats 4000000 in
theorem s_M_speakersOf_33 (G : am_G) (x1 : Int32) (x3 : Int32) (y0 : Int32) (y1 : Int32) (σ : am_St) (r : (Int32 × Int32 × Int32 × am_St) ⊕ (Int32 × am_St)) (Q : am_AQ) (e : f_M_speakersOf_33 x1 x3 y0 y1 σ = some r) (hr : (Pl_M_speakersOf_4 G) r Q) : am_AW G M_M_speakersOf 33 [(3, .int x3), (1, .int x1), (0, .ref 66)] [.int y1, .int y0] σ Q :=
  (show am_Snd G M_M_speakersOf 33 (Pl_M_speakersOf_4 G) _ from (sn_ior (pc := 33) dX12_speakersOf_33 (sn_istore_n (pc := 34) (i := 2) dX12_speakersOf_34 rfl (Nat.le_of_ble_eq_true rfl) (sn_iinc (pc := 35) (v := 1) dX12_speakersOf_35 rfl (Nat.le_of_ble_eq_true rfl) (sn_goto (pc := 38) (tgt := 4) dX12_speakersOf_38 rfl (sn_lf (pc := 4) (ln_a (i := 0) (q := 66) (ln_i (i := 1) (fun z0 => (ln_i (i := 2) (fun z1 => (ln_i (i := 3) (fun z2 => (ln_end (o := fun τ => (some (.inl (z0, z1, z2, τ)) : Option ((Int32 × Int32 × Int32 × am_St) ⊕ (Int32 × am_St)))) (fun _ _ _ e h => by cases e; exact h))))))))))))))) _ _ _ _ _ ((eq_M_speakersOf_33 x1 x3 y0 y1 σ).symm.trans e) hr
noncomputable def b_M_speakersOf_4 (x1 : Int32) (x2 : Int32) (x3 : Int32) (σ : am_St) : Option ((Int32 × Int32 × Int32 × am_St) ⊕ (Int32 × am_St)) :=
  if (σ.1 66 4) ≤ x3 then
    some (.inr ((x2, σ)))
  else
    (f_M_has x1 x3 σ).bind (fun p1 =>
      if p1.1 = 0 then
        f_M_speakersOf_33 x1 x3 x2 0 p1.2
      else
        if am_ix x3 8 = true then
          f_M_speakersOf_33 x1 x3 x2 (1 <<< ((p1.2.1 78 x3.toNatClampNeg) &&& 31)) p1.2
        else none)
noncomputable def f_M_speakersOf_4 (x1 : Int32) (x2 : Int32) (x3 : Int32) (σ : am_St) : Option (Int32 × am_St) := am_lp (fun s : Int32 × Int32 × Int32 × am_St => b_M_speakersOf_4 s.1 s.2.1 s.2.2.1 s.2.2.2) (x1, x2, x3, σ)
set_option maxRecDepth 100000 in
set_option maxHeartbeats 4000000 in
theorem sb_M_speakersOf_4 (G : am_G) (x1 : Int32) (x2 : Int32) (x3 : Int32) (σ : am_St) (r : (Int32 × Int32 × Int32 × am_St) ⊕ (Int32 × am_St)) (Q : am_AQ) (e : b_M_speakersOf_4 x1 x2 x3 σ = some r) (hr : Pl_M_speakersOf_4 G r Q) : am_AW G M_M_speakersOf 4 [(3, .int x3), (2, .int x2), (1, .int x1), (0, .ref 66)] [] σ Q :=
  (show am_Snd G M_M_speakersOf 4 (Pl_M_speakersOf_4 G) _ from (sn_iload_n (pc := 4) (i := 3) dX12_speakersOf_4 rfl (sn_aload_n (pc := 5) (i := 0) dX12_speakersOf_5 rfl (sn_gI (pc := 6) (h := 66) (f := 4) dX12_speakersOf_6 am_CL_11 sh_66 rfl (Nat.le_of_ble_eq_true rfl) tw_945 (sn_icmp_ge (pc := 9) (tgt := 41) dX12_speakersOf_9 rfl (sn_iload_n (pc := 41) (i := 2) dX12_speakersOf_41 rfl (sn_reti (pc := 42) (R := fun x τ => (some (.inr ((x, τ))) : Option ((Int32 × Int32 × Int32 × am_St) ⊕ (Int32 × am_St)))) dX12_speakersOf_42 rfl (fun _ _ _ _ e h => by cases e; exact h))) (sn_iload_n (pc := 12) (i := 2) dX12_speakersOf_12 rfl (sn_iload_n (pc := 13) (i := 1) dX12_speakersOf_13 rfl (sn_iload_n (pc := 14) (i := 3) dX12_speakersOf_14 rfl (sn_callS (pc := 15) (N := M_M_has) dX12_speakersOf_15 (cal_M_has G) tw_1170 tw_1171 tw_12 tw_1172 dsc_X12_has rfl (sn_if_eq (pc := 18) (tgt := 32) dX12_speakersOf_18 rfl (sn_iconst (pc := 32) (v := 0) dX12_speakersOf_32 rfl (sn_lf (pc := 33) (ln_a (i := 0) (q := 66) (ln_i (i := 1) (fun z0 => (ln_i (i := 3) (fun z1 => (ln_si (fun w1 => (ln_si (fun w0 => (ln_end (o := fun τ => f_M_speakersOf_33 z0 z1 w0 w1 τ) (fun _ _ _ e h => s_M_speakersOf_33 G z0 z1 w0 w1 _ _ _ e h))))))))))))) (sn_iconst (pc := 21) (v := 1) dX12_speakersOf_21 rfl (sn_aload_n (pc := 22) (i := 0) dX12_speakersOf_22 rfl (sn_gR (r0 := 78) (pc := 23) (h := 66) (f := 18) dX12_speakersOf_23 am_CL_11 sh_66 rfl (Nat.le_of_ble_eq_true rfl) tw_959 (sn_iload_n (pc := 26) (i := 3) dX12_speakersOf_26 rfl (sn_aI (pc := 27) (h := 78) dX12_speakersOf_27 sh_78 (sn_ishl (pc := 28) dX12_speakersOf_28 (sn_goto (pc := 29) (tgt := 33) dX12_speakersOf_29 rfl (sn_lf (pc := 33) (ln_a (i := 0) (q := 66) (ln_i (i := 1) (fun z0 => (ln_i (i := 3) (fun z1 => (ln_si (fun w1 => (ln_si (fun w0 => (ln_end (o := fun τ => f_M_speakersOf_33 z0 z1 w0 w1 τ) (fun _ _ _ e h => s_M_speakersOf_33 G z0 z1 w0 w1 _ _ _ e h))))))))))))))))))))))))))))) _ _ _ _ _ e hr
theorem s_M_speakersOf_4 (G : am_G) (x1 : Int32) (x2 : Int32) (x3 : Int32) (σ : am_St) (r : Int32 × am_St) (Q : am_AQ) (e : f_M_speakersOf_4 x1 x2 x3 σ = some r) (hr : am_Pi r Q) : am_AW G M_M_speakersOf 4 [(3, .int x3), (2, .int x2), (1, .int x1), (0, .ref 66)] [] σ Q :=
  am_loop (P := am_Pi) (L := fun s : Int32 × Int32 × Int32 × am_St => [(3, .int s.2.2.1), (2, .int s.2.1), (1, .int s.1), (0, .ref 66)]) (g := fun s => s.2.2.2) (fun s o Q e hr => sb_M_speakersOf_4 G s.1 s.2.1 s.2.2.1 s.2.2.2 o Q e hr) (x1, x2, x3, σ) r Q e hr
noncomputable def g_M_speakersOf (x1 : Int32) (σ : am_St) : Option (Int32 × am_St) :=
  f_M_speakersOf_4 x1 0 0 σ
noncomputable def f_M_speakersOf (x1 : Int32) (σ : am_St) : Option (Int32 × am_St) := am_lk (g_M_speakersOf x1 σ)
theorem eq_M_speakersOf (x1 : Int32) (σ : am_St) : f_M_speakersOf x1 σ = g_M_speakersOf x1 σ := am_lk_eq _
set_option maxRecDepth 100000 in
set_option maxHeartbeats 4000000 in
theorem s_M_speakersOf (G : am_G) (x1 : Int32) (σ : am_St) (r : Int32 × am_St) (Q : am_AQ) (e : f_M_speakersOf x1 σ = some r) (hr : am_Pi r Q) : am_AW G M_M_speakersOf 0 [(0, .ref 66), (1, .int x1)] [] σ Q :=
  (show am_Snd G M_M_speakersOf 0 am_Pi _ from (sn_iconst (pc := 0) (v := 0) dX12_speakersOf_0 rfl (sn_istore_n (pc := 1) (i := 2) dX12_speakersOf_1 rfl (Nat.le_of_ble_eq_true rfl) (sn_iconst (pc := 2) (v := 0) dX12_speakersOf_2 rfl (sn_istore_n (pc := 3) (i := 3) dX12_speakersOf_3 rfl (Nat.le_of_ble_eq_true rfl) (sn_lf (pc := 4) (ln_a (i := 0) (q := 66) (ln_i (i := 1) (fun z0 => (ln_i (i := 2) (fun z1 => (ln_i (i := 3) (fun z2 => (ln_end (o := fun τ => f_M_speakersOf_4 z0 z1 z2 τ) (fun _ _ _ e h => s_M_speakersOf_4 G z0 z1 z2 _ _ _ e h))))))))))))))) _ _ _ _ _ ((eq_M_speakersOf x1 σ).symm.trans e) hr
noncomputable def cF_M_speakersOf : am_Fn := fun _ args σ K => match args with
  | [.ref q0, .int z1] => match Nat.beq q0 66 with
    | true => (f_M_speakersOf z1 σ).bind (fun p => K (some (.int p.1)) p.2)
    | _ => none
  | _ => none
theorem cal_M_speakersOf (G : am_G) : am_Cal G M_M_speakersOf cF_M_speakersOf := by
  intro ρ args σ K r e
  unfold cF_M_speakersOf at e
  split at e
  · split at e
    · rename_i hq0
      obtain ⟨p, h1, h2⟩ := am_bind_some e
      rw [Nat.eq_of_beq_eq_true hq0]
      exact ⟨some (.int p.1), p.2, am_Met.of rfl (Nat.le_of_ble_eq_true rfl) (s_M_speakersOf G _ σ p _ h1 ⟨rfl, rfl⟩), h2⟩
    · cases e
  · cases e
abbrev M_M_inSomeOf : am_MD := (yX12_inSomeOf, cX12_inSomeOf, 4, (some .int), 3, 69)
theorem dX12_inSomeOf_0 : decode cX12_inSomeOf 0 = .ok (.iconst 0, 1) := by decide +kernel
theorem dX12_inSomeOf_1 : decode cX12_inSomeOf 1 = .ok (.istore_n 2, 1) := by decide +kernel
theorem dX12_inSomeOf_2 : decode cX12_inSomeOf 2 = .ok (.iconst 0, 1) := by decide +kernel
theorem dX12_inSomeOf_3 : decode cX12_inSomeOf 3 = .ok (.istore_n 3, 1) := by decide +kernel
theorem dX12_inSomeOf_4 : decode cX12_inSomeOf 4 = .ok (.iload_n 3, 1) := by decide +kernel
theorem dX12_inSomeOf_5 : decode cX12_inSomeOf 5 = .ok (.iconst 1, 1) := by decide +kernel
theorem dX12_inSomeOf_6 : decode cX12_inSomeOf 6 = .ok (.aload_n 0, 1) := by decide +kernel
theorem dX12_inSomeOf_7 : decode cX12_inSomeOf 7 = .ok (.getfield 239, 3) := by decide +kernel
theorem dX12_inSomeOf_10 : decode cX12_inSomeOf 10 = .ok (.ishl, 1) := by decide +kernel
theorem dX12_inSomeOf_11 : decode cX12_inSomeOf 11 = .ok (.if_icmp .ge 33, 3) := by decide +kernel
theorem dX12_inSomeOf_14 : decode cX12_inSomeOf 14 = .ok (.iload_n 2, 1) := by decide +kernel
theorem dX12_inSomeOf_15 : decode cX12_inSomeOf 15 = .ok (.iload_n 3, 1) := by decide +kernel
theorem dX12_inSomeOf_16 : decode cX12_inSomeOf 16 = .ok (.invokestatic 297, 3) := by decide +kernel
theorem dX12_inSomeOf_19 : decode cX12_inSomeOf 19 = .ok (.iload_n 1, 1) := by decide +kernel
theorem dX12_inSomeOf_20 : decode cX12_inSomeOf 20 = .ok (.if_icmp .ne 15, 3) := by decide +kernel
theorem dX12_inSomeOf_23 : decode cX12_inSomeOf 23 = .ok (.aload_n 0, 1) := by decide +kernel
theorem dX12_inSomeOf_24 : decode cX12_inSomeOf 24 = .ok (.iload_n 3, 1) := by decide +kernel
theorem dX12_inSomeOf_25 : decode cX12_inSomeOf 25 = .ok (.invokevirtual 294, 3) := by decide +kernel
theorem dX12_inSomeOf_28 : decode cX12_inSomeOf 28 = .ok (.ifCond .eq 7, 3) := by decide +kernel
theorem dX12_inSomeOf_31 : decode cX12_inSomeOf 31 = .ok (.iload_n 3, 1) := by decide +kernel
theorem dX12_inSomeOf_32 : decode cX12_inSomeOf 32 = .ok (.goto 4, 3) := by decide +kernel
theorem dX12_inSomeOf_35 : decode cX12_inSomeOf 35 = .ok (.iconst 0, 1) := by decide +kernel
theorem dX12_inSomeOf_36 : decode cX12_inSomeOf 36 = .ok (.ior, 1) := by decide +kernel
theorem dX12_inSomeOf_37 : decode cX12_inSomeOf 37 = .ok (.istore_n 2, 1) := by decide +kernel
theorem dX12_inSomeOf_38 : decode cX12_inSomeOf 38 = .ok (.iinc 3 1, 3) := by decide +kernel
theorem dX12_inSomeOf_41 : decode cX12_inSomeOf 41 = .ok (.goto (-37), 3) := by decide +kernel
theorem dX12_inSomeOf_44 : decode cX12_inSomeOf 44 = .ok (.iload_n 2, 1) := by decide +kernel
theorem dX12_inSomeOf_45 : decode cX12_inSomeOf 45 = .ok (.ireturn, 1) := by decide +kernel
abbrev Pl_M_inSomeOf_4 (G : am_G) : ((Int32 × Int32 × Int32 × am_St) ⊕ (Int32 × am_St)) → am_AQ → Prop := am_PL G M_M_inSomeOf 4 (fun s : Int32 × Int32 × Int32 × am_St => [(3, .int s.2.2.1), (2, .int s.2.1), (1, .int s.1), (0, .ref 66)]) (fun s => s.2.2.2) am_Pi
noncomputable def g_M_inSomeOf_36 (x1 : Int32) (x3 : Int32) (y0 : Int32) (y1 : Int32) (σ : am_St) : Option ((Int32 × Int32 × Int32 × am_St) ⊕ (Int32 × am_St)) :=
  let v1 := y0 ||| y1
  let v2 := x3 + 1
  some (.inl (x1, v1, v2, σ))
noncomputable def f_M_inSomeOf_36 (x1 : Int32) (x3 : Int32) (y0 : Int32) (y1 : Int32) (σ : am_St) : Option ((Int32 × Int32 × Int32 × am_St) ⊕ (Int32 × am_St)) := am_lk (g_M_inSomeOf_36 x1 x3 y0 y1 σ)
theorem eq_M_inSomeOf_36 (x1 : Int32) (x3 : Int32) (y0 : Int32) (y1 : Int32) (σ : am_St) : f_M_inSomeOf_36 x1 x3 y0 y1 σ = g_M_inSomeOf_36 x1 x3 y0 y1 σ := am_lk_eq _
set_option maxRecDepth 100000 in
set_option maxHeartbeats 4000000 in
theorem s_M_inSomeOf_36 (G : am_G) (x1 : Int32) (x3 : Int32) (y0 : Int32) (y1 : Int32) (σ : am_St) (r : (Int32 × Int32 × Int32 × am_St) ⊕ (Int32 × am_St)) (Q : am_AQ) (e : f_M_inSomeOf_36 x1 x3 y0 y1 σ = some r) (hr : (Pl_M_inSomeOf_4 G) r Q) : am_AW G M_M_inSomeOf 36 [(3, .int x3), (1, .int x1), (0, .ref 66)] [.int y1, .int y0] σ Q :=
  (show am_Snd G M_M_inSomeOf 36 (Pl_M_inSomeOf_4 G) _ from (sn_ior (pc := 36) dX12_inSomeOf_36 (sn_istore_n (pc := 37) (i := 2) dX12_inSomeOf_37 rfl (Nat.le_of_ble_eq_true rfl) (sn_iinc (pc := 38) (v := 1) dX12_inSomeOf_38 rfl (Nat.le_of_ble_eq_true rfl) (sn_goto (pc := 41) (tgt := 4) dX12_inSomeOf_41 rfl (sn_lf (pc := 4) (ln_a (i := 0) (q := 66) (ln_i (i := 1) (fun z0 => (ln_i (i := 2) (fun z1 => (ln_i (i := 3) (fun z2 => (ln_end (o := fun τ => (some (.inl (z0, z1, z2, τ)) : Option ((Int32 × Int32 × Int32 × am_St) ⊕ (Int32 × am_St)))) (fun _ _ _ e h => by cases e; exact h))))))))))))))) _ _ _ _ _ ((eq_M_inSomeOf_36 x1 x3 y0 y1 σ).symm.trans e) hr
noncomputable def g_M_inSomeOf_35 (x1 : Int32) (x3 : Int32) (y0 : Int32) (σ : am_St) : Option ((Int32 × Int32 × Int32 × am_St) ⊕ (Int32 × am_St)) :=
  f_M_inSomeOf_36 x1 x3 y0 0 σ
noncomputable def f_M_inSomeOf_35 (x1 : Int32) (x3 : Int32) (y0 : Int32) (σ : am_St) : Option ((Int32 × Int32 × Int32 × am_St) ⊕ (Int32 × am_St)) := am_lk (g_M_inSomeOf_35 x1 x3 y0 σ)
theorem eq_M_inSomeOf_35 (x1 : Int32) (x3 : Int32) (y0 : Int32) (σ : am_St) : f_M_inSomeOf_35 x1 x3 y0 σ = g_M_inSomeOf_35 x1 x3 y0 σ := am_lk_eq _
set_option maxRecDepth 100000 in
set_option maxHeartbeats 4000000 in
theorem s_M_inSomeOf_35 (G : am_G) (x1 : Int32) (x3 : Int32) (y0 : Int32) (σ : am_St) (r : (Int32 × Int32 × Int32 × am_St) ⊕ (Int32 × am_St)) (Q : am_AQ) (e : f_M_inSomeOf_35 x1 x3 y0 σ = some r) (hr : (Pl_M_inSomeOf_4 G) r Q) : am_AW G M_M_inSomeOf 35 [(3, .int x3), (1, .int x1), (0, .ref 66)] [.int y0] σ Q :=
  (show am_Snd G M_M_inSomeOf 35 (Pl_M_inSomeOf_4 G) _ from (sn_iconst (pc := 35) (v := 0) dX12_inSomeOf_35 rfl (sn_lf (pc := 36) (ln_a (i := 0) (q := 66) (ln_i (i := 1) (fun z0 => (ln_i (i := 3) (fun z1 => (ln_si (fun w1 => (ln_si (fun w0 => (ln_end (o := fun τ => f_M_inSomeOf_36 z0 z1 w0 w1 τ) (fun _ _ _ e h => s_M_inSomeOf_36 G z0 z1 w0 w1 _ _ _ e h)))))))))))))) _ _ _ _ _ ((eq_M_inSomeOf_35 x1 x3 y0 σ).symm.trans e) hr
noncomputable def b_M_inSomeOf_4 (x1 : Int32) (x2 : Int32) (x3 : Int32) (σ : am_St) : Option ((Int32 × Int32 × Int32 × am_St) ⊕ (Int32 × am_St)) :=
  if (1 <<< ((σ.1 66 4) &&& 31)) ≤ x3 then
    some (.inr ((x2, σ)))
  else
    (f_M_ones x3 σ).bind (fun p1 =>
      if p1.1 = x1 then
        (f_M_areTogether x3 p1.2).bind (fun p2 =>
          if p2.1 = 0 then
            f_M_inSomeOf_35 x1 x3 x2 p2.2
          else
            f_M_inSomeOf_36 x1 x3 x2 x3 p2.2)
      else
        f_M_inSomeOf_35 x1 x3 x2 p1.2)
noncomputable def f_M_inSomeOf_4 (x1 : Int32) (x2 : Int32) (x3 : Int32) (σ : am_St) : Option (Int32 × am_St) := am_lp (fun s : Int32 × Int32 × Int32 × am_St => b_M_inSomeOf_4 s.1 s.2.1 s.2.2.1 s.2.2.2) (x1, x2, x3, σ)
set_option maxRecDepth 100000 in
set_option maxHeartbeats 4000000 in
theorem sb_M_inSomeOf_4 (G : am_G) (x1 : Int32) (x2 : Int32) (x3 : Int32) (σ : am_St) (r : (Int32 × Int32 × Int32 × am_St) ⊕ (Int32 × am_St)) (Q : am_AQ) (e : b_M_inSomeOf_4 x1 x2 x3 σ = some r) (hr : Pl_M_inSomeOf_4 G r Q) : am_AW G M_M_inSomeOf 4 [(3, .int x3), (2, .int x2), (1, .int x1), (0, .ref 66)] [] σ Q :=
  (show am_Snd G M_M_inSomeOf 4 (Pl_M_inSomeOf_4 G) _ from (sn_iload_n (pc := 4) (i := 3) dX12_inSomeOf_4 rfl (sn_iconst (pc := 5) (v := 1) dX12_inSomeOf_5 rfl (sn_aload_n (pc := 6) (i := 0) dX12_inSomeOf_6 rfl (sn_gI (pc := 7) (h := 66) (f := 4) dX12_inSomeOf_7 am_CL_11 sh_66 rfl (Nat.le_of_ble_eq_true rfl) tw_945 (sn_ishl (pc := 10) dX12_inSomeOf_10 (sn_icmp_ge (pc := 11) (tgt := 44) dX12_inSomeOf_11 rfl (sn_iload_n (pc := 44) (i := 2) dX12_inSomeOf_44 rfl (sn_reti (pc := 45) (R := fun x τ => (some (.inr ((x, τ))) : Option ((Int32 × Int32 × Int32 × am_St) ⊕ (Int32 × am_St)))) dX12_inSomeOf_45 rfl (fun _ _ _ _ e h => by cases e; exact h))) (sn_iload_n (pc := 14) (i := 2) dX12_inSomeOf_14 rfl (sn_iload_n (pc := 15) (i := 3) dX12_inSomeOf_15 rfl (sn_callS (pc := 16) (N := M_M_ones) dX12_inSomeOf_16 (cal_M_ones G) tw_1325 tw_1326 tw_12 tw_1327 dsc_X12_ones rfl (sn_iload_n (pc := 19) (i := 1) dX12_inSomeOf_19 rfl (sn_icmp_ne (pc := 20) (tgt := 35) dX12_inSomeOf_20 rfl (sn_lf (pc := 35) (ln_a (i := 0) (q := 66) (ln_i (i := 1) (fun z0 => (ln_i (i := 3) (fun z1 => (ln_si (fun w0 => (ln_end (o := fun τ => f_M_inSomeOf_35 z0 z1 w0 τ) (fun _ _ _ e h => s_M_inSomeOf_35 G z0 z1 w0 _ _ _ e h)))))))))) (sn_aload_n (pc := 23) (i := 0) dX12_inSomeOf_23 rfl (sn_iload_n (pc := 24) (i := 3) dX12_inSomeOf_24 rfl (sn_callV (pc := 25) (N := M_M_areTogether) dX12_inSomeOf_25 (cal_M_areTogether G) sh_66 rfl tw_1312 tw_1314 tp_54 tw_12 tw_1315 dsc_X12_areTogether rfl (sn_if_eq (pc := 28) (tgt := 35) dX12_inSomeOf_28 rfl (sn_lf (pc := 35) (ln_a (i := 0) (q := 66) (ln_i (i := 1) (fun z0 => (ln_i (i := 3) (fun z1 => (ln_si (fun w0 => (ln_end (o := fun τ => f_M_inSomeOf_35 z0 z1 w0 τ) (fun _ _ _ e h => s_M_inSomeOf_35 G z0 z1 w0 _ _ _ e h)))))))))) (sn_iload_n (pc := 31) (i := 3) dX12_inSomeOf_31 rfl (sn_goto (pc := 32) (tgt := 36) dX12_inSomeOf_32 rfl (sn_lf (pc := 36) (ln_a (i := 0) (q := 66) (ln_i (i := 1) (fun z0 => (ln_i (i := 3) (fun z1 => (ln_si (fun w1 => (ln_si (fun w0 => (ln_end (o := fun τ => f_M_inSomeOf_36 z0 z1 w0 w1 τ) (fun _ _ _ e h => s_M_inSomeOf_36 G z0 z1 w0 w1 _ _ _ e h)))))))))))))))))))))))))))))) _ _ _ _ _ e hr
theorem s_M_inSomeOf_4 (G : am_G) (x1 : Int32) (x2 : Int32) (x3 : Int32) (σ : am_St) (r : Int32 × am_St) (Q : am_AQ) (e : f_M_inSomeOf_4 x1 x2 x3 σ = some r) (hr : am_Pi r Q) : am_AW G M_M_inSomeOf 4 [(3, .int x3), (2, .int x2), (1, .int x1), (0, .ref 66)] [] σ Q :=
  am_loop (P := am_Pi) (L := fun s : Int32 × Int32 × Int32 × am_St => [(3, .int s.2.2.1), (2, .int s.2.1), (1, .int s.1), (0, .ref 66)]) (g := fun s => s.2.2.2) (fun s o Q e hr => sb_M_inSomeOf_4 G s.1 s.2.1 s.2.2.1 s.2.2.2 o Q e hr) (x1, x2, x3, σ) r Q e hr
noncomputable def g_M_inSomeOf (x1 : Int32) (σ : am_St) : Option (Int32 × am_St) :=
  f_M_inSomeOf_4 x1 0 0 σ
noncomputable def f_M_inSomeOf (x1 : Int32) (σ : am_St) : Option (Int32 × am_St) := am_lk (g_M_inSomeOf x1 σ)
theorem eq_M_inSomeOf (x1 : Int32) (σ : am_St) : f_M_inSomeOf x1 σ = g_M_inSomeOf x1 σ := am_lk_eq _
set_option maxRecDepth 100000 in
set_option maxHeartbeats 4000000 in
theorem s_M_inSomeOf (G : am_G) (x1 : Int32) (σ : am_St) (r : Int32 × am_St) (Q : am_AQ) (e : f_M_inSomeOf x1 σ = some r) (hr : am_Pi r Q) : am_AW G M_M_inSomeOf 0 [(0, .ref 66), (1, .int x1)] [] σ Q :=
  (show am_Snd G M_M_inSomeOf 0 am_Pi _ from (sn_iconst (pc := 0) (v := 0) dX12_inSomeOf_0 rfl (sn_istore_n (pc := 1) (i := 2) dX12_inSomeOf_1 rfl (Nat.le_of_ble_eq_true rfl) (sn_iconst (pc := 2) (v := 0) dX12_inSomeOf_2 rfl (sn_istore_n (pc := 3) (i := 3) dX12_inSomeOf_3 rfl (Nat.le_of_ble_eq_true rfl) (sn_lf (pc := 4) (ln_a (i := 0) (q := 66) (ln_i (i := 1) (fun z0 => (ln_i (i := 2) (fun z1 => (ln_i (i := 3) (fun z2 => (ln_end (o := fun τ => f_M_inSomeOf_4 z0 z1 z2 τ) (fun _ _ _ e h => s_M_inSomeOf_4 G z0 z1 z2 _ _ _ e h))))))))))))))) _ _ _ _ _ ((eq_M_inSomeOf x1 σ).symm.trans e) hr
noncomputable def cF_M_inSomeOf : am_Fn := fun _ args σ K => match args with
  | [.ref q0, .int z1] => match Nat.beq q0 66 with
    | true => (f_M_inSomeOf z1 σ).bind (fun p => K (some (.int p.1)) p.2)
    | _ => none
  | _ => none
theorem cal_M_inSomeOf (G : am_G) : am_Cal G M_M_inSomeOf cF_M_inSomeOf := by
  intro ρ args σ K r e
  unfold cF_M_inSomeOf at e
  split at e
  · split at e
    · rename_i hq0
      obtain ⟨p, h1, h2⟩ := am_bind_some e
      rw [Nat.eq_of_beq_eq_true hq0]
      exact ⟨some (.int p.1), p.2, am_Met.of rfl (Nat.le_of_ble_eq_true rfl) (s_M_inSomeOf G _ σ p _ h1 ⟨rfl, rfl⟩), h2⟩
    · cases e
  · cases e
abbrev M_M_most : am_MD := (yX12_most, cX12_most, 3, (some .int), 5, 111)
theorem dX12_most_0 : decode cX12_most 0 = .ok (.aload_n 0, 1) := by decide +kernel
theorem dX12_most_1 : decode cX12_most 1 = .ok (.iconst 0, 1) := by decide +kernel
theorem dX12_most_2 : decode cX12_most 2 = .ok (.putfield 102, 3) := by decide +kernel
theorem dX12_most_5 : decode cX12_most 5 = .ok (.iload_n 1, 1) := by decide +kernel
theorem dX12_most_6 : decode cX12_most 6 = .ok (.i2l, 1) := by decide +kernel
theorem dX12_most_7 : decode cX12_most 7 = .ok (.lconst 0, 1) := by decide +kernel
theorem dX12_most_8 : decode cX12_most 8 = .ok (.ldc2_w 300, 3) := by decide +kernel
theorem dX12_most_11 : decode cX12_most 11 = .ok (.invokestatic 108, 3) := by decide +kernel
theorem dX12_most_14 : decode cX12_most 14 = .ok (.ifCond .ne 10, 3) := by decide +kernel
theorem dX12_most_17 : decode cX12_most 17 = .ok (.aload_n 0, 1) := by decide +kernel
theorem dX12_most_18 : decode cX12_most 18 = .ok (.bipush (-2), 2) := by decide +kernel
theorem dX12_most_20 : decode cX12_most 20 = .ok (.invokevirtual 154, 3) := by decide +kernel
theorem dX12_most_23 : decode cX12_most 23 = .ok (.ireturn, 1) := by decide +kernel
theorem dX12_most_24 : decode cX12_most 24 = .ok (.aload_n 0, 1) := by decide +kernel
theorem dX12_most_25 : decode cX12_most 25 = .ok (.invokevirtual 302, 3) := by decide +kernel
theorem dX12_most_28 : decode cX12_most 28 = .ok (.istore_n 2, 1) := by decide +kernel
theorem dX12_most_29 : decode cX12_most 29 = .ok (.iload_n 1, 1) := by decide +kernel
theorem dX12_most_30 : decode cX12_most 30 = .ok (.tableswitch 43 0 2 #[26, 28, 34], 26) := by decide +kernel
theorem dX12_most_56 : decode cX12_most 56 = .ok (.iload_n 2, 1) := by decide +kernel
theorem dX12_most_57 : decode cX12_most 57 = .ok (.ireturn, 1) := by decide +kernel
theorem dX12_most_58 : decode cX12_most 58 = .ok (.aload_n 0, 1) := by decide +kernel
theorem dX12_most_59 : decode cX12_most 59 = .ok (.iload_n 2, 1) := by decide +kernel
theorem dX12_most_60 : decode cX12_most 60 = .ok (.invokevirtual 305, 3) := by decide +kernel
theorem dX12_most_63 : decode cX12_most 63 = .ok (.ireturn, 1) := by decide +kernel
theorem dX12_most_64 : decode cX12_most 64 = .ok (.aload_n 0, 1) := by decide +kernel
theorem dX12_most_65 : decode cX12_most 65 = .ok (.aload_n 0, 1) := by decide +kernel
theorem dX12_most_66 : decode cX12_most 66 = .ok (.invokevirtual 308, 3) := by decide +kernel
theorem dX12_most_69 : decode cX12_most 69 = .ok (.invokevirtual 311, 3) := by decide +kernel
theorem dX12_most_72 : decode cX12_most 72 = .ok (.ireturn, 1) := by decide +kernel
theorem dX12_most_73 : decode cX12_most 73 = .ok (.aload_n 0, 1) := by decide +kernel
theorem dX12_most_74 : decode cX12_most 74 = .ok (.iconst 1, 1) := by decide +kernel
theorem dX12_most_75 : decode cX12_most 75 = .ok (.aload_n 0, 1) := by decide +kernel
theorem dX12_most_76 : decode cX12_most 76 = .ok (.getfield 239, 3) := by decide +kernel
theorem dX12_most_79 : decode cX12_most 79 = .ok (.ishl, 1) := by decide +kernel
theorem dX12_most_80 : decode cX12_most 80 = .ok (.iconst 1, 1) := by decide +kernel
theorem dX12_most_81 : decode cX12_most 81 = .ok (.isub, 1) := by decide +kernel
theorem dX12_most_82 : decode cX12_most 82 = .ok (.aload_n 0, 1) := by decide +kernel
theorem dX12_most_83 : decode cX12_most 83 = .ok (.iload_n 2, 1) := by decide +kernel
theorem dX12_most_84 : decode cX12_most 84 = .ok (.invokevirtual 314, 3) := by decide +kernel
theorem dX12_most_87 : decode cX12_most 87 = .ok (.iconst (-1), 1) := by decide +kernel
theorem dX12_most_88 : decode cX12_most 88 = .ok (.ixor, 1) := by decide +kernel
theorem dX12_most_89 : decode cX12_most 89 = .ok (.iand, 1) := by decide +kernel
theorem dX12_most_90 : decode cX12_most 90 = .ok (.invokevirtual 311, 3) := by decide +kernel
theorem dX12_most_93 : decode cX12_most 93 = .ok (.ireturn, 1) := by decide +kernel
noncomputable def g_M_most_29 (x1 : Int32) (x2 : Int32) (σ : am_St) : Option (Int32 × am_St) :=
  if x1 = 0 then
    some ((x2, σ))
  else
  if x1 = 1 then
    (f_M_firstOfMany x2 σ).bind (fun p1 =>
      some ((p1.1, p1.2)))
  else
  if x1 = 2 then
    (f_M_notAlone σ).bind (fun p2 =>
      (f_M_speakersOf p2.1 p2.2).bind (fun p3 =>
        some ((p3.1, p3.2))))
  else
  (f_M_inSomeOf x2 σ).bind (fun p4 =>
    (f_M_speakersOf (((1 <<< ((σ.1 66 4) &&& 31)) - 1) &&& (p4.1 ^^^ (-1))) p4.2).bind (fun p5 =>
      some ((p5.1, p5.2))))
noncomputable def f_M_most_29 (x1 : Int32) (x2 : Int32) (σ : am_St) : Option (Int32 × am_St) := am_lk (g_M_most_29 x1 x2 σ)
theorem eq_M_most_29 (x1 : Int32) (x2 : Int32) (σ : am_St) : f_M_most_29 x1 x2 σ = g_M_most_29 x1 x2 σ := am_lk_eq _
set_option maxRecDepth 100000 in
set_option maxHeartbeats 4000000 in
theorem s_M_most_29 (G : am_G) (x1 : Int32) (x2 : Int32) (σ : am_St) (r : Int32 × am_St) (Q : am_AQ) (e : f_M_most_29 x1 x2 σ = some r) (hr : am_Pi r Q) : am_AW G M_M_most 29 [(2, .int x2), (1, .int x1), (0, .ref 66)] [] σ Q :=
  (show am_Snd G M_M_most 29 am_Pi _ from (sn_iload_n (pc := 29) (i := 1) dX12_most_29 rfl (sn_tsw (pc := 30) (dt := 73) (vs := [0, 1, 2]) (ts := [56, 58, 64]) dX12_most_30 (by decide +kernel) (sn_aload_n (pc := 73) (i := 0) dX12_most_73 rfl (sn_iconst (pc := 74) (v := 1) dX12_most_74 rfl (sn_aload_n (pc := 75) (i := 0) dX12_most_75 rfl (sn_gI (pc := 76) (h := 66) (f := 4) dX12_most_76 am_CL_11 sh_66 rfl (Nat.le_of_ble_eq_true rfl) tw_945 (sn_ishl (pc := 79) dX12_most_79 (sn_iconst (pc := 80) (v := 1) dX12_most_80 rfl (sn_isub (pc := 81) dX12_most_81 (sn_aload_n (pc := 82) (i := 0) dX12_most_82 rfl (sn_iload_n (pc := 83) (i := 2) dX12_most_83 rfl (sn_callV (pc := 84) (N := M_M_inSomeOf) dX12_most_84 (cal_M_inSomeOf G) sh_66 rfl tw_1340 tw_1342 tp_59 tw_12 tw_1343 dsc_X12_inSomeOf rfl (sn_iconst (pc := 87) (v := (-1)) dX12_most_87 (show Int32.ofInt (-1) = (-1) by decide) (sn_ixor (pc := 88) dX12_most_88 (sn_iand (pc := 89) dX12_most_89 (sn_callV (pc := 90) (N := M_M_speakersOf) dX12_most_90 (cal_M_speakersOf G) sh_66 rfl tw_1336 tw_1338 tp_58 tw_12 tw_1339 dsc_X12_speakersOf rfl (sn_reti (pc := 93) (R := fun x τ => (some ((x, τ)))) dX12_most_93 rfl (fun _ _ _ _ e h => by cases e; exact h)))))))))))))))) (am_all_cons (sn_iload_n (pc := 56) (i := 2) dX12_most_56 rfl (sn_reti (pc := 57) (R := fun x τ => (some ((x, τ)))) dX12_most_57 rfl (fun _ _ _ _ e h => by cases e; exact h))) (am_all_cons (sn_aload_n (pc := 58) (i := 0) dX12_most_58 rfl (sn_iload_n (pc := 59) (i := 2) dX12_most_59 rfl (sn_callV (pc := 60) (N := M_M_firstOfMany) dX12_most_60 (cal_M_firstOfMany G) sh_66 rfl tw_1328 tw_1330 tp_56 tw_12 tw_1331 dsc_X12_firstOfMany rfl (sn_reti (pc := 63) (R := fun x τ => (some ((x, τ)))) dX12_most_63 rfl (fun _ _ _ _ e h => by cases e; exact h))))) (am_all_cons (sn_aload_n (pc := 64) (i := 0) dX12_most_64 rfl (sn_aload_n (pc := 65) (i := 0) dX12_most_65 rfl (sn_callV (pc := 66) (N := M_M_notAlone) dX12_most_66 (cal_M_notAlone G) sh_66 rfl tw_1332 tw_1334 tp_57 tw_12 tw_1335 dsc_X12_notAlone rfl (sn_callV (pc := 69) (N := M_M_speakersOf) dX12_most_69 (cal_M_speakersOf G) sh_66 rfl tw_1336 tw_1338 tp_58 tw_12 tw_1339 dsc_X12_speakersOf rfl (sn_reti (pc := 72) (R := fun x τ => (some ((x, τ)))) dX12_most_72 rfl (fun _ _ _ _ e h => by cases e; exact h)))))) am_all_nil)))))) _ _ _ _ _ ((eq_M_most_29 x1 x2 σ).symm.trans e) hr
noncomputable def g_M_most (x1 : Int32) (σ : am_St) : Option (Int32 × am_St) :=
  let s1 := am_sI σ 66 22 0
  (f_M_in x1.toInt64 0 3 s1).bind (fun p2 =>
    if p2.1 = 0 then
      (f_M_refuse (-2) p2.2).bind (fun p4 =>
        some ((p4.1, p4.2)))
    else
      (f_M_greatestMany p2.2).bind (fun p3 =>
        f_M_most_29 x1 p3.1 p3.2))
noncomputable def f_M_most (x1 : Int32) (σ : am_St) : Option (Int32 × am_St) := am_lk (g_M_most x1 σ)
theorem eq_M_most (x1 : Int32) (σ : am_St) : f_M_most x1 σ = g_M_most x1 σ := am_lk_eq _
set_option maxRecDepth 100000 in
set_option maxHeartbeats 4000000 in
theorem s_M_most (G : am_G) (x1 : Int32) (σ : am_St) (r : Int32 × am_St) (Q : am_AQ) (e : f_M_most x1 σ = some r) (hr : am_Pi r Q) : am_AW G M_M_most 0 [(0, .ref 66), (1, .int x1)] [] σ Q :=
  (show am_Snd G M_M_most 0 am_Pi _ from (sn_aload_n (pc := 0) (i := 0) dX12_most_0 rfl (sn_iconst (pc := 1) (v := 0) dX12_most_1 rfl (sn_pI (pc := 2) (h := 66) (f := 22) dX12_most_2 am_CL_11 sh_66 rfl (Nat.le_of_ble_eq_true rfl) tw_963 rfl rfl (sn_iload_n (pc := 5) (i := 1) dX12_most_5 rfl (sn_i2l (pc := 6) dX12_most_6 (sn_lconst (pc := 7) (v := 0) dX12_most_7 rfl (sn_ldc2 (pc := 8) dX12_most_8 tw_1320 (sn_callS (pc := 11) (N := M_M_in) dX12_most_11 (cal_M_in G) tw_1116 tw_1117 tw_12 tw_1118 dsc_X12_in rfl (sn_if_ne (pc := 14) (tgt := 24) dX12_most_14 rfl (sn_aload_n (pc := 24) (i := 0) dX12_most_24 rfl (sn_callV (pc := 25) (N := M_M_greatestMany) dX12_most_25 (cal_M_greatestMany G) sh_66 rfl tw_1321 tw_1323 tp_55 tw_12 tw_1324 dsc_X12_greatestMany rfl (sn_istore_n (pc := 28) (i := 2) dX12_most_28 rfl (Nat.le_of_ble_eq_true rfl) (sn_lf (pc := 29) (ln_a (i := 0) (q := 66) (ln_i (i := 1) (fun z0 => (ln_i (i := 2) (fun z1 => (ln_end (o := fun τ => f_M_most_29 z0 z1 τ) (fun _ _ _ e h => s_M_most_29 G z0 z1 _ _ _ e h))))))))))) (sn_aload_n (pc := 17) (i := 0) dX12_most_17 rfl (sn_bipush (pc := 18) (v := (-2)) dX12_most_18 (show (Int8.ofInt (-2)).toInt32 = (-2) by decide) (sn_callV (pc := 20) (N := M_M_refuse) dX12_most_20 (cal_M_refuse G) sh_66 rfl tw_1090 tw_1092 tp_23 tw_12 tw_1093 dsc_X12_refuse rfl (sn_reti (pc := 23) (R := fun x τ => (some ((x, τ)))) dX12_most_23 rfl (fun _ _ _ _ e h => by cases e; exact h))))))))))))))) _ _ _ _ _ ((eq_M_most x1 σ).symm.trans e) hr
noncomputable def cF_M_most : am_Fn := fun _ args σ K => match args with
  | [.ref q0, .int z1] => match Nat.beq q0 66 with
    | true => (f_M_most z1 σ).bind (fun p => K (some (.int p.1)) p.2)
    | _ => none
  | _ => none
theorem cal_M_most (G : am_G) : am_Cal G M_M_most cF_M_most := by
  intro ρ args σ K r e
  unfold cF_M_most at e
  split at e
  · split at e
    · rename_i hq0
      obtain ⟨p, h1, h2⟩ := am_bind_some e
      rw [Nat.eq_of_beq_eq_true hq0]
      exact ⟨some (.int p.1), p.2, am_Met.of rfl (Nat.le_of_ble_eq_true rfl) (s_M_most G _ σ p _ h1 ⟨rfl, rfl⟩), h2⟩
    · cases e
  · cases e
abbrev M_M_saysOfOwn : am_MD := (yX12_saysOfOwn, cX12_saysOfOwn, 4, (some .int), 1, 22)
theorem dX12_saysOfOwn_0 : decode cX12_saysOfOwn 0 = .ok (.aload_n 0, 1) := by decide +kernel
theorem dX12_saysOfOwn_1 : decode cX12_saysOfOwn 1 = .ok (.iload_n 1, 1) := by decide +kernel
theorem dX12_saysOfOwn_2 : decode cX12_saysOfOwn 2 = .ok (.iload_n 2, 1) := by decide +kernel
theorem dX12_saysOfOwn_3 : decode cX12_saysOfOwn 3 = .ok (.invokevirtual 144, 3) := by decide +kernel
theorem dX12_saysOfOwn_6 : decode cX12_saysOfOwn 6 = .ok (.istore_n 3, 1) := by decide +kernel
theorem dX12_saysOfOwn_7 : decode cX12_saysOfOwn 7 = .ok (.iload_n 2, 1) := by decide +kernel
theorem dX12_saysOfOwn_8 : decode cX12_saysOfOwn 8 = .ok (.aload_n 0, 1) := by decide +kernel
theorem dX12_saysOfOwn_9 : decode cX12_saysOfOwn 9 = .ok (.getfield 127, 3) := by decide +kernel
theorem dX12_saysOfOwn_12 : decode cX12_saysOfOwn 12 = .ok (.if_icmp .ne 22, 3) := by decide +kernel
theorem dX12_saysOfOwn_15 : decode cX12_saysOfOwn 15 = .ok (.iload_n 3, 1) := by decide +kernel
theorem dX12_saysOfOwn_16 : decode cX12_saysOfOwn 16 = .ok (.aload_n 0, 1) := by decide +kernel
theorem dX12_saysOfOwn_17 : decode cX12_saysOfOwn 17 = .ok (.getfield 130, 3) := by decide +kernel
theorem dX12_saysOfOwn_20 : decode cX12_saysOfOwn 20 = .ok (.if_icmp .ne 14, 3) := by decide +kernel
theorem dX12_saysOfOwn_23 : decode cX12_saysOfOwn 23 = .ok (.iload_n 3, 1) := by decide +kernel
theorem dX12_saysOfOwn_24 : decode cX12_saysOfOwn 24 = .ok (.iconst 1, 1) := by decide +kernel
theorem dX12_saysOfOwn_25 : decode cX12_saysOfOwn 25 = .ok (.iadd, 1) := by decide +kernel
theorem dX12_saysOfOwn_26 : decode cX12_saysOfOwn 26 = .ok (.aload_n 0, 1) := by decide +kernel
theorem dX12_saysOfOwn_27 : decode cX12_saysOfOwn 27 = .ok (.getfield 7, 3) := by decide +kernel
theorem dX12_saysOfOwn_30 : decode cX12_saysOfOwn 30 = .ok (.irem, 1) := by decide +kernel
theorem dX12_saysOfOwn_31 : decode cX12_saysOfOwn 31 = .ok (.goto 4, 3) := by decide +kernel
theorem dX12_saysOfOwn_34 : decode cX12_saysOfOwn 34 = .ok (.iload_n 3, 1) := by decide +kernel
theorem dX12_saysOfOwn_35 : decode cX12_saysOfOwn 35 = .ok (.ireturn, 1) := by decide +kernel
noncomputable def g_M_saysOfOwn (x1 : Int32) (x2 : Int32) (σ : am_St) : Option (Int32 × am_St) :=
  (f_M_trulyAt x1 x2 σ).bind (fun p1 =>
    if x2 = (p1.2.1 66 6) then
      if p1.1 = (p1.2.1 66 5) then
        if p1.2.1 66 0 = 0 then none else
          some ((am_rem (p1.1 + 1) (p1.2.1 66 0), p1.2))
      else
        some ((p1.1, p1.2))
    else
      some ((p1.1, p1.2)))
noncomputable def f_M_saysOfOwn (x1 : Int32) (x2 : Int32) (σ : am_St) : Option (Int32 × am_St) := am_lk (g_M_saysOfOwn x1 x2 σ)
theorem eq_M_saysOfOwn (x1 : Int32) (x2 : Int32) (σ : am_St) : f_M_saysOfOwn x1 x2 σ = g_M_saysOfOwn x1 x2 σ := am_lk_eq _
set_option maxRecDepth 100000 in
set_option maxHeartbeats 4000000 in
theorem s_M_saysOfOwn (G : am_G) (x1 : Int32) (x2 : Int32) (σ : am_St) (r : Int32 × am_St) (Q : am_AQ) (e : f_M_saysOfOwn x1 x2 σ = some r) (hr : am_Pi r Q) : am_AW G M_M_saysOfOwn 0 [(0, .ref 66), (1, .int x1), (2, .int x2)] [] σ Q :=
  (show am_Snd G M_M_saysOfOwn 0 am_Pi _ from (sn_aload_n (pc := 0) (i := 0) dX12_saysOfOwn_0 rfl (sn_iload_n (pc := 1) (i := 1) dX12_saysOfOwn_1 rfl (sn_iload_n (pc := 2) (i := 2) dX12_saysOfOwn_2 rfl (sn_callV (pc := 3) (N := M_M_trulyAt) dX12_saysOfOwn_3 (cal_M_trulyAt G) sh_66 rfl tw_1226 tw_1228 tp_49 tw_12 tw_1229 dsc_X12_trulyAt rfl (sn_istore_n (pc := 6) (i := 3) dX12_saysOfOwn_6 rfl (Nat.le_of_ble_eq_true rfl) (sn_iload_n (pc := 7) (i := 2) dX12_saysOfOwn_7 rfl (sn_aload_n (pc := 8) (i := 0) dX12_saysOfOwn_8 rfl (sn_gI (pc := 9) (h := 66) (f := 6) dX12_saysOfOwn_9 am_CL_11 sh_66 rfl (Nat.le_of_ble_eq_true rfl) tw_947 (sn_icmp_ne (pc := 12) (tgt := 34) dX12_saysOfOwn_12 rfl (sn_iload_n (pc := 34) (i := 3) dX12_saysOfOwn_34 rfl (sn_reti (pc := 35) (R := fun x τ => (some ((x, τ)))) dX12_saysOfOwn_35 rfl (fun _ _ _ _ e h => by cases e; exact h))) (sn_iload_n (pc := 15) (i := 3) dX12_saysOfOwn_15 rfl (sn_aload_n (pc := 16) (i := 0) dX12_saysOfOwn_16 rfl (sn_gI (pc := 17) (h := 66) (f := 5) dX12_saysOfOwn_17 am_CL_11 sh_66 rfl (Nat.le_of_ble_eq_true rfl) tw_946 (sn_icmp_ne (pc := 20) (tgt := 34) dX12_saysOfOwn_20 rfl (sn_iload_n (pc := 34) (i := 3) dX12_saysOfOwn_34 rfl (sn_reti (pc := 35) (R := fun x τ => (some ((x, τ)))) dX12_saysOfOwn_35 rfl (fun _ _ _ _ e h => by cases e; exact h))) (sn_iload_n (pc := 23) (i := 3) dX12_saysOfOwn_23 rfl (sn_iconst (pc := 24) (v := 1) dX12_saysOfOwn_24 rfl (sn_iadd (pc := 25) dX12_saysOfOwn_25 (sn_aload_n (pc := 26) (i := 0) dX12_saysOfOwn_26 rfl (sn_gI (pc := 27) (h := 66) (f := 0) dX12_saysOfOwn_27 am_CL_11 sh_66 rfl (Nat.le_of_ble_eq_true rfl) tw_941 (sn_irem (pc := 30) dX12_saysOfOwn_30 (sn_goto (pc := 31) (tgt := 35) dX12_saysOfOwn_31 rfl (sn_reti (pc := 35) (R := fun x τ => (some ((x, τ)))) dX12_saysOfOwn_35 rfl (fun _ _ _ _ e h => by cases e; exact h))))))))))))))))))))))) _ _ _ _ _ ((eq_M_saysOfOwn x1 x2 σ).symm.trans e) hr
noncomputable def cF_M_saysOfOwn : am_Fn := fun _ args σ K => match args with
  | [.ref q0, .int z1, .int z2] => match Nat.beq q0 66 with
    | true => (f_M_saysOfOwn z1 z2 σ).bind (fun p => K (some (.int p.1)) p.2)
    | _ => none
  | _ => none
theorem cal_M_saysOfOwn (G : am_G) : am_Cal G M_M_saysOfOwn cF_M_saysOfOwn := by
  intro ρ args σ K r e
  unfold cF_M_saysOfOwn at e
  split at e
  · split at e
    · rename_i hq0
      obtain ⟨p, h1, h2⟩ := am_bind_some e
      rw [Nat.eq_of_beq_eq_true hq0]
      exact ⟨some (.int p.1), p.2, am_Met.of rfl (Nat.le_of_ble_eq_true rfl) (s_M_saysOfOwn G _ _ σ p _ h1 ⟨rfl, rfl⟩), h2⟩
    · cases e
  · cases e
abbrev M_M_saysLoyally : am_MD := (yX12_saysLoyally, cX12_saysLoyally, 4, (some .int), 2, 45)
theorem dX12_saysLoyally_0 : decode cX12_saysLoyally 0 = .ok (.iload_n 2, 1) := by decide +kernel
theorem dX12_saysLoyally_1 : decode cX12_saysLoyally 1 = .ok (.aload_n 0, 1) := by decide +kernel
theorem dX12_saysLoyally_2 : decode cX12_saysLoyally 2 = .ok (.getfield 26, 3) := by decide +kernel
theorem dX12_saysLoyally_5 : decode cX12_saysLoyally 5 = .ok (.iload_n 1, 1) := by decide +kernel
theorem dX12_saysLoyally_6 : decode cX12_saysLoyally 6 = .ok (.iaload, 1) := by decide +kernel
theorem dX12_saysLoyally_7 : decode cX12_saysLoyally 7 = .ok (.if_icmp .eq 8, 3) := by decide +kernel
theorem dX12_saysLoyally_10 : decode cX12_saysLoyally 10 = .ok (.iload_n 2, 1) := by decide +kernel
theorem dX12_saysLoyally_11 : decode cX12_saysLoyally 11 = .ok (.iload_n 1, 1) := by decide +kernel
theorem dX12_saysLoyally_12 : decode cX12_saysLoyally 12 = .ok (.if_icmp .ne 12, 3) := by decide +kernel
theorem dX12_saysLoyally_15 : decode cX12_saysLoyally 15 = .ok (.aload_n 0, 1) := by decide +kernel
theorem dX12_saysLoyally_16 : decode cX12_saysLoyally 16 = .ok (.iload_n 2, 1) := by decide +kernel
theorem dX12_saysLoyally_17 : decode cX12_saysLoyally 17 = .ok (.iload_n 3, 1) := by decide +kernel
theorem dX12_saysLoyally_18 : decode cX12_saysLoyally 18 = .ok (.invokevirtual 148, 3) := by decide +kernel
theorem dX12_saysLoyally_21 : decode cX12_saysLoyally 21 = .ok (.goto 9, 3) := by decide +kernel
theorem dX12_saysLoyally_24 : decode cX12_saysLoyally 24 = .ok (.aload_n 0, 1) := by decide +kernel
theorem dX12_saysLoyally_25 : decode cX12_saysLoyally 25 = .ok (.iload_n 2, 1) := by decide +kernel
theorem dX12_saysLoyally_26 : decode cX12_saysLoyally 26 = .ok (.iload_n 3, 1) := by decide +kernel
theorem dX12_saysLoyally_27 : decode cX12_saysLoyally 27 = .ok (.invokevirtual 144, 3) := by decide +kernel
theorem dX12_saysLoyally_30 : decode cX12_saysLoyally 30 = .ok (.ireturn, 1) := by decide +kernel
noncomputable def g_M_saysLoyally_15 (x2 : Int32) (x3 : Int32) (σ : am_St) : Option (Int32 × am_St) :=
  (f_M_saysOfOwn x2 x3 σ).bind (fun p1 =>
    some ((p1.1, p1.2)))
noncomputable def f_M_saysLoyally_15 (x2 : Int32) (x3 : Int32) (σ : am_St) : Option (Int32 × am_St) := am_lk (g_M_saysLoyally_15 x2 x3 σ)
theorem eq_M_saysLoyally_15 (x2 : Int32) (x3 : Int32) (σ : am_St) : f_M_saysLoyally_15 x2 x3 σ = g_M_saysLoyally_15 x2 x3 σ := am_lk_eq _
set_option maxRecDepth 100000 in
set_option maxHeartbeats 4000000 in
theorem s_M_saysLoyally_15 (G : am_G) (x2 : Int32) (x3 : Int32) (σ : am_St) (r : Int32 × am_St) (Q : am_AQ) (e : f_M_saysLoyally_15 x2 x3 σ = some r) (hr : am_Pi r Q) : am_AW G M_M_saysLoyally 15 [(3, .int x3), (2, .int x2), (0, .ref 66)] [] σ Q :=
  (show am_Snd G M_M_saysLoyally 15 am_Pi _ from (sn_aload_n (pc := 15) (i := 0) dX12_saysLoyally_15 rfl (sn_iload_n (pc := 16) (i := 2) dX12_saysLoyally_16 rfl (sn_iload_n (pc := 17) (i := 3) dX12_saysLoyally_17 rfl (sn_callV (pc := 18) (N := M_M_saysOfOwn) dX12_saysLoyally_18 (cal_M_saysOfOwn G) sh_66 rfl tw_1352 tw_1354 tp_61 tw_12 tw_1355 dsc_X12_saysOfOwn rfl (sn_goto (pc := 21) (tgt := 30) dX12_saysLoyally_21 rfl (sn_reti (pc := 30) (R := fun x τ => (some ((x, τ)))) dX12_saysLoyally_30 rfl (fun _ _ _ _ e h => by cases e; exact h)))))))) _ _ _ _ _ ((eq_M_saysLoyally_15 x2 x3 σ).symm.trans e) hr
noncomputable def g_M_saysLoyally (x1 : Int32) (x2 : Int32) (x3 : Int32) (σ : am_St) : Option (Int32 × am_St) :=
  if am_ix x1 4 = true then
    if x2 = (σ.1 70 x1.toNatClampNeg) then
      f_M_saysLoyally_15 x2 x3 σ
    else
      if x2 = x1 then
        f_M_saysLoyally_15 x2 x3 σ
      else
        (f_M_trulyAt x2 x3 σ).bind (fun p1 =>
          some ((p1.1, p1.2)))
  else none
noncomputable def f_M_saysLoyally (x1 : Int32) (x2 : Int32) (x3 : Int32) (σ : am_St) : Option (Int32 × am_St) := am_lk (g_M_saysLoyally x1 x2 x3 σ)
theorem eq_M_saysLoyally (x1 : Int32) (x2 : Int32) (x3 : Int32) (σ : am_St) : f_M_saysLoyally x1 x2 x3 σ = g_M_saysLoyally x1 x2 x3 σ := am_lk_eq _
set_option maxRecDepth 100000 in
set_option maxHeartbeats 4000000 in
theorem s_M_saysLoyally (G : am_G) (x1 : Int32) (x2 : Int32) (x3 : Int32) (σ : am_St) (r : Int32 × am_St) (Q : am_AQ) (e : f_M_saysLoyally x1 x2 x3 σ = some r) (hr : am_Pi r Q) : am_AW G M_M_saysLoyally 0 [(0, .ref 66), (1, .int x1), (2, .int x2), (3, .int x3)] [] σ Q :=
  (show am_Snd G M_M_saysLoyally 0 am_Pi _ from (sn_iload_n (pc := 0) (i := 2) dX12_saysLoyally_0 rfl (sn_aload_n (pc := 1) (i := 0) dX12_saysLoyally_1 rfl (sn_gR (r0 := 70) (pc := 2) (h := 66) (f := 10) dX12_saysLoyally_2 am_CL_11 sh_66 rfl (Nat.le_of_ble_eq_true rfl) tw_951 (sn_iload_n (pc := 5) (i := 1) dX12_saysLoyally_5 rfl (sn_aI (pc := 6) (h := 70) dX12_saysLoyally_6 sh_70 (sn_icmp_eq (pc := 7) (tgt := 15) dX12_saysLoyally_7 rfl (sn_lf (pc := 15) (ln_a (i := 0) (q := 66) (ln_i (i := 2) (fun z0 => (ln_i (i := 3) (fun z1 => (ln_end (o := fun τ => f_M_saysLoyally_15 z0 z1 τ) (fun _ _ _ e h => s_M_saysLoyally_15 G z0 z1 _ _ _ e h)))))))) (sn_iload_n (pc := 10) (i := 2) dX12_saysLoyally_10 rfl (sn_iload_n (pc := 11) (i := 1) dX12_saysLoyally_11 rfl (sn_icmp_ne (pc := 12) (tgt := 24) dX12_saysLoyally_12 rfl (sn_aload_n (pc := 24) (i := 0) dX12_saysLoyally_24 rfl (sn_iload_n (pc := 25) (i := 2) dX12_saysLoyally_25 rfl (sn_iload_n (pc := 26) (i := 3) dX12_saysLoyally_26 rfl (sn_callV (pc := 27) (N := M_M_trulyAt) dX12_saysLoyally_27 (cal_M_trulyAt G) sh_66 rfl tw_1226 tw_1228 tp_49 tw_12 tw_1229 dsc_X12_trulyAt rfl (sn_reti (pc := 30) (R := fun x τ => (some ((x, τ)))) dX12_saysLoyally_30 rfl (fun _ _ _ _ e h => by cases e; exact h)))))) (sn_lf (pc := 15) (ln_a (i := 0) (q := 66) (ln_i (i := 2) (fun z0 => (ln_i (i := 3) (fun z1 => (ln_end (o := fun τ => f_M_saysLoyally_15 z0 z1 τ) (fun _ _ _ e h => s_M_saysLoyally_15 G z0 z1 _ _ _ e h)))))))))))))))))) _ _ _ _ _ ((eq_M_saysLoyally x1 x2 x3 σ).symm.trans e) hr
noncomputable def cF_M_saysLoyally : am_Fn := fun _ args σ K => match args with
  | [.ref q0, .int z1, .int z2, .int z3] => match Nat.beq q0 66 with
    | true => (f_M_saysLoyally z1 z2 z3 σ).bind (fun p => K (some (.int p.1)) p.2)
    | _ => none
  | _ => none
theorem cal_M_saysLoyally (G : am_G) : am_Cal G M_M_saysLoyally cF_M_saysLoyally := by
  intro ρ args σ K r e
  unfold cF_M_saysLoyally at e
  split at e
  · split at e
    · rename_i hq0
      obtain ⟨p, h1, h2⟩ := am_bind_some e
      rw [Nat.eq_of_beq_eq_true hq0]
      exact ⟨some (.int p.1), p.2, am_Met.of rfl (Nat.le_of_ble_eq_true rfl) (s_M_saysLoyally G _ _ _ σ p _ h1 ⟨rfl, rfl⟩), h2⟩
    · cases e
  · cases e
abbrev M_M_saysOf : am_MD := (yX12_saysOf, cX12_saysOf, 5, (some .int), 3, 68)
theorem dX12_saysOf_0 : decode cX12_saysOf 0 = .ok (.iload_n 3, 1) := by decide +kernel
theorem dX12_saysOf_1 : decode cX12_saysOf 1 = .ok (.aload_n 0, 1) := by decide +kernel
theorem dX12_saysOf_2 : decode cX12_saysOf 2 = .ok (.getfield 127, 3) := by decide +kernel
theorem dX12_saysOf_5 : decode cX12_saysOf 5 = .ok (.if_icmp .ne 7, 3) := by decide +kernel
theorem dX12_saysOf_8 : decode cX12_saysOf 8 = .ok (.iconst 1, 1) := by decide +kernel
theorem dX12_saysOf_9 : decode cX12_saysOf 9 = .ok (.goto 4, 3) := by decide +kernel
theorem dX12_saysOf_12 : decode cX12_saysOf 12 = .ok (.iconst 0, 1) := by decide +kernel
theorem dX12_saysOf_13 : decode cX12_saysOf 13 = .ok (.istore 4, 2) := by decide +kernel
theorem dX12_saysOf_15 : decode cX12_saysOf 15 = .ok (.aload_n 0, 1) := by decide +kernel
theorem dX12_saysOf_16 : decode cX12_saysOf 16 = .ok (.getfield 20, 3) := by decide +kernel
theorem dX12_saysOf_19 : decode cX12_saysOf 19 = .ok (.iload_n 1, 1) := by decide +kernel
theorem dX12_saysOf_20 : decode cX12_saysOf 20 = .ok (.iaload, 1) := by decide +kernel
theorem dX12_saysOf_21 : decode cX12_saysOf 21 = .ok (.tableswitch 152 0 4 #[35, 56, 63, 71, 116], 35) := by decide +kernel
theorem dX12_saysOf_56 : decode cX12_saysOf 56 = .ok (.iload_n 2, 1) := by decide +kernel
theorem dX12_saysOf_57 : decode cX12_saysOf 57 = .ok (.iload_n 1, 1) := by decide +kernel
theorem dX12_saysOf_58 : decode cX12_saysOf 58 = .ok (.if_icmp .ne 12, 3) := by decide +kernel
theorem dX12_saysOf_61 : decode cX12_saysOf 61 = .ok (.aload_n 0, 1) := by decide +kernel
theorem dX12_saysOf_62 : decode cX12_saysOf 62 = .ok (.iload_n 2, 1) := by decide +kernel
theorem dX12_saysOf_63 : decode cX12_saysOf 63 = .ok (.iload_n 3, 1) := by decide +kernel
theorem dX12_saysOf_64 : decode cX12_saysOf 64 = .ok (.invokevirtual 148, 3) := by decide +kernel
theorem dX12_saysOf_67 : decode cX12_saysOf 67 = .ok (.goto 9, 3) := by decide +kernel
theorem dX12_saysOf_70 : decode cX12_saysOf 70 = .ok (.aload_n 0, 1) := by decide +kernel
theorem dX12_saysOf_71 : decode cX12_saysOf 71 = .ok (.iload_n 2, 1) := by decide +kernel
theorem dX12_saysOf_72 : decode cX12_saysOf 72 = .ok (.iload_n 3, 1) := by decide +kernel
theorem dX12_saysOf_73 : decode cX12_saysOf 73 = .ok (.invokevirtual 144, 3) := by decide +kernel
theorem dX12_saysOf_76 : decode cX12_saysOf 76 = .ok (.ireturn, 1) := by decide +kernel
theorem dX12_saysOf_77 : decode cX12_saysOf 77 = .ok (.aload_n 0, 1) := by decide +kernel
theorem dX12_saysOf_78 : decode cX12_saysOf 78 = .ok (.iload_n 2, 1) := by decide +kernel
theorem dX12_saysOf_79 : decode cX12_saysOf 79 = .ok (.iload_n 3, 1) := by decide +kernel
theorem dX12_saysOf_80 : decode cX12_saysOf 80 = .ok (.invokevirtual 144, 3) := by decide +kernel
theorem dX12_saysOf_83 : decode cX12_saysOf 83 = .ok (.ireturn, 1) := by decide +kernel
theorem dX12_saysOf_84 : decode cX12_saysOf 84 = .ok (.aload_n 0, 1) := by decide +kernel
theorem dX12_saysOf_85 : decode cX12_saysOf 85 = .ok (.iload_n 1, 1) := by decide +kernel
theorem dX12_saysOf_86 : decode cX12_saysOf 86 = .ok (.iload_n 2, 1) := by decide +kernel
theorem dX12_saysOf_87 : decode cX12_saysOf 87 = .ok (.iload_n 3, 1) := by decide +kernel
theorem dX12_saysOf_88 : decode cX12_saysOf 88 = .ok (.invokevirtual 151, 3) := by decide +kernel
theorem dX12_saysOf_91 : decode cX12_saysOf 91 = .ok (.ireturn, 1) := by decide +kernel
theorem dX12_saysOf_92 : decode cX12_saysOf 92 = .ok (.iload 4, 2) := by decide +kernel
theorem dX12_saysOf_94 : decode cX12_saysOf 94 = .ok (.ifCond .eq 35, 3) := by decide +kernel
theorem dX12_saysOf_97 : decode cX12_saysOf 97 = .ok (.iload_n 2, 1) := by decide +kernel
theorem dX12_saysOf_98 : decode cX12_saysOf 98 = .ok (.iload_n 1, 1) := by decide +kernel
theorem dX12_saysOf_99 : decode cX12_saysOf 99 = .ok (.if_icmp .eq 30, 3) := by decide +kernel
theorem dX12_saysOf_102 : decode cX12_saysOf 102 = .ok (.iload_n 2, 1) := by decide +kernel
theorem dX12_saysOf_103 : decode cX12_saysOf 103 = .ok (.aload_n 0, 1) := by decide +kernel
theorem dX12_saysOf_104 : decode cX12_saysOf 104 = .ok (.getfield 26, 3) := by decide +kernel
theorem dX12_saysOf_107 : decode cX12_saysOf 107 = .ok (.iload_n 1, 1) := by decide +kernel
theorem dX12_saysOf_108 : decode cX12_saysOf 108 = .ok (.iaload, 1) := by decide +kernel
theorem dX12_saysOf_109 : decode cX12_saysOf 109 = .ok (.if_icmp .eq 20, 3) := by decide +kernel
theorem dX12_saysOf_112 : decode cX12_saysOf 112 = .ok (.aload_n 0, 1) := by decide +kernel
theorem dX12_saysOf_113 : decode cX12_saysOf 113 = .ok (.getfield 23, 3) := by decide +kernel
theorem dX12_saysOf_116 : decode cX12_saysOf 116 = .ok (.iload_n 1, 1) := by decide +kernel
theorem dX12_saysOf_117 : decode cX12_saysOf 117 = .ok (.iaload, 1) := by decide +kernel
theorem dX12_saysOf_118 : decode cX12_saysOf 118 = .ok (.iconst 4, 1) := by decide +kernel
theorem dX12_saysOf_119 : decode cX12_saysOf 119 = .ok (.if_icmp .le 10, 3) := by decide +kernel
theorem dX12_saysOf_122 : decode cX12_saysOf 122 = .ok (.aload_n 0, 1) := by decide +kernel
theorem dX12_saysOf_123 : decode cX12_saysOf 123 = .ok (.getfield 130, 3) := by decide +kernel
theorem dX12_saysOf_126 : decode cX12_saysOf 126 = .ok (.goto 10, 3) := by decide +kernel
theorem dX12_saysOf_129 : decode cX12_saysOf 129 = .ok (.aload_n 0, 1) := by decide +kernel
theorem dX12_saysOf_130 : decode cX12_saysOf 130 = .ok (.iload_n 1, 1) := by decide +kernel
theorem dX12_saysOf_131 : decode cX12_saysOf 131 = .ok (.iload_n 2, 1) := by decide +kernel
theorem dX12_saysOf_132 : decode cX12_saysOf 132 = .ok (.iload_n 3, 1) := by decide +kernel
theorem dX12_saysOf_133 : decode cX12_saysOf 133 = .ok (.invokevirtual 151, 3) := by decide +kernel
theorem dX12_saysOf_136 : decode cX12_saysOf 136 = .ok (.ireturn, 1) := by decide +kernel
theorem dX12_saysOf_137 : decode cX12_saysOf 137 = .ok (.iload 4, 2) := by decide +kernel
theorem dX12_saysOf_139 : decode cX12_saysOf 139 = .ok (.ifCond .eq 27, 3) := by decide +kernel
theorem dX12_saysOf_142 : decode cX12_saysOf 142 = .ok (.iload_n 2, 1) := by decide +kernel
theorem dX12_saysOf_143 : decode cX12_saysOf 143 = .ok (.iload_n 1, 1) := by decide +kernel
theorem dX12_saysOf_144 : decode cX12_saysOf 144 = .ok (.if_icmp .eq 22, 3) := by decide +kernel
theorem dX12_saysOf_147 : decode cX12_saysOf 147 = .ok (.aload_n 0, 1) := by decide +kernel
theorem dX12_saysOf_148 : decode cX12_saysOf 148 = .ok (.getfield 23, 3) := by decide +kernel
theorem dX12_saysOf_151 : decode cX12_saysOf 151 = .ok (.iload_n 1, 1) := by decide +kernel
theorem dX12_saysOf_152 : decode cX12_saysOf 152 = .ok (.iaload, 1) := by decide +kernel
theorem dX12_saysOf_153 : decode cX12_saysOf 153 = .ok (.iconst 2, 1) := by decide +kernel
theorem dX12_saysOf_154 : decode cX12_saysOf 154 = .ok (.irem, 1) := by decide +kernel
theorem dX12_saysOf_155 : decode cX12_saysOf 155 = .ok (.iconst 1, 1) := by decide +kernel
theorem dX12_saysOf_156 : decode cX12_saysOf 156 = .ok (.if_icmp .ne 10, 3) := by decide +kernel
theorem dX12_saysOf_159 : decode cX12_saysOf 159 = .ok (.aload_n 0, 1) := by decide +kernel
theorem dX12_saysOf_160 : decode cX12_saysOf 160 = .ok (.getfield 130, 3) := by decide +kernel
theorem dX12_saysOf_163 : decode cX12_saysOf 163 = .ok (.goto 9, 3) := by decide +kernel
theorem dX12_saysOf_166 : decode cX12_saysOf 166 = .ok (.aload_n 0, 1) := by decide +kernel
theorem dX12_saysOf_167 : decode cX12_saysOf 167 = .ok (.iload_n 2, 1) := by decide +kernel
theorem dX12_saysOf_168 : decode cX12_saysOf 168 = .ok (.iload_n 3, 1) := by decide +kernel
theorem dX12_saysOf_169 : decode cX12_saysOf 169 = .ok (.invokevirtual 144, 3) := by decide +kernel
theorem dX12_saysOf_172 : decode cX12_saysOf 172 = .ok (.ireturn, 1) := by decide +kernel
theorem dX12_saysOf_173 : decode cX12_saysOf 173 = .ok (.iload 4, 2) := by decide +kernel
theorem dX12_saysOf_175 : decode cX12_saysOf 175 = .ok (.ifCond .eq 8, 3) := by decide +kernel
theorem dX12_saysOf_178 : decode cX12_saysOf 178 = .ok (.bipush (-9), 2) := by decide +kernel
theorem dX12_saysOf_180 : decode cX12_saysOf 180 = .ok (.goto 9, 3) := by decide +kernel
theorem dX12_saysOf_183 : decode cX12_saysOf 183 = .ok (.aload_n 0, 1) := by decide +kernel
theorem dX12_saysOf_184 : decode cX12_saysOf 184 = .ok (.iload_n 2, 1) := by decide +kernel
theorem dX12_saysOf_185 : decode cX12_saysOf 185 = .ok (.iload_n 3, 1) := by decide +kernel
theorem dX12_saysOf_186 : decode cX12_saysOf 186 = .ok (.invokevirtual 144, 3) := by decide +kernel
theorem dX12_saysOf_189 : decode cX12_saysOf 189 = .ok (.ireturn, 1) := by decide +kernel
noncomputable def g_M_saysOf_129 (x1 : Int32) (x2 : Int32) (x3 : Int32) (σ : am_St) : Option (Int32 × am_St) :=
  (f_M_saysLoyally x1 x2 x3 σ).bind (fun p1 =>
    some ((p1.1, p1.2)))
noncomputable def f_M_saysOf_129 (x1 : Int32) (x2 : Int32) (x3 : Int32) (σ : am_St) : Option (Int32 × am_St) := am_lk (g_M_saysOf_129 x1 x2 x3 σ)
theorem eq_M_saysOf_129 (x1 : Int32) (x2 : Int32) (x3 : Int32) (σ : am_St) : f_M_saysOf_129 x1 x2 x3 σ = g_M_saysOf_129 x1 x2 x3 σ := am_lk_eq _
set_option maxRecDepth 100000 in
set_option maxHeartbeats 4000000 in
theorem s_M_saysOf_129 (G : am_G) (x1 : Int32) (x2 : Int32) (x3 : Int32) (σ : am_St) (r : Int32 × am_St) (Q : am_AQ) (e : f_M_saysOf_129 x1 x2 x3 σ = some r) (hr : am_Pi r Q) : am_AW G M_M_saysOf 129 [(3, .int x3), (2, .int x2), (1, .int x1), (0, .ref 66)] [] σ Q :=
  (show am_Snd G M_M_saysOf 129 am_Pi _ from (sn_aload_n (pc := 129) (i := 0) dX12_saysOf_129 rfl (sn_iload_n (pc := 130) (i := 1) dX12_saysOf_130 rfl (sn_iload_n (pc := 131) (i := 2) dX12_saysOf_131 rfl (sn_iload_n (pc := 132) (i := 3) dX12_saysOf_132 rfl (sn_callV (pc := 133) (N := M_M_saysLoyally) dX12_saysOf_133 (cal_M_saysLoyally G) sh_66 rfl tw_1356 tw_1358 tp_62 tw_12 tw_1359 dsc_X12_saysLoyally rfl (sn_reti (pc := 136) (R := fun x τ => (some ((x, τ)))) dX12_saysOf_136 rfl (fun _ _ _ _ e h => by cases e; exact h)))))))) _ _ _ _ _ ((eq_M_saysOf_129 x1 x2 x3 σ).symm.trans e) hr
noncomputable def g_M_saysOf_166 (x2 : Int32) (x3 : Int32) (σ : am_St) : Option (Int32 × am_St) :=
  (f_M_trulyAt x2 x3 σ).bind (fun p1 =>
    some ((p1.1, p1.2)))
noncomputable def f_M_saysOf_166 (x2 : Int32) (x3 : Int32) (σ : am_St) : Option (Int32 × am_St) := am_lk (g_M_saysOf_166 x2 x3 σ)
theorem eq_M_saysOf_166 (x2 : Int32) (x3 : Int32) (σ : am_St) : f_M_saysOf_166 x2 x3 σ = g_M_saysOf_166 x2 x3 σ := am_lk_eq _
set_option maxRecDepth 100000 in
set_option maxHeartbeats 4000000 in
theorem s_M_saysOf_166 (G : am_G) (x2 : Int32) (x3 : Int32) (σ : am_St) (r : Int32 × am_St) (Q : am_AQ) (e : f_M_saysOf_166 x2 x3 σ = some r) (hr : am_Pi r Q) : am_AW G M_M_saysOf 166 [(3, .int x3), (2, .int x2), (0, .ref 66)] [] σ Q :=
  (show am_Snd G M_M_saysOf 166 am_Pi _ from (sn_aload_n (pc := 166) (i := 0) dX12_saysOf_166 rfl (sn_iload_n (pc := 167) (i := 2) dX12_saysOf_167 rfl (sn_iload_n (pc := 168) (i := 3) dX12_saysOf_168 rfl (sn_callV (pc := 169) (N := M_M_trulyAt) dX12_saysOf_169 (cal_M_trulyAt G) sh_66 rfl tw_1226 tw_1228 tp_49 tw_12 tw_1229 dsc_X12_trulyAt rfl (sn_reti (pc := 172) (R := fun x τ => (some ((x, τ)))) dX12_saysOf_172 rfl (fun _ _ _ _ e h => by cases e; exact h))))))) _ _ _ _ _ ((eq_M_saysOf_166 x2 x3 σ).symm.trans e) hr
noncomputable def g_M_saysOf_13 (x1 : Int32) (x2 : Int32) (x3 : Int32) (y0 : Int32) (σ : am_St) : Option (Int32 × am_St) :=
  if am_ix x1 4 = true then
    if (σ.1 68 x1.toNatClampNeg) = 0 then
      if x2 = x1 then
        (f_M_saysOfOwn x2 x3 σ).bind (fun p2 =>
          some ((p2.1, p2.2)))
      else
        (f_M_trulyAt x2 x3 σ).bind (fun p1 =>
          some ((p1.1, p1.2)))
    else
    if (σ.1 68 x1.toNatClampNeg) = 1 then
      (f_M_trulyAt x2 x3 σ).bind (fun p3 =>
        some ((p3.1, p3.2)))
    else
    if (σ.1 68 x1.toNatClampNeg) = 2 then
      (f_M_saysLoyally x1 x2 x3 σ).bind (fun p4 =>
        some ((p4.1, p4.2)))
    else
    if (σ.1 68 x1.toNatClampNeg) = 3 then
      if y0 = 0 then
        f_M_saysOf_129 x1 x2 x3 σ
      else
        if x2 = x1 then
          f_M_saysOf_129 x1 x2 x3 σ
        else
          if am_ix x1 4 = true then
            if x2 = (σ.1 70 x1.toNatClampNeg) then
              f_M_saysOf_129 x1 x2 x3 σ
            else
              if am_ix x1 4 = true then
                if (σ.1 69 x1.toNatClampNeg) ≤ 4 then
                  f_M_saysOf_129 x1 x2 x3 σ
                else
                  some ((σ.1 66 5, σ))
              else none
          else none
    else
    if (σ.1 68 x1.toNatClampNeg) = 4 then
      if y0 = 0 then
        f_M_saysOf_166 x2 x3 σ
      else
        if x2 = x1 then
          f_M_saysOf_166 x2 x3 σ
        else
          if am_ix x1 4 = true then
            if (am_rem (σ.1 69 x1.toNatClampNeg) 2) = 1 then
              some ((σ.1 66 5, σ))
            else
              f_M_saysOf_166 x2 x3 σ
          else none
    else
    if y0 = 0 then
      (f_M_trulyAt x2 x3 σ).bind (fun p5 =>
        some ((p5.1, p5.2)))
    else
      some (((-9), σ))
  else none
noncomputable def f_M_saysOf_13 (x1 : Int32) (x2 : Int32) (x3 : Int32) (y0 : Int32) (σ : am_St) : Option (Int32 × am_St) := am_lk (g_M_saysOf_13 x1 x2 x3 y0 σ)
theorem eq_M_saysOf_13 (x1 : Int32) (x2 : Int32) (x3 : Int32) (y0 : Int32) (σ : am_St) : f_M_saysOf_13 x1 x2 x3 y0 σ = g_M_saysOf_13 x1 x2 x3 y0 σ := am_lk_eq _
set_option maxRecDepth 100000 in
set_option maxHeartbeats 4000000 in
theorem s_M_saysOf_13 (G : am_G) (x1 : Int32) (x2 : Int32) (x3 : Int32) (y0 : Int32) (σ : am_St) (r : Int32 × am_St) (Q : am_AQ) (e : f_M_saysOf_13 x1 x2 x3 y0 σ = some r) (hr : am_Pi r Q) : am_AW G M_M_saysOf 13 [(3, .int x3), (2, .int x2), (1, .int x1), (0, .ref 66)] [.int y0] σ Q :=
  (show am_Snd G M_M_saysOf 13 am_Pi _ from (sn_istore (pc := 13) dX12_saysOf_13 (Nat.le_of_ble_eq_true rfl) (sn_aload_n (pc := 15) (i := 0) dX12_saysOf_15 rfl (sn_gR (r0 := 68) (pc := 16) (h := 66) (f := 8) dX12_saysOf_16 am_CL_11 sh_66 rfl (Nat.le_of_ble_eq_true rfl) tw_949 (sn_iload_n (pc := 19) (i := 1) dX12_saysOf_19 rfl (sn_aI (pc := 20) (h := 68) dX12_saysOf_20 sh_68 (sn_tsw (pc := 21) (dt := 173) (vs := [0, 1, 2, 3, 4]) (ts := [56, 77, 84, 92, 137]) dX12_saysOf_21 (by decide +kernel) (sn_iload (pc := 173) dX12_saysOf_173 (sn_if_eq (pc := 175) (tgt := 183) dX12_saysOf_175 rfl (sn_aload_n (pc := 183) (i := 0) dX12_saysOf_183 rfl (sn_iload_n (pc := 184) (i := 2) dX12_saysOf_184 rfl (sn_iload_n (pc := 185) (i := 3) dX12_saysOf_185 rfl (sn_callV (pc := 186) (N := M_M_trulyAt) dX12_saysOf_186 (cal_M_trulyAt G) sh_66 rfl tw_1226 tw_1228 tp_49 tw_12 tw_1229 dsc_X12_trulyAt rfl (sn_reti (pc := 189) (R := fun x τ => (some ((x, τ)))) dX12_saysOf_189 rfl (fun _ _ _ _ e h => by cases e; exact h)))))) (sn_bipush (pc := 178) (v := (-9)) dX12_saysOf_178 (show (Int8.ofInt (-9)).toInt32 = (-9) by decide) (sn_goto (pc := 180) (tgt := 189) dX12_saysOf_180 rfl (sn_reti (pc := 189) (R := fun x τ => (some ((x, τ)))) dX12_saysOf_189 rfl (fun _ _ _ _ e h => by cases e; exact h)))))) (am_all_cons (sn_iload_n (pc := 56) (i := 2) dX12_saysOf_56 rfl (sn_iload_n (pc := 57) (i := 1) dX12_saysOf_57 rfl (sn_icmp_ne (pc := 58) (tgt := 70) dX12_saysOf_58 rfl (sn_aload_n (pc := 70) (i := 0) dX12_saysOf_70 rfl (sn_iload_n (pc := 71) (i := 2) dX12_saysOf_71 rfl (sn_iload_n (pc := 72) (i := 3) dX12_saysOf_72 rfl (sn_callV (pc := 73) (N := M_M_trulyAt) dX12_saysOf_73 (cal_M_trulyAt G) sh_66 rfl tw_1226 tw_1228 tp_49 tw_12 tw_1229 dsc_X12_trulyAt rfl (sn_reti (pc := 76) (R := fun x τ => (some ((x, τ)))) dX12_saysOf_76 rfl (fun _ _ _ _ e h => by cases e; exact h)))))) (sn_aload_n (pc := 61) (i := 0) dX12_saysOf_61 rfl (sn_iload_n (pc := 62) (i := 2) dX12_saysOf_62 rfl (sn_iload_n (pc := 63) (i := 3) dX12_saysOf_63 rfl (sn_callV (pc := 64) (N := M_M_saysOfOwn) dX12_saysOf_64 (cal_M_saysOfOwn G) sh_66 rfl tw_1352 tw_1354 tp_61 tw_12 tw_1355 dsc_X12_saysOfOwn rfl (sn_goto (pc := 67) (tgt := 76) dX12_saysOf_67 rfl (sn_reti (pc := 76) (R := fun x τ => (some ((x, τ)))) dX12_saysOf_76 rfl (fun _ _ _ _ e h => by cases e; exact h)))))))))) (am_all_cons (sn_aload_n (pc := 77) (i := 0) dX12_saysOf_77 rfl (sn_iload_n (pc := 78) (i := 2) dX12_saysOf_78 rfl (sn_iload_n (pc := 79) (i := 3) dX12_saysOf_79 rfl (sn_callV (pc := 80) (N := M_M_trulyAt) dX12_saysOf_80 (cal_M_trulyAt G) sh_66 rfl tw_1226 tw_1228 tp_49 tw_12 tw_1229 dsc_X12_trulyAt rfl (sn_reti (pc := 83) (R := fun x τ => (some ((x, τ)))) dX12_saysOf_83 rfl (fun _ _ _ _ e h => by cases e; exact h)))))) (am_all_cons (sn_aload_n (pc := 84) (i := 0) dX12_saysOf_84 rfl (sn_iload_n (pc := 85) (i := 1) dX12_saysOf_85 rfl (sn_iload_n (pc := 86) (i := 2) dX12_saysOf_86 rfl (sn_iload_n (pc := 87) (i := 3) dX12_saysOf_87 rfl (sn_callV (pc := 88) (N := M_M_saysLoyally) dX12_saysOf_88 (cal_M_saysLoyally G) sh_66 rfl tw_1356 tw_1358 tp_62 tw_12 tw_1359 dsc_X12_saysLoyally rfl (sn_reti (pc := 91) (R := fun x τ => (some ((x, τ)))) dX12_saysOf_91 rfl (fun _ _ _ _ e h => by cases e; exact h))))))) (am_all_cons (sn_iload (pc := 92) dX12_saysOf_92 (sn_if_eq (pc := 94) (tgt := 129) dX12_saysOf_94 rfl (sn_lf (pc := 129) (ln_a (i := 0) (q := 66) (ln_i (i := 1) (fun z0 => (ln_i (i := 2) (fun z1 => (ln_i (i := 3) (fun z2 => (ln_end (o := fun τ => f_M_saysOf_129 z0 z1 z2 τ) (fun _ _ _ e h => s_M_saysOf_129 G z0 z1 z2 _ _ _ e h)))))))))) (sn_iload_n (pc := 97) (i := 2) dX12_saysOf_97 rfl (sn_iload_n (pc := 98) (i := 1) dX12_saysOf_98 rfl (sn_icmp_eq (pc := 99) (tgt := 129) dX12_saysOf_99 rfl (sn_lf (pc := 129) (ln_a (i := 0) (q := 66) (ln_i (i := 1) (fun z0 => (ln_i (i := 2) (fun z1 => (ln_i (i := 3) (fun z2 => (ln_end (o := fun τ => f_M_saysOf_129 z0 z1 z2 τ) (fun _ _ _ e h => s_M_saysOf_129 G z0 z1 z2 _ _ _ e h)))))))))) (sn_iload_n (pc := 102) (i := 2) dX12_saysOf_102 rfl (sn_aload_n (pc := 103) (i := 0) dX12_saysOf_103 rfl (sn_gR (r0 := 70) (pc := 104) (h := 66) (f := 10) dX12_saysOf_104 am_CL_11 sh_66 rfl (Nat.le_of_ble_eq_true rfl) tw_951 (sn_iload_n (pc := 107) (i := 1) dX12_saysOf_107 rfl (sn_aI (pc := 108) (h := 70) dX12_saysOf_108 sh_70 (sn_icmp_eq (pc := 109) (tgt := 129) dX12_saysOf_109 rfl (sn_lf (pc := 129) (ln_a (i := 0) (q := 66) (ln_i (i := 1) (fun z0 => (ln_i (i := 2) (fun z1 => (ln_i (i := 3) (fun z2 => (ln_end (o := fun τ => f_M_saysOf_129 z0 z1 z2 τ) (fun _ _ _ e h => s_M_saysOf_129 G z0 z1 z2 _ _ _ e h)))))))))) (sn_aload_n (pc := 112) (i := 0) dX12_saysOf_112 rfl (sn_gR (r0 := 69) (pc := 113) (h := 66) (f := 9) dX12_saysOf_113 am_CL_11 sh_66 rfl (Nat.le_of_ble_eq_true rfl) tw_950 (sn_iload_n (pc := 116) (i := 1) dX12_saysOf_116 rfl (sn_aI (pc := 117) (h := 69) dX12_saysOf_117 sh_69 (sn_iconst (pc := 118) (v := 4) dX12_saysOf_118 rfl (sn_icmp_le (pc := 119) (tgt := 129) dX12_saysOf_119 rfl (sn_lf (pc := 129) (ln_a (i := 0) (q := 66) (ln_i (i := 1) (fun z0 => (ln_i (i := 2) (fun z1 => (ln_i (i := 3) (fun z2 => (ln_end (o := fun τ => f_M_saysOf_129 z0 z1 z2 τ) (fun _ _ _ e h => s_M_saysOf_129 G z0 z1 z2 _ _ _ e h)))))))))) (sn_aload_n (pc := 122) (i := 0) dX12_saysOf_122 rfl (sn_gI (pc := 123) (h := 66) (f := 5) dX12_saysOf_123 am_CL_11 sh_66 rfl (Nat.le_of_ble_eq_true rfl) tw_946 (sn_goto (pc := 126) (tgt := 136) dX12_saysOf_126 rfl (sn_reti (pc := 136) (R := fun x τ => (some ((x, τ)))) dX12_saysOf_136 rfl (fun _ _ _ _ e h => by cases e; exact h)))))))))))))))))))))) (am_all_cons (sn_iload (pc := 137) dX12_saysOf_137 (sn_if_eq (pc := 139) (tgt := 166) dX12_saysOf_139 rfl (sn_lf (pc := 166) (ln_a (i := 0) (q := 66) (ln_i (i := 2) (fun z0 => (ln_i (i := 3) (fun z1 => (ln_end (o := fun τ => f_M_saysOf_166 z0 z1 τ) (fun _ _ _ e h => s_M_saysOf_166 G z0 z1 _ _ _ e h)))))))) (sn_iload_n (pc := 142) (i := 2) dX12_saysOf_142 rfl (sn_iload_n (pc := 143) (i := 1) dX12_saysOf_143 rfl (sn_icmp_eq (pc := 144) (tgt := 166) dX12_saysOf_144 rfl (sn_lf (pc := 166) (ln_a (i := 0) (q := 66) (ln_i (i := 2) (fun z0 => (ln_i (i := 3) (fun z1 => (ln_end (o := fun τ => f_M_saysOf_166 z0 z1 τ) (fun _ _ _ e h => s_M_saysOf_166 G z0 z1 _ _ _ e h)))))))) (sn_aload_n (pc := 147) (i := 0) dX12_saysOf_147 rfl (sn_gR (r0 := 69) (pc := 148) (h := 66) (f := 9) dX12_saysOf_148 am_CL_11 sh_66 rfl (Nat.le_of_ble_eq_true rfl) tw_950 (sn_iload_n (pc := 151) (i := 1) dX12_saysOf_151 rfl (sn_aI (pc := 152) (h := 69) dX12_saysOf_152 sh_69 (sn_iconst (pc := 153) (v := 2) dX12_saysOf_153 rfl (sn_irem (pc := 154) dX12_saysOf_154 (sn_iconst (pc := 155) (v := 1) dX12_saysOf_155 rfl (sn_icmp_ne (pc := 156) (tgt := 166) dX12_saysOf_156 rfl (sn_lf (pc := 166) (ln_a (i := 0) (q := 66) (ln_i (i := 2) (fun z0 => (ln_i (i := 3) (fun z1 => (ln_end (o := fun τ => f_M_saysOf_166 z0 z1 τ) (fun _ _ _ e h => s_M_saysOf_166 G z0 z1 _ _ _ e h)))))))) (sn_aload_n (pc := 159) (i := 0) dX12_saysOf_159 rfl (sn_gI (pc := 160) (h := 66) (f := 5) dX12_saysOf_160 am_CL_11 sh_66 rfl (Nat.le_of_ble_eq_true rfl) tw_946 (sn_goto (pc := 163) (tgt := 172) dX12_saysOf_163 rfl (sn_reti (pc := 172) (R := fun x τ => (some ((x, τ)))) dX12_saysOf_172 rfl (fun _ _ _ _ e h => by cases e; exact h)))))))))))))))))) am_all_nil)))))))))))) _ _ _ _ _ ((eq_M_saysOf_13 x1 x2 x3 y0 σ).symm.trans e) hr
noncomputable def g_M_saysOf (x1 : Int32) (x2 : Int32) (x3 : Int32) (σ : am_St) : Option (Int32 × am_St) :=
  if x3 = (σ.1 66 6) then
    f_M_saysOf_13 x1 x2 x3 1 σ
  else
    f_M_saysOf_13 x1 x2 x3 0 σ
noncomputable def f_M_saysOf (x1 : Int32) (x2 : Int32) (x3 : Int32) (σ : am_St) : Option (Int32 × am_St) := am_lk (g_M_saysOf x1 x2 x3 σ)
theorem eq_M_saysOf (x1 : Int32) (x2 : Int32) (x3 : Int32) (σ : am_St) : f_M_saysOf x1 x2 x3 σ = g_M_saysOf x1 x2 x3 σ := am_lk_eq _
set_option maxRecDepth 100000 in
set_option maxHeartbeats 4000000 in
theorem s_M_saysOf (G : am_G) (x1 : Int32) (x2 : Int32) (x3 : Int32) (σ : am_St) (r : Int32 × am_St) (Q : am_AQ) (e : f_M_saysOf x1 x2 x3 σ = some r) (hr : am_Pi r Q) : am_AW G M_M_saysOf 0 [(0, .ref 66), (1, .int x1), (2, .int x2), (3, .int x3)] [] σ Q :=
  (show am_Snd G M_M_saysOf 0 am_Pi _ from (sn_iload_n (pc := 0) (i := 3) dX12_saysOf_0 rfl (sn_aload_n (pc := 1) (i := 0) dX12_saysOf_1 rfl (sn_gI (pc := 2) (h := 66) (f := 6) dX12_saysOf_2 am_CL_11 sh_66 rfl (Nat.le_of_ble_eq_true rfl) tw_947 (sn_icmp_ne (pc := 5) (tgt := 12) dX12_saysOf_5 rfl (sn_iconst (pc := 12) (v := 0) dX12_saysOf_12 rfl (sn_lf (pc := 13) (ln_a (i := 0) (q := 66) (ln_i (i := 1) (fun z0 => (ln_i (i := 2) (fun z1 => (ln_i (i := 3) (fun z2 => (ln_si (fun w0 => (ln_end (o := fun τ => f_M_saysOf_13 z0 z1 z2 w0 τ) (fun _ _ _ e h => s_M_saysOf_13 G z0 z1 z2 w0 _ _ _ e h))))))))))))) (sn_iconst (pc := 8) (v := 1) dX12_saysOf_8 rfl (sn_goto (pc := 9) (tgt := 13) dX12_saysOf_9 rfl (sn_lf (pc := 13) (ln_a (i := 0) (q := 66) (ln_i (i := 1) (fun z0 => (ln_i (i := 2) (fun z1 => (ln_i (i := 3) (fun z2 => (ln_si (fun w0 => (ln_end (o := fun τ => f_M_saysOf_13 z0 z1 z2 w0 τ) (fun _ _ _ e h => s_M_saysOf_13 G z0 z1 z2 w0 _ _ _ e h))))))))))))))))))) _ _ _ _ _ ((eq_M_saysOf x1 x2 x3 σ).symm.trans e) hr
noncomputable def cF_M_saysOf : am_Fn := fun _ args σ K => match args with
  | [.ref q0, .int z1, .int z2, .int z3] => match Nat.beq q0 66 with
    | true => (f_M_saysOf z1 z2 z3 σ).bind (fun p => K (some (.int p.1)) p.2)
    | _ => none
  | _ => none
theorem cal_M_saysOf (G : am_G) : am_Cal G M_M_saysOf cF_M_saysOf := by
  intro ρ args σ K r e
  unfold cF_M_saysOf at e
  split at e
  · split at e
    · rename_i hq0
      obtain ⟨p, h1, h2⟩ := am_bind_some e
      rw [Nat.eq_of_beq_eq_true hq0]
      exact ⟨some (.int p.1), p.2, am_Met.of rfl (Nat.le_of_ble_eq_true rfl) (s_M_saysOf G _ _ _ σ p _ h1 ⟨rfl, rfl⟩), h2⟩
    · cases e
  · cases e
abbrev M_M_ask : am_MD := (yX12_ask, cX12_ask, 7, (some .int), 4, 92)
theorem dX12_ask_0 : decode cX12_ask 0 = .ok (.aload_n 0, 1) := by decide +kernel
theorem dX12_ask_1 : decode cX12_ask 1 = .ok (.iconst 0, 1) := by decide +kernel
theorem dX12_ask_2 : decode cX12_ask 2 = .ok (.putfield 102, 3) := by decide +kernel
theorem dX12_ask_5 : decode cX12_ask 5 = .ok (.aload_n 0, 1) := by decide +kernel
theorem dX12_ask_6 : decode cX12_ask 6 = .ok (.iload_n 1, 1) := by decide +kernel
theorem dX12_ask_7 : decode cX12_ask 7 = .ok (.invokevirtual 203, 3) := by decide +kernel
theorem dX12_ask_10 : decode cX12_ask 10 = .ok (.ifCond .eq 19, 3) := by decide +kernel
theorem dX12_ask_13 : decode cX12_ask 13 = .ok (.aload_n 0, 1) := by decide +kernel
theorem dX12_ask_14 : decode cX12_ask 14 = .ok (.iload_n 2, 1) := by decide +kernel
theorem dX12_ask_15 : decode cX12_ask 15 = .ok (.invokevirtual 203, 3) := by decide +kernel
theorem dX12_ask_18 : decode cX12_ask 18 = .ok (.ifCond .eq 11, 3) := by decide +kernel
theorem dX12_ask_21 : decode cX12_ask 21 = .ok (.aload_n 0, 1) := by decide +kernel
theorem dX12_ask_22 : decode cX12_ask 22 = .ok (.iload_n 3, 1) := by decide +kernel
theorem dX12_ask_23 : decode cX12_ask 23 = .ok (.invokevirtual 206, 3) := by decide +kernel
theorem dX12_ask_26 : decode cX12_ask 26 = .ok (.ifCond .ne 9, 3) := by decide +kernel
theorem dX12_ask_29 : decode cX12_ask 29 = .ok (.aload_n 0, 1) := by decide +kernel
theorem dX12_ask_30 : decode cX12_ask 30 = .ok (.iconst (-1), 1) := by decide +kernel
theorem dX12_ask_31 : decode cX12_ask 31 = .ok (.invokevirtual 154, 3) := by decide +kernel
theorem dX12_ask_34 : decode cX12_ask 34 = .ok (.ireturn, 1) := by decide +kernel
theorem dX12_ask_35 : decode cX12_ask 35 = .ok (.iload 4, 2) := by decide +kernel
theorem dX12_ask_37 : decode cX12_ask 37 = .ok (.i2l, 1) := by decide +kernel
theorem dX12_ask_38 : decode cX12_ask 38 = .ok (.lconst 0, 1) := by decide +kernel
theorem dX12_ask_39 : decode cX12_ask 39 = .ok (.ldc2_w 189, 3) := by decide +kernel
theorem dX12_ask_42 : decode cX12_ask 42 = .ok (.invokestatic 108, 3) := by decide +kernel
theorem dX12_ask_45 : decode cX12_ask 45 = .ok (.ifCond .ne 10, 3) := by decide +kernel
theorem dX12_ask_48 : decode cX12_ask 48 = .ok (.aload_n 0, 1) := by decide +kernel
theorem dX12_ask_49 : decode cX12_ask 49 = .ok (.bipush (-2), 2) := by decide +kernel
theorem dX12_ask_51 : decode cX12_ask 51 = .ok (.invokevirtual 154, 3) := by decide +kernel
theorem dX12_ask_54 : decode cX12_ask 54 = .ok (.ireturn, 1) := by decide +kernel
theorem dX12_ask_55 : decode cX12_ask 55 = .ok (.aload_n 0, 1) := by decide +kernel
theorem dX12_ask_56 : decode cX12_ask 56 = .ok (.iload_n 1, 1) := by decide +kernel
theorem dX12_ask_57 : decode cX12_ask 57 = .ok (.iload_n 2, 1) := by decide +kernel
theorem dX12_ask_58 : decode cX12_ask 58 = .ok (.iload_n 3, 1) := by decide +kernel
theorem dX12_ask_59 : decode cX12_ask 59 = .ok (.invokevirtual 317, 3) := by decide +kernel
theorem dX12_ask_62 : decode cX12_ask 62 = .ok (.istore 5, 2) := by decide +kernel
theorem dX12_ask_64 : decode cX12_ask 64 = .ok (.iload 4, 2) := by decide +kernel
theorem dX12_ask_66 : decode cX12_ask 66 = .ok (.ifCond .ne 6, 3) := by decide +kernel
theorem dX12_ask_69 : decode cX12_ask 69 = .ok (.iload 5, 2) := by decide +kernel
theorem dX12_ask_71 : decode cX12_ask 71 = .ok (.ireturn, 1) := by decide +kernel
theorem dX12_ask_72 : decode cX12_ask 72 = .ok (.iload 4, 2) := by decide +kernel
theorem dX12_ask_74 : decode cX12_ask 74 = .ok (.iconst 1, 1) := by decide +kernel
theorem dX12_ask_75 : decode cX12_ask 75 = .ok (.if_icmp .ne 22, 3) := by decide +kernel
theorem dX12_ask_78 : decode cX12_ask 78 = .ok (.iload 5, 2) := by decide +kernel
theorem dX12_ask_80 : decode cX12_ask 80 = .ok (.aload_n 0, 1) := by decide +kernel
theorem dX12_ask_81 : decode cX12_ask 81 = .ok (.iload_n 2, 1) := by decide +kernel
theorem dX12_ask_82 : decode cX12_ask 82 = .ok (.iload_n 3, 1) := by decide +kernel
theorem dX12_ask_83 : decode cX12_ask 83 = .ok (.invokevirtual 144, 3) := by decide +kernel
theorem dX12_ask_86 : decode cX12_ask 86 = .ok (.if_icmp .ne 7, 3) := by decide +kernel
theorem dX12_ask_89 : decode cX12_ask 89 = .ok (.iconst 1, 1) := by decide +kernel
theorem dX12_ask_90 : decode cX12_ask 90 = .ok (.goto 28, 3) := by decide +kernel
theorem dX12_ask_93 : decode cX12_ask 93 = .ok (.iconst 0, 1) := by decide +kernel
theorem dX12_ask_94 : decode cX12_ask 94 = .ok (.goto 24, 3) := by decide +kernel
theorem dX12_ask_97 : decode cX12_ask 97 = .ok (.iload 5, 2) := by decide +kernel
theorem dX12_ask_99 : decode cX12_ask 99 = .ok (.ifCond .lt 18, 3) := by decide +kernel
theorem dX12_ask_102 : decode cX12_ask 102 = .ok (.aload_n 0, 1) := by decide +kernel
theorem dX12_ask_103 : decode cX12_ask 103 = .ok (.iload_n 2, 1) := by decide +kernel
theorem dX12_ask_104 : decode cX12_ask 104 = .ok (.iload_n 3, 1) := by decide +kernel
theorem dX12_ask_105 : decode cX12_ask 105 = .ok (.iload 5, 2) := by decide +kernel
theorem dX12_ask_107 : decode cX12_ask 107 = .ok (.invokevirtual 133, 3) := by decide +kernel
theorem dX12_ask_110 : decode cX12_ask 110 = .ok (.ifCond .ne 7, 3) := by decide +kernel
theorem dX12_ask_113 : decode cX12_ask 113 = .ok (.iconst 1, 1) := by decide +kernel
theorem dX12_ask_114 : decode cX12_ask 114 = .ok (.goto 4, 3) := by decide +kernel
theorem dX12_ask_117 : decode cX12_ask 117 = .ok (.iconst 0, 1) := by decide +kernel
theorem dX12_ask_118 : decode cX12_ask 118 = .ok (.istore 6, 2) := by decide +kernel
theorem dX12_ask_120 : decode cX12_ask 120 = .ok (.iload 6, 2) := by decide +kernel
theorem dX12_ask_122 : decode cX12_ask 122 = .ok (.ifCond .eq 7, 3) := by decide +kernel
theorem dX12_ask_125 : decode cX12_ask 125 = .ok (.iconst 1, 1) := by decide +kernel
theorem dX12_ask_126 : decode cX12_ask 126 = .ok (.goto 4, 3) := by decide +kernel
theorem dX12_ask_129 : decode cX12_ask 129 = .ok (.iconst 0, 1) := by decide +kernel
theorem dX12_ask_130 : decode cX12_ask 130 = .ok (.ireturn, 1) := by decide +kernel
noncomputable def g_M_ask_29 (σ : am_St) : Option (Int32 × am_St) :=
  (f_M_refuse (-1) σ).bind (fun p1 =>
    some ((p1.1, p1.2)))
noncomputable def f_M_ask_29 (σ : am_St) : Option (Int32 × am_St) := am_lk (g_M_ask_29  σ)
theorem eq_M_ask_29 (σ : am_St) : f_M_ask_29  σ = g_M_ask_29  σ := am_lk_eq _
set_option maxRecDepth 100000 in
set_option maxHeartbeats 4000000 in
theorem s_M_ask_29 (G : am_G) (σ : am_St) (r : Int32 × am_St) (Q : am_AQ) (e : f_M_ask_29  σ = some r) (hr : am_Pi r Q) : am_AW G M_M_ask 29 [(0, .ref 66)] [] σ Q :=
  (show am_Snd G M_M_ask 29 am_Pi _ from (sn_aload_n (pc := 29) (i := 0) dX12_ask_29 rfl (sn_iconst (pc := 30) (v := (-1)) dX12_ask_30 (show Int32.ofInt (-1) = (-1) by decide) (sn_callV (pc := 31) (N := M_M_refuse) dX12_ask_31 (cal_M_refuse G) sh_66 rfl tw_1090 tw_1092 tp_23 tw_12 tw_1093 dsc_X12_refuse rfl (sn_reti (pc := 34) (R := fun x τ => (some ((x, τ)))) dX12_ask_34 rfl (fun _ _ _ _ e h => by cases e; exact h)))))) _ _ _ _ _ ((eq_M_ask_29  σ).symm.trans e) hr
noncomputable def g_M_ask_118 (y0 : Int32) (σ : am_St) : Option (Int32 × am_St) :=
  if y0 = 0 then
    some ((0, σ))
  else
    some ((1, σ))
noncomputable def f_M_ask_118 (y0 : Int32) (σ : am_St) : Option (Int32 × am_St) := am_lk (g_M_ask_118 y0 σ)
theorem eq_M_ask_118 (y0 : Int32) (σ : am_St) : f_M_ask_118 y0 σ = g_M_ask_118 y0 σ := am_lk_eq _
set_option maxRecDepth 100000 in
set_option maxHeartbeats 4000000 in
theorem s_M_ask_118 (G : am_G) (y0 : Int32) (σ : am_St) (r : Int32 × am_St) (Q : am_AQ) (e : f_M_ask_118 y0 σ = some r) (hr : am_Pi r Q) : am_AW G M_M_ask 118 [] [.int y0] σ Q :=
  (show am_Snd G M_M_ask 118 am_Pi _ from (sn_istore (pc := 118) dX12_ask_118 (Nat.le_of_ble_eq_true rfl) (sn_iload (pc := 120) dX12_ask_120 (sn_if_eq (pc := 122) (tgt := 129) dX12_ask_122 rfl (sn_iconst (pc := 129) (v := 0) dX12_ask_129 rfl (sn_reti (pc := 130) (R := fun x τ => (some ((x, τ)))) dX12_ask_130 rfl (fun _ _ _ _ e h => by cases e; exact h))) (sn_iconst (pc := 125) (v := 1) dX12_ask_125 rfl (sn_goto (pc := 126) (tgt := 130) dX12_ask_126 rfl (sn_reti (pc := 130) (R := fun x τ => (some ((x, τ)))) dX12_ask_130 rfl (fun _ _ _ _ e h => by cases e; exact h)))))))) _ _ _ _ _ ((eq_M_ask_118 y0 σ).symm.trans e) hr
noncomputable def g_M_ask_117 (σ : am_St) : Option (Int32 × am_St) :=
  f_M_ask_118 0 σ
noncomputable def f_M_ask_117 (σ : am_St) : Option (Int32 × am_St) := am_lk (g_M_ask_117  σ)
theorem eq_M_ask_117 (σ : am_St) : f_M_ask_117  σ = g_M_ask_117  σ := am_lk_eq _
set_option maxRecDepth 100000 in
set_option maxHeartbeats 4000000 in
theorem s_M_ask_117 (G : am_G) (σ : am_St) (r : Int32 × am_St) (Q : am_AQ) (e : f_M_ask_117  σ = some r) (hr : am_Pi r Q) : am_AW G M_M_ask 117 [] [] σ Q :=
  (show am_Snd G M_M_ask 117 am_Pi _ from (sn_iconst (pc := 117) (v := 0) dX12_ask_117 rfl (sn_lf (pc := 118) (ln_si (fun w0 => (ln_end (o := fun τ => f_M_ask_118 w0 τ) (fun _ _ _ e h => s_M_ask_118 G w0 _ _ _ e h))))))) _ _ _ _ _ ((eq_M_ask_117  σ).symm.trans e) hr
noncomputable def g_M_ask_64 (x2 : Int32) (x3 : Int32) (x4 : Int32) (x5 : Int32) (σ : am_St) : Option (Int32 × am_St) :=
  if x4 = 0 then
    some ((x5, σ))
  else
    if x4 = 1 then
      (f_M_trulyAt x2 x3 σ).bind (fun p2 =>
        if x5 = p2.1 then
          f_M_ask_118 1 p2.2
        else
          f_M_ask_118 0 p2.2)
    else
      if x5 < 0 then
        f_M_ask_117 σ
      else
        (f_M_waysAt x2 x3 x5 σ).bind (fun p1 =>
          if p1.1 = 0 then
            f_M_ask_118 1 p1.2
          else
            f_M_ask_117 p1.2)
noncomputable def f_M_ask_64 (x2 : Int32) (x3 : Int32) (x4 : Int32) (x5 : Int32) (σ : am_St) : Option (Int32 × am_St) := am_lk (g_M_ask_64 x2 x3 x4 x5 σ)
theorem eq_M_ask_64 (x2 : Int32) (x3 : Int32) (x4 : Int32) (x5 : Int32) (σ : am_St) : f_M_ask_64 x2 x3 x4 x5 σ = g_M_ask_64 x2 x3 x4 x5 σ := am_lk_eq _
set_option maxRecDepth 100000 in
set_option maxHeartbeats 4000000 in
theorem s_M_ask_64 (G : am_G) (x2 : Int32) (x3 : Int32) (x4 : Int32) (x5 : Int32) (σ : am_St) (r : Int32 × am_St) (Q : am_AQ) (e : f_M_ask_64 x2 x3 x4 x5 σ = some r) (hr : am_Pi r Q) : am_AW G M_M_ask 64 [(5, .int x5), (4, .int x4), (3, .int x3), (2, .int x2), (0, .ref 66)] [] σ Q :=
  (show am_Snd G M_M_ask 64 am_Pi _ from (sn_iload (pc := 64) dX12_ask_64 (sn_if_ne (pc := 66) (tgt := 72) dX12_ask_66 rfl (sn_iload (pc := 72) dX12_ask_72 (sn_iconst (pc := 74) (v := 1) dX12_ask_74 rfl (sn_icmp_ne (pc := 75) (tgt := 97) dX12_ask_75 rfl (sn_iload (pc := 97) dX12_ask_97 (sn_if_lt (pc := 99) (tgt := 117) dX12_ask_99 rfl (sn_lf (pc := 117) (ln_end (o := fun τ => f_M_ask_117 τ) (fun _ _ _ e h => s_M_ask_117 G  _ _ _ e h))) (sn_aload_n (pc := 102) (i := 0) dX12_ask_102 rfl (sn_iload_n (pc := 103) (i := 2) dX12_ask_103 rfl (sn_iload_n (pc := 104) (i := 3) dX12_ask_104 rfl (sn_iload (pc := 105) dX12_ask_105 (sn_callV (pc := 107) (N := M_M_waysAt) dX12_ask_107 (cal_M_waysAt G) sh_66 rfl tw_1261 tw_1263 tp_51 tw_12 tw_1264 dsc_X12_waysAt rfl (sn_if_ne (pc := 110) (tgt := 117) dX12_ask_110 rfl (sn_lf (pc := 117) (ln_end (o := fun τ => f_M_ask_117 τ) (fun _ _ _ e h => s_M_ask_117 G  _ _ _ e h))) (sn_iconst (pc := 113) (v := 1) dX12_ask_113 rfl (sn_goto (pc := 114) (tgt := 118) dX12_ask_114 rfl (sn_lf (pc := 118) (ln_si (fun w0 => (ln_end (o := fun τ => f_M_ask_118 w0 τ) (fun _ _ _ e h => s_M_ask_118 G w0 _ _ _ e h))))))))))))))) (sn_iload (pc := 78) dX12_ask_78 (sn_aload_n (pc := 80) (i := 0) dX12_ask_80 rfl (sn_iload_n (pc := 81) (i := 2) dX12_ask_81 rfl (sn_iload_n (pc := 82) (i := 3) dX12_ask_82 rfl (sn_callV (pc := 83) (N := M_M_trulyAt) dX12_ask_83 (cal_M_trulyAt G) sh_66 rfl tw_1226 tw_1228 tp_49 tw_12 tw_1229 dsc_X12_trulyAt rfl (sn_icmp_ne (pc := 86) (tgt := 93) dX12_ask_86 rfl (sn_iconst (pc := 93) (v := 0) dX12_ask_93 rfl (sn_goto (pc := 94) (tgt := 118) dX12_ask_94 rfl (sn_lf (pc := 118) (ln_si (fun w0 => (ln_end (o := fun τ => f_M_ask_118 w0 τ) (fun _ _ _ e h => s_M_ask_118 G w0 _ _ _ e h))))))) (sn_iconst (pc := 89) (v := 1) dX12_ask_89 rfl (sn_goto (pc := 90) (tgt := 118) dX12_ask_90 rfl (sn_lf (pc := 118) (ln_si (fun w0 => (ln_end (o := fun τ => f_M_ask_118 w0 τ) (fun _ _ _ e h => s_M_ask_118 G w0 _ _ _ e h)))))))))))))))) (sn_iload (pc := 69) dX12_ask_69 (sn_reti (pc := 71) (R := fun x τ => (some ((x, τ)))) dX12_ask_71 rfl (fun _ _ _ _ e h => by cases e; exact h)))))) _ _ _ _ _ ((eq_M_ask_64 x2 x3 x4 x5 σ).symm.trans e) hr
noncomputable def g_M_ask_21 (x1 : Int32) (x2 : Int32) (x3 : Int32) (x4 : Int32) (σ : am_St) : Option (Int32 × am_St) :=
  (f_M_isMinute x3 σ).bind (fun p1 =>
    if p1.1 = 0 then
      f_M_ask_29 p1.2
    else
      (f_M_in x4.toInt64 0 2 p1.2).bind (fun p2 =>
        if p2.1 = 0 then
          (f_M_refuse (-2) p2.2).bind (fun p4 =>
            some ((p4.1, p4.2)))
        else
          (f_M_saysOf x1 x2 x3 p2.2).bind (fun p3 =>
            f_M_ask_64 x2 x3 x4 p3.1 p3.2)))
noncomputable def f_M_ask_21 (x1 : Int32) (x2 : Int32) (x3 : Int32) (x4 : Int32) (σ : am_St) : Option (Int32 × am_St) := am_lk (g_M_ask_21 x1 x2 x3 x4 σ)
theorem eq_M_ask_21 (x1 : Int32) (x2 : Int32) (x3 : Int32) (x4 : Int32) (σ : am_St) : f_M_ask_21 x1 x2 x3 x4 σ = g_M_ask_21 x1 x2 x3 x4 σ := am_lk_eq _
set_option maxRecDepth 100000 in
set_option maxHeartbeats 4000000 in
theorem s_M_ask_21 (G : am_G) (x1 : Int32) (x2 : Int32) (x3 : Int32) (x4 : Int32) (σ : am_St) (r : Int32 × am_St) (Q : am_AQ) (e : f_M_ask_21 x1 x2 x3 x4 σ = some r) (hr : am_Pi r Q) : am_AW G M_M_ask 21 [(4, .int x4), (3, .int x3), (2, .int x2), (1, .int x1), (0, .ref 66)] [] σ Q :=
  (show am_Snd G M_M_ask 21 am_Pi _ from (sn_aload_n (pc := 21) (i := 0) dX12_ask_21 rfl (sn_iload_n (pc := 22) (i := 3) dX12_ask_22 rfl (sn_callV (pc := 23) (N := M_M_isMinute) dX12_ask_23 (cal_M_isMinute G) sh_66 rfl tw_1189 tw_1191 tp_44 tw_12 tw_1192 dsc_X12_isMinute rfl (sn_if_ne (pc := 26) (tgt := 35) dX12_ask_26 rfl (sn_iload (pc := 35) dX12_ask_35 (sn_i2l (pc := 37) dX12_ask_37 (sn_lconst (pc := 38) (v := 0) dX12_ask_38 rfl (sn_ldc2 (pc := 39) dX12_ask_39 tw_1123 (sn_callS (pc := 42) (N := M_M_in) dX12_ask_42 (cal_M_in G) tw_1116 tw_1117 tw_12 tw_1118 dsc_X12_in rfl (sn_if_ne (pc := 45) (tgt := 55) dX12_ask_45 rfl (sn_aload_n (pc := 55) (i := 0) dX12_ask_55 rfl (sn_iload_n (pc := 56) (i := 1) dX12_ask_56 rfl (sn_iload_n (pc := 57) (i := 2) dX12_ask_57 rfl (sn_iload_n (pc := 58) (i := 3) dX12_ask_58 rfl (sn_callV (pc := 59) (N := M_M_saysOf) dX12_ask_59 (cal_M_saysOf G) sh_66 rfl tw_1348 tw_1350 tp_60 tw_12 tw_1351 dsc_X12_saysOf rfl (sn_istore (pc := 62) dX12_ask_62 (Nat.le_of_ble_eq_true rfl) (sn_lf (pc := 64) (ln_a (i := 0) (q := 66) (ln_i (i := 2) (fun z0 => (ln_i (i := 3) (fun z1 => (ln_i (i := 4) (fun z2 => (ln_i (i := 5) (fun z3 => (ln_end (o := fun τ => f_M_ask_64 z0 z1 z2 z3 τ) (fun _ _ _ e h => s_M_ask_64 G z0 z1 z2 z3 _ _ _ e h)))))))))))))))))) (sn_aload_n (pc := 48) (i := 0) dX12_ask_48 rfl (sn_bipush (pc := 49) (v := (-2)) dX12_ask_49 (show (Int8.ofInt (-2)).toInt32 = (-2) by decide) (sn_callV (pc := 51) (N := M_M_refuse) dX12_ask_51 (cal_M_refuse G) sh_66 rfl tw_1090 tw_1092 tp_23 tw_12 tw_1093 dsc_X12_refuse rfl (sn_reti (pc := 54) (R := fun x τ => (some ((x, τ)))) dX12_ask_54 rfl (fun _ _ _ _ e h => by cases e; exact h))))))))))) (sn_lf (pc := 29) (ln_a (i := 0) (q := 66) (ln_end (o := fun τ => f_M_ask_29 τ) (fun _ _ _ e h => s_M_ask_29 G  _ _ _ e h))))))))) _ _ _ _ _ ((eq_M_ask_21 x1 x2 x3 x4 σ).symm.trans e) hr
noncomputable def g_M_ask (x1 : Int32) (x2 : Int32) (x3 : Int32) (x4 : Int32) (σ : am_St) : Option (Int32 × am_St) :=
  let s1 := am_sI σ 66 22 0
  (f_M_isChild x1 s1).bind (fun p2 =>
    if p2.1 = 0 then
      f_M_ask_29 p2.2
    else
      (f_M_isChild x2 p2.2).bind (fun p3 =>
        if p3.1 = 0 then
          f_M_ask_29 p3.2
        else
          f_M_ask_21 x1 x2 x3 x4 p3.2))
noncomputable def f_M_ask (x1 : Int32) (x2 : Int32) (x3 : Int32) (x4 : Int32) (σ : am_St) : Option (Int32 × am_St) := am_lk (g_M_ask x1 x2 x3 x4 σ)
theorem eq_M_ask (x1 : Int32) (x2 : Int32) (x3 : Int32) (x4 : Int32) (σ : am_St) : f_M_ask x1 x2 x3 x4 σ = g_M_ask x1 x2 x3 x4 σ := am_lk_eq _
set_option maxRecDepth 100000 in
set_option maxHeartbeats 4000000 in
theorem s_M_ask (G : am_G) (x1 : Int32) (x2 : Int32) (x3 : Int32) (x4 : Int32) (σ : am_St) (r : Int32 × am_St) (Q : am_AQ) (e : f_M_ask x1 x2 x3 x4 σ = some r) (hr : am_Pi r Q) : am_AW G M_M_ask 0 [(0, .ref 66), (1, .int x1), (2, .int x2), (3, .int x3), (4, .int x4)] [] σ Q :=
  (show am_Snd G M_M_ask 0 am_Pi _ from (sn_aload_n (pc := 0) (i := 0) dX12_ask_0 rfl (sn_iconst (pc := 1) (v := 0) dX12_ask_1 rfl (sn_pI (pc := 2) (h := 66) (f := 22) dX12_ask_2 am_CL_11 sh_66 rfl (Nat.le_of_ble_eq_true rfl) tw_963 rfl rfl (sn_aload_n (pc := 5) (i := 0) dX12_ask_5 rfl (sn_iload_n (pc := 6) (i := 1) dX12_ask_6 rfl (sn_callV (pc := 7) (N := M_M_isChild) dX12_ask_7 (cal_M_isChild G) sh_66 rfl tw_1181 tw_1183 tp_42 tw_12 tw_1184 dsc_X12_isChild rfl (sn_if_eq (pc := 10) (tgt := 29) dX12_ask_10 rfl (sn_lf (pc := 29) (ln_a (i := 0) (q := 66) (ln_end (o := fun τ => f_M_ask_29 τ) (fun _ _ _ e h => s_M_ask_29 G  _ _ _ e h)))) (sn_aload_n (pc := 13) (i := 0) dX12_ask_13 rfl (sn_iload_n (pc := 14) (i := 2) dX12_ask_14 rfl (sn_callV (pc := 15) (N := M_M_isChild) dX12_ask_15 (cal_M_isChild G) sh_66 rfl tw_1181 tw_1183 tp_42 tw_12 tw_1184 dsc_X12_isChild rfl (sn_if_eq (pc := 18) (tgt := 29) dX12_ask_18 rfl (sn_lf (pc := 29) (ln_a (i := 0) (q := 66) (ln_end (o := fun τ => f_M_ask_29 τ) (fun _ _ _ e h => s_M_ask_29 G  _ _ _ e h)))) (sn_lf (pc := 21) (ln_a (i := 0) (q := 66) (ln_i (i := 1) (fun z0 => (ln_i (i := 2) (fun z1 => (ln_i (i := 3) (fun z2 => (ln_i (i := 4) (fun z3 => (ln_end (o := fun τ => f_M_ask_21 z0 z1 z2 z3 τ) (fun _ _ _ e h => s_M_ask_21 G z0 z1 z2 z3 _ _ _ e h)))))))))))))))))))))))) _ _ _ _ _ ((eq_M_ask x1 x2 x3 x4 σ).symm.trans e) hr
noncomputable def cF_M_ask : am_Fn := fun _ args σ K => match args with
  | [.ref q0, .int z1, .int z2, .int z3, .int z4] => match Nat.beq q0 66 with
    | true => (f_M_ask z1 z2 z3 z4 σ).bind (fun p => K (some (.int p.1)) p.2)
    | _ => none
  | _ => none
theorem cal_M_ask (G : am_G) : am_Cal G M_M_ask cF_M_ask := by
  intro ρ args σ K r e
  unfold cF_M_ask at e
  split at e
  · split at e
    · rename_i hq0
      obtain ⟨p, h1, h2⟩ := am_bind_some e
      rw [Nat.eq_of_beq_eq_true hq0]
      exact ⟨some (.int p.1), p.2, am_Met.of rfl (Nat.le_of_ble_eq_true rfl) (s_M_ask G _ _ _ _ σ p _ h1 ⟨rfl, rfl⟩), h2⟩
    · cases e
  · cases e
abbrev M_M_mostLeft : am_MD := (yX12_mostLeft, cX12_mostLeft, 6, (some .int), 3, 68)
theorem dX12_mostLeft_0 : decode cX12_mostLeft 0 = .ok (.iconst 0, 1) := by decide +kernel
theorem dX12_mostLeft_1 : decode cX12_mostLeft 1 = .ok (.istore_n 3, 1) := by decide +kernel
theorem dX12_mostLeft_2 : decode cX12_mostLeft 2 = .ok (.iconst 0, 1) := by decide +kernel
theorem dX12_mostLeft_3 : decode cX12_mostLeft 3 = .ok (.istore 4, 2) := by decide +kernel
theorem dX12_mostLeft_5 : decode cX12_mostLeft 5 = .ok (.iload 4, 2) := by decide +kernel
theorem dX12_mostLeft_7 : decode cX12_mostLeft 7 = .ok (.aload_n 0, 1) := by decide +kernel
theorem dX12_mostLeft_8 : decode cX12_mostLeft 8 = .ok (.getfield 7, 3) := by decide +kernel
theorem dX12_mostLeft_11 : decode cX12_mostLeft 11 = .ok (.if_icmp .ge 32, 3) := by decide +kernel
theorem dX12_mostLeft_14 : decode cX12_mostLeft 14 = .ok (.aload_n 0, 1) := by decide +kernel
theorem dX12_mostLeft_15 : decode cX12_mostLeft 15 = .ok (.iload_n 1, 1) := by decide +kernel
theorem dX12_mostLeft_16 : decode cX12_mostLeft 16 = .ok (.iload_n 2, 1) := by decide +kernel
theorem dX12_mostLeft_17 : decode cX12_mostLeft 17 = .ok (.iload 4, 2) := by decide +kernel
theorem dX12_mostLeft_19 : decode cX12_mostLeft 19 = .ok (.invokevirtual 133, 3) := by decide +kernel
theorem dX12_mostLeft_22 : decode cX12_mostLeft 22 = .ok (.istore 5, 2) := by decide +kernel
theorem dX12_mostLeft_24 : decode cX12_mostLeft 24 = .ok (.iload 5, 2) := by decide +kernel
theorem dX12_mostLeft_26 : decode cX12_mostLeft 26 = .ok (.iload_n 3, 1) := by decide +kernel
theorem dX12_mostLeft_27 : decode cX12_mostLeft 27 = .ok (.if_icmp .le 8, 3) := by decide +kernel
theorem dX12_mostLeft_30 : decode cX12_mostLeft 30 = .ok (.iload 5, 2) := by decide +kernel
theorem dX12_mostLeft_32 : decode cX12_mostLeft 32 = .ok (.goto 4, 3) := by decide +kernel
theorem dX12_mostLeft_35 : decode cX12_mostLeft 35 = .ok (.iload_n 3, 1) := by decide +kernel
theorem dX12_mostLeft_36 : decode cX12_mostLeft 36 = .ok (.istore_n 3, 1) := by decide +kernel
theorem dX12_mostLeft_37 : decode cX12_mostLeft 37 = .ok (.iinc 4 1, 3) := by decide +kernel
theorem dX12_mostLeft_40 : decode cX12_mostLeft 40 = .ok (.goto (-35), 3) := by decide +kernel
theorem dX12_mostLeft_43 : decode cX12_mostLeft 43 = .ok (.iload_n 3, 1) := by decide +kernel
theorem dX12_mostLeft_44 : decode cX12_mostLeft 44 = .ok (.ireturn, 1) := by decide +kernel
abbrev Pl_M_mostLeft_5 (G : am_G) : ((Int32 × Int32 × Int32 × Int32 × am_St) ⊕ (Int32 × am_St)) → am_AQ → Prop := am_PL G M_M_mostLeft 5 (fun s : Int32 × Int32 × Int32 × Int32 × am_St => [(4, .int s.2.2.2.1), (3, .int s.2.2.1), (2, .int s.2.1), (1, .int s.1), (0, .ref 66)]) (fun s => s.2.2.2.2) am_Pi
noncomputable def g_M_mostLeft_36 (x1 : Int32) (x2 : Int32) (x4 : Int32) (y0 : Int32) (σ : am_St) : Option ((Int32 × Int32 × Int32 × Int32 × am_St) ⊕ (Int32 × am_St)) :=
  let v1 := x4 + 1
  some (.inl (x1, x2, y0, v1, σ))
noncomputable def f_M_mostLeft_36 (x1 : Int32) (x2 : Int32) (x4 : Int32) (y0 : Int32) (σ : am_St) : Option ((Int32 × Int32 × Int32 × Int32 × am_St) ⊕ (Int32 × am_St)) := am_lk (g_M_mostLeft_36 x1 x2 x4 y0 σ)
theorem eq_M_mostLeft_36 (x1 : Int32) (x2 : Int32) (x4 : Int32) (y0 : Int32) (σ : am_St) : f_M_mostLeft_36 x1 x2 x4 y0 σ = g_M_mostLeft_36 x1 x2 x4 y0 σ := am_lk_eq _
set_option maxRecDepth 100000 in
set_option maxHeartbeats 4000000 in
theorem s_M_mostLeft_36 (G : am_G) (x1 : Int32) (x2 : Int32) (x4 : Int32) (y0 : Int32) (σ : am_St) (r : (Int32 × Int32 × Int32 × Int32 × am_St) ⊕ (Int32 × am_St)) (Q : am_AQ) (e : f_M_mostLeft_36 x1 x2 x4 y0 σ = some r) (hr : (Pl_M_mostLeft_5 G) r Q) : am_AW G M_M_mostLeft 36 [(4, .int x4), (2, .int x2), (1, .int x1), (0, .ref 66)] [.int y0] σ Q :=
  (show am_Snd G M_M_mostLeft 36 (Pl_M_mostLeft_5 G) _ from (sn_istore_n (pc := 36) (i := 3) dX12_mostLeft_36 rfl (Nat.le_of_ble_eq_true rfl) (sn_iinc (pc := 37) (v := 1) dX12_mostLeft_37 rfl (Nat.le_of_ble_eq_true rfl) (sn_goto (pc := 40) (tgt := 5) dX12_mostLeft_40 rfl (sn_lf (pc := 5) (ln_a (i := 0) (q := 66) (ln_i (i := 1) (fun z0 => (ln_i (i := 2) (fun z1 => (ln_i (i := 3) (fun z2 => (ln_i (i := 4) (fun z3 => (ln_end (o := fun τ => (some (.inl (z0, z1, z2, z3, τ)) : Option ((Int32 × Int32 × Int32 × Int32 × am_St) ⊕ (Int32 × am_St)))) (fun _ _ _ e h => by cases e; exact h)))))))))))))))) _ _ _ _ _ ((eq_M_mostLeft_36 x1 x2 x4 y0 σ).symm.trans e) hr
noncomputable def b_M_mostLeft_5 (x1 : Int32) (x2 : Int32) (x3 : Int32) (x4 : Int32) (σ : am_St) : Option ((Int32 × Int32 × Int32 × Int32 × am_St) ⊕ (Int32 × am_St)) :=
  if (σ.1 66 0) ≤ x4 then
    some (.inr ((x3, σ)))
  else
    (f_M_waysAt x1 x2 x4 σ).bind (fun p1 =>
      if p1.1 ≤ x3 then
        f_M_mostLeft_36 x1 x2 x4 x3 p1.2
      else
        f_M_mostLeft_36 x1 x2 x4 p1.1 p1.2)
noncomputable def f_M_mostLeft_5 (x1 : Int32) (x2 : Int32) (x3 : Int32) (x4 : Int32) (σ : am_St) : Option (Int32 × am_St) := am_lp (fun s : Int32 × Int32 × Int32 × Int32 × am_St => b_M_mostLeft_5 s.1 s.2.1 s.2.2.1 s.2.2.2.1 s.2.2.2.2) (x1, x2, x3, x4, σ)
set_option maxRecDepth 100000 in
set_option maxHeartbeats 4000000 in
theorem sb_M_mostLeft_5 (G : am_G) (x1 : Int32) (x2 : Int32) (x3 : Int32) (x4 : Int32) (σ : am_St) (r : (Int32 × Int32 × Int32 × Int32 × am_St) ⊕ (Int32 × am_St)) (Q : am_AQ) (e : b_M_mostLeft_5 x1 x2 x3 x4 σ = some r) (hr : Pl_M_mostLeft_5 G r Q) : am_AW G M_M_mostLeft 5 [(4, .int x4), (3, .int x3), (2, .int x2), (1, .int x1), (0, .ref 66)] [] σ Q :=
  (show am_Snd G M_M_mostLeft 5 (Pl_M_mostLeft_5 G) _ from (sn_iload (pc := 5) dX12_mostLeft_5 (sn_aload_n (pc := 7) (i := 0) dX12_mostLeft_7 rfl (sn_gI (pc := 8) (h := 66) (f := 0) dX12_mostLeft_8 am_CL_11 sh_66 rfl (Nat.le_of_ble_eq_true rfl) tw_941 (sn_icmp_ge (pc := 11) (tgt := 43) dX12_mostLeft_11 rfl (sn_iload_n (pc := 43) (i := 3) dX12_mostLeft_43 rfl (sn_reti (pc := 44) (R := fun x τ => (some (.inr ((x, τ))) : Option ((Int32 × Int32 × Int32 × Int32 × am_St) ⊕ (Int32 × am_St)))) dX12_mostLeft_44 rfl (fun _ _ _ _ e h => by cases e; exact h))) (sn_aload_n (pc := 14) (i := 0) dX12_mostLeft_14 rfl (sn_iload_n (pc := 15) (i := 1) dX12_mostLeft_15 rfl (sn_iload_n (pc := 16) (i := 2) dX12_mostLeft_16 rfl (sn_iload (pc := 17) dX12_mostLeft_17 (sn_callV (pc := 19) (N := M_M_waysAt) dX12_mostLeft_19 (cal_M_waysAt G) sh_66 rfl tw_1261 tw_1263 tp_51 tw_12 tw_1264 dsc_X12_waysAt rfl (sn_istore (pc := 22) dX12_mostLeft_22 (Nat.le_of_ble_eq_true rfl) (sn_iload (pc := 24) dX12_mostLeft_24 (sn_iload_n (pc := 26) (i := 3) dX12_mostLeft_26 rfl (sn_icmp_le (pc := 27) (tgt := 35) dX12_mostLeft_27 rfl (sn_iload_n (pc := 35) (i := 3) dX12_mostLeft_35 rfl (sn_lf (pc := 36) (ln_a (i := 0) (q := 66) (ln_i (i := 1) (fun z0 => (ln_i (i := 2) (fun z1 => (ln_i (i := 4) (fun z2 => (ln_si (fun w0 => (ln_end (o := fun τ => f_M_mostLeft_36 z0 z1 z2 w0 τ) (fun _ _ _ e h => s_M_mostLeft_36 G z0 z1 z2 w0 _ _ _ e h))))))))))))) (sn_iload (pc := 30) dX12_mostLeft_30 (sn_goto (pc := 32) (tgt := 36) dX12_mostLeft_32 rfl (sn_lf (pc := 36) (ln_a (i := 0) (q := 66) (ln_i (i := 1) (fun z0 => (ln_i (i := 2) (fun z1 => (ln_i (i := 4) (fun z2 => (ln_si (fun w0 => (ln_end (o := fun τ => f_M_mostLeft_36 z0 z1 z2 w0 τ) (fun _ _ _ e h => s_M_mostLeft_36 G z0 z1 z2 w0 _ _ _ e h)))))))))))))))))))))))))))) _ _ _ _ _ e hr
theorem s_M_mostLeft_5 (G : am_G) (x1 : Int32) (x2 : Int32) (x3 : Int32) (x4 : Int32) (σ : am_St) (r : Int32 × am_St) (Q : am_AQ) (e : f_M_mostLeft_5 x1 x2 x3 x4 σ = some r) (hr : am_Pi r Q) : am_AW G M_M_mostLeft 5 [(4, .int x4), (3, .int x3), (2, .int x2), (1, .int x1), (0, .ref 66)] [] σ Q :=
  am_loop (P := am_Pi) (L := fun s : Int32 × Int32 × Int32 × Int32 × am_St => [(4, .int s.2.2.2.1), (3, .int s.2.2.1), (2, .int s.2.1), (1, .int s.1), (0, .ref 66)]) (g := fun s => s.2.2.2.2) (fun s o Q e hr => sb_M_mostLeft_5 G s.1 s.2.1 s.2.2.1 s.2.2.2.1 s.2.2.2.2 o Q e hr) (x1, x2, x3, x4, σ) r Q e hr
noncomputable def g_M_mostLeft (x1 : Int32) (x2 : Int32) (σ : am_St) : Option (Int32 × am_St) :=
  f_M_mostLeft_5 x1 x2 0 0 σ
noncomputable def f_M_mostLeft (x1 : Int32) (x2 : Int32) (σ : am_St) : Option (Int32 × am_St) := am_lk (g_M_mostLeft x1 x2 σ)
theorem eq_M_mostLeft (x1 : Int32) (x2 : Int32) (σ : am_St) : f_M_mostLeft x1 x2 σ = g_M_mostLeft x1 x2 σ := am_lk_eq _
set_option maxRecDepth 100000 in
set_option maxHeartbeats 4000000 in
theorem s_M_mostLeft (G : am_G) (x1 : Int32) (x2 : Int32) (σ : am_St) (r : Int32 × am_St) (Q : am_AQ) (e : f_M_mostLeft x1 x2 σ = some r) (hr : am_Pi r Q) : am_AW G M_M_mostLeft 0 [(0, .ref 66), (1, .int x1), (2, .int x2)] [] σ Q :=
  (show am_Snd G M_M_mostLeft 0 am_Pi _ from (sn_iconst (pc := 0) (v := 0) dX12_mostLeft_0 rfl (sn_istore_n (pc := 1) (i := 3) dX12_mostLeft_1 rfl (Nat.le_of_ble_eq_true rfl) (sn_iconst (pc := 2) (v := 0) dX12_mostLeft_2 rfl (sn_istore (pc := 3) dX12_mostLeft_3 (Nat.le_of_ble_eq_true rfl) (sn_lf (pc := 5) (ln_a (i := 0) (q := 66) (ln_i (i := 1) (fun z0 => (ln_i (i := 2) (fun z1 => (ln_i (i := 3) (fun z2 => (ln_i (i := 4) (fun z3 => (ln_end (o := fun τ => f_M_mostLeft_5 z0 z1 z2 z3 τ) (fun _ _ _ e h => s_M_mostLeft_5 G z0 z1 z2 z3 _ _ _ e h))))))))))))))))) _ _ _ _ _ ((eq_M_mostLeft x1 x2 σ).symm.trans e) hr
noncomputable def cF_M_mostLeft : am_Fn := fun _ args σ K => match args with
  | [.ref q0, .int z1, .int z2] => match Nat.beq q0 66 with
    | true => (f_M_mostLeft z1 z2 σ).bind (fun p => K (some (.int p.1)) p.2)
    | _ => none
  | _ => none
theorem cal_M_mostLeft (G : am_G) : am_Cal G M_M_mostLeft cF_M_mostLeft := by
  intro ρ args σ K r e
  unfold cF_M_mostLeft at e
  split at e
  · split at e
    · rename_i hq0
      obtain ⟨p, h1, h2⟩ := am_bind_some e
      rw [Nat.eq_of_beq_eq_true hq0]
      exact ⟨some (.int p.1), p.2, am_Met.of rfl (Nat.le_of_ble_eq_true rfl) (s_M_mostLeft G _ _ σ p _ h1 ⟨rfl, rfl⟩), h2⟩
    · cases e
  · cases e
abbrev M_M_first : am_MD := (yX12_first, cX12_first, 13, (some .int), 4, 93)
theorem dX12_first_0 : decode cX12_first 0 = .ok (.aload_n 0, 1) := by decide +kernel
theorem dX12_first_1 : decode cX12_first 1 = .ok (.iconst 0, 1) := by decide +kernel
theorem dX12_first_2 : decode cX12_first 2 = .ok (.putfield 102, 3) := by decide +kernel
theorem dX12_first_5 : decode cX12_first 5 = .ok (.bipush (-9), 2) := by decide +kernel
theorem dX12_first_7 : decode cX12_first 7 = .ok (.istore_n 1, 1) := by decide +kernel
theorem dX12_first_8 : decode cX12_first 8 = .ok (.lconst 1, 1) := by decide +kernel
theorem dX12_first_9 : decode cX12_first 9 = .ok (.lstore_n 2, 1) := by decide +kernel
theorem dX12_first_10 : decode cX12_first 10 = .ok (.lconst 1, 1) := by decide +kernel
theorem dX12_first_11 : decode cX12_first 11 = .ok (.lstore 4, 2) := by decide +kernel
theorem dX12_first_13 : decode cX12_first 13 = .ok (.iconst 0, 1) := by decide +kernel
theorem dX12_first_14 : decode cX12_first 14 = .ok (.istore 6, 2) := by decide +kernel
theorem dX12_first_16 : decode cX12_first 16 = .ok (.iload 6, 2) := by decide +kernel
theorem dX12_first_18 : decode cX12_first 18 = .ok (.aload_n 0, 1) := by decide +kernel
theorem dX12_first_19 : decode cX12_first 19 = .ok (.getfield 105, 3) := by decide +kernel
theorem dX12_first_22 : decode cX12_first 22 = .ok (.if_icmp .ge 115, 3) := by decide +kernel
theorem dX12_first_25 : decode cX12_first 25 = .ok (.iconst 0, 1) := by decide +kernel
theorem dX12_first_26 : decode cX12_first 26 = .ok (.istore 7, 2) := by decide +kernel
theorem dX12_first_28 : decode cX12_first 28 = .ok (.iload 7, 2) := by decide +kernel
theorem dX12_first_30 : decode cX12_first 30 = .ok (.aload_n 0, 1) := by decide +kernel
theorem dX12_first_31 : decode cX12_first 31 = .ok (.getfield 13, 3) := by decide +kernel
theorem dX12_first_34 : decode cX12_first 34 = .ok (.if_icmp .ge 97, 3) := by decide +kernel
theorem dX12_first_37 : decode cX12_first 37 = .ok (.aload_n 0, 1) := by decide +kernel
theorem dX12_first_38 : decode cX12_first 38 = .ok (.iload 6, 2) := by decide +kernel
theorem dX12_first_40 : decode cX12_first 40 = .ok (.iload 7, 2) := by decide +kernel
theorem dX12_first_42 : decode cX12_first 42 = .ok (.invokevirtual 320, 3) := by decide +kernel
theorem dX12_first_45 : decode cX12_first 45 = .ok (.i2l, 1) := by decide +kernel
theorem dX12_first_46 : decode cX12_first 46 = .ok (.lstore 8, 2) := by decide +kernel
theorem dX12_first_48 : decode cX12_first 48 = .ok (.aload_n 0, 1) := by decide +kernel
theorem dX12_first_49 : decode cX12_first 49 = .ok (.iload 6, 2) := by decide +kernel
theorem dX12_first_51 : decode cX12_first 51 = .ok (.invokevirtual 137, 3) := by decide +kernel
theorem dX12_first_54 : decode cX12_first 54 = .ok (.i2l, 1) := by decide +kernel
theorem dX12_first_55 : decode cX12_first 55 = .ok (.lstore 10, 2) := by decide +kernel
theorem dX12_first_57 : decode cX12_first 57 = .ok (.iload_n 1, 1) := by decide +kernel
theorem dX12_first_58 : decode cX12_first 58 = .ok (.ifCond .lt 16, 3) := by decide +kernel
theorem dX12_first_61 : decode cX12_first 61 = .ok (.lload 8, 2) := by decide +kernel
theorem dX12_first_63 : decode cX12_first 63 = .ok (.lload 4, 2) := by decide +kernel
theorem dX12_first_65 : decode cX12_first 65 = .ok (.lmul, 1) := by decide +kernel
theorem dX12_first_66 : decode cX12_first 66 = .ok (.lload_n 2, 1) := by decide +kernel
theorem dX12_first_67 : decode cX12_first 67 = .ok (.lload 10, 2) := by decide +kernel
theorem dX12_first_69 : decode cX12_first 69 = .ok (.lmul, 1) := by decide +kernel
theorem dX12_first_70 : decode cX12_first 70 = .ok (.lcmp, 1) := by decide +kernel
theorem dX12_first_71 : decode cX12_first 71 = .ok (.ifCond .ge 7, 3) := by decide +kernel
theorem dX12_first_74 : decode cX12_first 74 = .ok (.iconst 1, 1) := by decide +kernel
theorem dX12_first_75 : decode cX12_first 75 = .ok (.goto 4, 3) := by decide +kernel
theorem dX12_first_78 : decode cX12_first 78 = .ok (.iconst 0, 1) := by decide +kernel
theorem dX12_first_79 : decode cX12_first 79 = .ok (.istore 12, 2) := by decide +kernel
theorem dX12_first_81 : decode cX12_first 81 = .ok (.iload 12, 2) := by decide +kernel
theorem dX12_first_83 : decode cX12_first 83 = .ok (.ifCond .eq 14, 3) := by decide +kernel
theorem dX12_first_86 : decode cX12_first 86 = .ok (.bipush 10, 2) := by decide +kernel
theorem dX12_first_88 : decode cX12_first 88 = .ok (.iload 6, 2) := by decide +kernel
theorem dX12_first_90 : decode cX12_first 90 = .ok (.imul, 1) := by decide +kernel
theorem dX12_first_91 : decode cX12_first 91 = .ok (.iload 7, 2) := by decide +kernel
theorem dX12_first_93 : decode cX12_first 93 = .ok (.iadd, 1) := by decide +kernel
theorem dX12_first_94 : decode cX12_first 94 = .ok (.goto 4, 3) := by decide +kernel
theorem dX12_first_97 : decode cX12_first 97 = .ok (.iload_n 1, 1) := by decide +kernel
theorem dX12_first_98 : decode cX12_first 98 = .ok (.istore_n 1, 1) := by decide +kernel
theorem dX12_first_99 : decode cX12_first 99 = .ok (.iload 12, 2) := by decide +kernel
theorem dX12_first_101 : decode cX12_first 101 = .ok (.ifCond .eq 8, 3) := by decide +kernel
theorem dX12_first_104 : decode cX12_first 104 = .ok (.lload 8, 2) := by decide +kernel
theorem dX12_first_106 : decode cX12_first 106 = .ok (.goto 4, 3) := by decide +kernel
theorem dX12_first_109 : decode cX12_first 109 = .ok (.lload_n 2, 1) := by decide +kernel
theorem dX12_first_110 : decode cX12_first 110 = .ok (.lstore_n 2, 1) := by decide +kernel
theorem dX12_first_111 : decode cX12_first 111 = .ok (.iload 12, 2) := by decide +kernel
theorem dX12_first_113 : decode cX12_first 113 = .ok (.ifCond .eq 8, 3) := by decide +kernel
theorem dX12_first_116 : decode cX12_first 116 = .ok (.lload 10, 2) := by decide +kernel
theorem dX12_first_118 : decode cX12_first 118 = .ok (.goto 5, 3) := by decide +kernel
theorem dX12_first_121 : decode cX12_first 121 = .ok (.lload 4, 2) := by decide +kernel
theorem dX12_first_123 : decode cX12_first 123 = .ok (.lstore 4, 2) := by decide +kernel
theorem dX12_first_125 : decode cX12_first 125 = .ok (.iinc 7 1, 3) := by decide +kernel
theorem dX12_first_128 : decode cX12_first 128 = .ok (.goto (-100), 3) := by decide +kernel
theorem dX12_first_131 : decode cX12_first 131 = .ok (.iinc 6 1, 3) := by decide +kernel
theorem dX12_first_134 : decode cX12_first 134 = .ok (.goto (-118), 3) := by decide +kernel
theorem dX12_first_137 : decode cX12_first 137 = .ok (.iload_n 1, 1) := by decide +kernel
theorem dX12_first_138 : decode cX12_first 138 = .ok (.ireturn, 1) := by decide +kernel
abbrev Pl_M_first_16 (G : am_G) : ((Int32 × Int64 × Int64 × Int32 × am_St) ⊕ (Int32 × am_St)) → am_AQ → Prop := am_PL G M_M_first 16 (fun s : Int32 × Int64 × Int64 × Int32 × am_St => [(6, .int s.2.2.2.1), (4, .long s.2.2.1), (2, .long s.2.1), (1, .int s.1), (0, .ref 66)]) (fun s => s.2.2.2.2) am_Pi
abbrev Pl_M_first_28 (G : am_G) : ((Int32 × Int64 × Int64 × Int32 × Int32 × am_St) ⊕ ((Int32 × Int64 × Int64 × Int32 × am_St) ⊕ (Int32 × am_St))) → am_AQ → Prop := am_PL G M_M_first 28 (fun s : Int32 × Int64 × Int64 × Int32 × Int32 × am_St => [(7, .int s.2.2.2.2.1), (6, .int s.2.2.2.1), (4, .long s.2.2.1), (2, .long s.2.1), (1, .int s.1), (0, .ref 66)]) (fun s => s.2.2.2.2.2) (Pl_M_first_16 G)
noncomputable def g_M_first_123 (x1 : Int32) (x2 : Int64) (x6 : Int32) (x7 : Int32) (y0 : Int64) (σ : am_St) : Option ((Int32 × Int64 × Int64 × Int32 × Int32 × am_St) ⊕ ((Int32 × Int64 × Int64 × Int32 × am_St) ⊕ (Int32 × am_St))) :=
  let v1 := x7 + 1
  some (.inl (x1, x2, y0, x6, v1, σ))
noncomputable def f_M_first_123 (x1 : Int32) (x2 : Int64) (x6 : Int32) (x7 : Int32) (y0 : Int64) (σ : am_St) : Option ((Int32 × Int64 × Int64 × Int32 × Int32 × am_St) ⊕ ((Int32 × Int64 × Int64 × Int32 × am_St) ⊕ (Int32 × am_St))) := am_lk (g_M_first_123 x1 x2 x6 x7 y0 σ)
theorem eq_M_first_123 (x1 : Int32) (x2 : Int64) (x6 : Int32) (x7 : Int32) (y0 : Int64) (σ : am_St) : f_M_first_123 x1 x2 x6 x7 y0 σ = g_M_first_123 x1 x2 x6 x7 y0 σ := am_lk_eq _
set_option maxRecDepth 100000 in
set_option maxHeartbeats 4000000 in
theorem s_M_first_123 (G : am_G) (x1 : Int32) (x2 : Int64) (x6 : Int32) (x7 : Int32) (y0 : Int64) (σ : am_St) (r : (Int32 × Int64 × Int64 × Int32 × Int32 × am_St) ⊕ ((Int32 × Int64 × Int64 × Int32 × am_St) ⊕ (Int32 × am_St))) (Q : am_AQ) (e : f_M_first_123 x1 x2 x6 x7 y0 σ = some r) (hr : (Pl_M_first_28 G) r Q) : am_AW G M_M_first 123 [(7, .int x7), (6, .int x6), (2, .long x2), (1, .int x1), (0, .ref 66)] [.long y0] σ Q :=
  (show am_Snd G M_M_first 123 (Pl_M_first_28 G) _ from (sn_lstore (pc := 123) dX12_first_123 (Nat.le_of_ble_eq_true rfl) (sn_iinc (pc := 125) (v := 1) dX12_first_125 rfl (Nat.le_of_ble_eq_true rfl) (sn_goto (pc := 128) (tgt := 28) dX12_first_128 rfl (sn_lf (pc := 28) (ln_a (i := 0) (q := 66) (ln_i (i := 1) (fun z0 => (ln_l (i := 2) (fun z1 => (ln_l (i := 4) (fun z2 => (ln_i (i := 6) (fun z3 => (ln_i (i := 7) (fun z4 => (ln_end (o := fun τ => (some (.inl (z0, z1, z2, z3, z4, τ)) : Option ((Int32 × Int64 × Int64 × Int32 × Int32 × am_St) ⊕ ((Int32 × Int64 × Int64 × Int32 × am_St) ⊕ (Int32 × am_St))))) (fun _ _ _ e h => by cases e; exact h)))))))))))))))))) _ _ _ _ _ ((eq_M_first_123 x1 x2 x6 x7 y0 σ).symm.trans e) hr
noncomputable def g_M_first_110 (x1 : Int32) (x4 : Int64) (x6 : Int32) (x7 : Int32) (x10 : Int64) (x12 : Int32) (y0 : Int64) (σ : am_St) : Option ((Int32 × Int64 × Int64 × Int32 × Int32 × am_St) ⊕ ((Int32 × Int64 × Int64 × Int32 × am_St) ⊕ (Int32 × am_St))) :=
  if x12 = 0 then
    f_M_first_123 x1 y0 x6 x7 x4 σ
  else
    f_M_first_123 x1 y0 x6 x7 x10 σ
noncomputable def f_M_first_110 (x1 : Int32) (x4 : Int64) (x6 : Int32) (x7 : Int32) (x10 : Int64) (x12 : Int32) (y0 : Int64) (σ : am_St) : Option ((Int32 × Int64 × Int64 × Int32 × Int32 × am_St) ⊕ ((Int32 × Int64 × Int64 × Int32 × am_St) ⊕ (Int32 × am_St))) := am_lk (g_M_first_110 x1 x4 x6 x7 x10 x12 y0 σ)
theorem eq_M_first_110 (x1 : Int32) (x4 : Int64) (x6 : Int32) (x7 : Int32) (x10 : Int64) (x12 : Int32) (y0 : Int64) (σ : am_St) : f_M_first_110 x1 x4 x6 x7 x10 x12 y0 σ = g_M_first_110 x1 x4 x6 x7 x10 x12 y0 σ := am_lk_eq _
set_option maxRecDepth 100000 in
set_option maxHeartbeats 4000000 in
theorem s_M_first_110 (G : am_G) (x1 : Int32) (x4 : Int64) (x6 : Int32) (x7 : Int32) (x10 : Int64) (x12 : Int32) (y0 : Int64) (σ : am_St) (r : (Int32 × Int64 × Int64 × Int32 × Int32 × am_St) ⊕ ((Int32 × Int64 × Int64 × Int32 × am_St) ⊕ (Int32 × am_St))) (Q : am_AQ) (e : f_M_first_110 x1 x4 x6 x7 x10 x12 y0 σ = some r) (hr : (Pl_M_first_28 G) r Q) : am_AW G M_M_first 110 [(12, .int x12), (10, .long x10), (7, .int x7), (6, .int x6), (4, .long x4), (1, .int x1), (0, .ref 66)] [.long y0] σ Q :=
  (show am_Snd G M_M_first 110 (Pl_M_first_28 G) _ from (sn_lstore_n (pc := 110) (i := 2) dX12_first_110 rfl (Nat.le_of_ble_eq_true rfl) (sn_iload (pc := 111) dX12_first_111 (sn_if_eq (pc := 113) (tgt := 121) dX12_first_113 rfl (sn_lload (pc := 121) dX12_first_121 (sn_lf (pc := 123) (ln_a (i := 0) (q := 66) (ln_i (i := 1) (fun z0 => (ln_l (i := 2) (fun z1 => (ln_i (i := 6) (fun z2 => (ln_i (i := 7) (fun z3 => (ln_sl (fun w0 => (ln_end (o := fun τ => f_M_first_123 z0 z1 z2 z3 w0 τ) (fun _ _ _ e h => s_M_first_123 G z0 z1 z2 z3 w0 _ _ _ e h))))))))))))))) (sn_lload (pc := 116) dX12_first_116 (sn_goto (pc := 118) (tgt := 123) dX12_first_118 rfl (sn_lf (pc := 123) (ln_a (i := 0) (q := 66) (ln_i (i := 1) (fun z0 => (ln_l (i := 2) (fun z1 => (ln_i (i := 6) (fun z2 => (ln_i (i := 7) (fun z3 => (ln_sl (fun w0 => (ln_end (o := fun τ => f_M_first_123 z0 z1 z2 z3 w0 τ) (fun _ _ _ e h => s_M_first_123 G z0 z1 z2 z3 w0 _ _ _ e h)))))))))))))))))))) _ _ _ _ _ ((eq_M_first_110 x1 x4 x6 x7 x10 x12 y0 σ).symm.trans e) hr
noncomputable def g_M_first_98 (x2 : Int64) (x4 : Int64) (x6 : Int32) (x7 : Int32) (x8 : Int64) (x10 : Int64) (x12 : Int32) (y0 : Int32) (σ : am_St) : Option ((Int32 × Int64 × Int64 × Int32 × Int32 × am_St) ⊕ ((Int32 × Int64 × Int64 × Int32 × am_St) ⊕ (Int32 × am_St))) :=
  if x12 = 0 then
    f_M_first_110 y0 x4 x6 x7 x10 x12 x2 σ
  else
    f_M_first_110 y0 x4 x6 x7 x10 x12 x8 σ
noncomputable def f_M_first_98 (x2 : Int64) (x4 : Int64) (x6 : Int32) (x7 : Int32) (x8 : Int64) (x10 : Int64) (x12 : Int32) (y0 : Int32) (σ : am_St) : Option ((Int32 × Int64 × Int64 × Int32 × Int32 × am_St) ⊕ ((Int32 × Int64 × Int64 × Int32 × am_St) ⊕ (Int32 × am_St))) := am_lk (g_M_first_98 x2 x4 x6 x7 x8 x10 x12 y0 σ)
theorem eq_M_first_98 (x2 : Int64) (x4 : Int64) (x6 : Int32) (x7 : Int32) (x8 : Int64) (x10 : Int64) (x12 : Int32) (y0 : Int32) (σ : am_St) : f_M_first_98 x2 x4 x6 x7 x8 x10 x12 y0 σ = g_M_first_98 x2 x4 x6 x7 x8 x10 x12 y0 σ := am_lk_eq _
set_option maxRecDepth 100000 in
set_option maxHeartbeats 4000000 in
theorem s_M_first_98 (G : am_G) (x2 : Int64) (x4 : Int64) (x6 : Int32) (x7 : Int32) (x8 : Int64) (x10 : Int64) (x12 : Int32) (y0 : Int32) (σ : am_St) (r : (Int32 × Int64 × Int64 × Int32 × Int32 × am_St) ⊕ ((Int32 × Int64 × Int64 × Int32 × am_St) ⊕ (Int32 × am_St))) (Q : am_AQ) (e : f_M_first_98 x2 x4 x6 x7 x8 x10 x12 y0 σ = some r) (hr : (Pl_M_first_28 G) r Q) : am_AW G M_M_first 98 [(12, .int x12), (10, .long x10), (8, .long x8), (7, .int x7), (6, .int x6), (4, .long x4), (2, .long x2), (0, .ref 66)] [.int y0] σ Q :=
  (show am_Snd G M_M_first 98 (Pl_M_first_28 G) _ from (sn_istore_n (pc := 98) (i := 1) dX12_first_98 rfl (Nat.le_of_ble_eq_true rfl) (sn_iload (pc := 99) dX12_first_99 (sn_if_eq (pc := 101) (tgt := 109) dX12_first_101 rfl (sn_lload_n (pc := 109) (i := 2) dX12_first_109 rfl (sn_lf (pc := 110) (ln_a (i := 0) (q := 66) (ln_i (i := 1) (fun z0 => (ln_l (i := 4) (fun z1 => (ln_i (i := 6) (fun z2 => (ln_i (i := 7) (fun z3 => (ln_l (i := 10) (fun z4 => (ln_i (i := 12) (fun z5 => (ln_sl (fun w0 => (ln_end (o := fun τ => f_M_first_110 z0 z1 z2 z3 z4 z5 w0 τ) (fun _ _ _ e h => s_M_first_110 G z0 z1 z2 z3 z4 z5 w0 _ _ _ e h))))))))))))))))))) (sn_lload (pc := 104) dX12_first_104 (sn_goto (pc := 106) (tgt := 110) dX12_first_106 rfl (sn_lf (pc := 110) (ln_a (i := 0) (q := 66) (ln_i (i := 1) (fun z0 => (ln_l (i := 4) (fun z1 => (ln_i (i := 6) (fun z2 => (ln_i (i := 7) (fun z3 => (ln_l (i := 10) (fun z4 => (ln_i (i := 12) (fun z5 => (ln_sl (fun w0 => (ln_end (o := fun τ => f_M_first_110 z0 z1 z2 z3 z4 z5 w0 τ) (fun _ _ _ e h => s_M_first_110 G z0 z1 z2 z3 z4 z5 w0 _ _ _ e h)))))))))))))))))))))))) _ _ _ _ _ ((eq_M_first_98 x2 x4 x6 x7 x8 x10 x12 y0 σ).symm.trans e) hr
noncomputable def g_M_first_79 (x1 : Int32) (x2 : Int64) (x4 : Int64) (x6 : Int32) (x7 : Int32) (x8 : Int64) (x10 : Int64) (y0 : Int32) (σ : am_St) : Option ((Int32 × Int64 × Int64 × Int32 × Int32 × am_St) ⊕ ((Int32 × Int64 × Int64 × Int32 × am_St) ⊕ (Int32 × am_St))) :=
  if y0 = 0 then
    f_M_first_98 x2 x4 x6 x7 x8 x10 y0 x1 σ
  else
    f_M_first_98 x2 x4 x6 x7 x8 x10 y0 ((10 * x6) + x7) σ
noncomputable def f_M_first_79 (x1 : Int32) (x2 : Int64) (x4 : Int64) (x6 : Int32) (x7 : Int32) (x8 : Int64) (x10 : Int64) (y0 : Int32) (σ : am_St) : Option ((Int32 × Int64 × Int64 × Int32 × Int32 × am_St) ⊕ ((Int32 × Int64 × Int64 × Int32 × am_St) ⊕ (Int32 × am_St))) := am_lk (g_M_first_79 x1 x2 x4 x6 x7 x8 x10 y0 σ)
theorem eq_M_first_79 (x1 : Int32) (x2 : Int64) (x4 : Int64) (x6 : Int32) (x7 : Int32) (x8 : Int64) (x10 : Int64) (y0 : Int32) (σ : am_St) : f_M_first_79 x1 x2 x4 x6 x7 x8 x10 y0 σ = g_M_first_79 x1 x2 x4 x6 x7 x8 x10 y0 σ := am_lk_eq _
set_option maxRecDepth 100000 in
set_option maxHeartbeats 4000000 in
theorem s_M_first_79 (G : am_G) (x1 : Int32) (x2 : Int64) (x4 : Int64) (x6 : Int32) (x7 : Int32) (x8 : Int64) (x10 : Int64) (y0 : Int32) (σ : am_St) (r : (Int32 × Int64 × Int64 × Int32 × Int32 × am_St) ⊕ ((Int32 × Int64 × Int64 × Int32 × am_St) ⊕ (Int32 × am_St))) (Q : am_AQ) (e : f_M_first_79 x1 x2 x4 x6 x7 x8 x10 y0 σ = some r) (hr : (Pl_M_first_28 G) r Q) : am_AW G M_M_first 79 [(10, .long x10), (8, .long x8), (7, .int x7), (6, .int x6), (4, .long x4), (2, .long x2), (1, .int x1), (0, .ref 66)] [.int y0] σ Q :=
  (show am_Snd G M_M_first 79 (Pl_M_first_28 G) _ from (sn_istore (pc := 79) dX12_first_79 (Nat.le_of_ble_eq_true rfl) (sn_iload (pc := 81) dX12_first_81 (sn_if_eq (pc := 83) (tgt := 97) dX12_first_83 rfl (sn_iload_n (pc := 97) (i := 1) dX12_first_97 rfl (sn_lf (pc := 98) (ln_a (i := 0) (q := 66) (ln_l (i := 2) (fun z0 => (ln_l (i := 4) (fun z1 => (ln_i (i := 6) (fun z2 => (ln_i (i := 7) (fun z3 => (ln_l (i := 8) (fun z4 => (ln_l (i := 10) (fun z5 => (ln_i (i := 12) (fun z6 => (ln_si (fun w0 => (ln_end (o := fun τ => f_M_first_98 z0 z1 z2 z3 z4 z5 z6 w0 τ) (fun _ _ _ e h => s_M_first_98 G z0 z1 z2 z3 z4 z5 z6 w0 _ _ _ e h))))))))))))))))))))) (sn_bipush (pc := 86) (v := 10) dX12_first_86 rfl (sn_iload (pc := 88) dX12_first_88 (sn_imul (pc := 90) dX12_first_90 (sn_iload (pc := 91) dX12_first_91 (sn_iadd (pc := 93) dX12_first_93 (sn_goto (pc := 94) (tgt := 98) dX12_first_94 rfl (sn_lf (pc := 98) (ln_a (i := 0) (q := 66) (ln_l (i := 2) (fun z0 => (ln_l (i := 4) (fun z1 => (ln_i (i := 6) (fun z2 => (ln_i (i := 7) (fun z3 => (ln_l (i := 8) (fun z4 => (ln_l (i := 10) (fun z5 => (ln_i (i := 12) (fun z6 => (ln_si (fun w0 => (ln_end (o := fun τ => f_M_first_98 z0 z1 z2 z3 z4 z5 z6 w0 τ) (fun _ _ _ e h => s_M_first_98 G z0 z1 z2 z3 z4 z5 z6 w0 _ _ _ e h)))))))))))))))))))))))))))))) _ _ _ _ _ ((eq_M_first_79 x1 x2 x4 x6 x7 x8 x10 y0 σ).symm.trans e) hr
noncomputable def g_M_first_74 (x1 : Int32) (x2 : Int64) (x4 : Int64) (x6 : Int32) (x7 : Int32) (x8 : Int64) (x10 : Int64) (σ : am_St) : Option ((Int32 × Int64 × Int64 × Int32 × Int32 × am_St) ⊕ ((Int32 × Int64 × Int64 × Int32 × am_St) ⊕ (Int32 × am_St))) :=
  f_M_first_79 x1 x2 x4 x6 x7 x8 x10 1 σ
noncomputable def f_M_first_74 (x1 : Int32) (x2 : Int64) (x4 : Int64) (x6 : Int32) (x7 : Int32) (x8 : Int64) (x10 : Int64) (σ : am_St) : Option ((Int32 × Int64 × Int64 × Int32 × Int32 × am_St) ⊕ ((Int32 × Int64 × Int64 × Int32 × am_St) ⊕ (Int32 × am_St))) := am_lk (g_M_first_74 x1 x2 x4 x6 x7 x8 x10 σ)
theorem eq_M_first_74 (x1 : Int32) (x2 : Int64) (x4 : Int64) (x6 : Int32) (x7 : Int32) (x8 : Int64) (x10 : Int64) (σ : am_St) : f_M_first_74 x1 x2 x4 x6 x7 x8 x10 σ = g_M_first_74 x1 x2 x4 x6 x7 x8 x10 σ := am_lk_eq _
set_option maxRecDepth 100000 in
set_option maxHeartbeats 4000000 in
theorem s_M_first_74 (G : am_G) (x1 : Int32) (x2 : Int64) (x4 : Int64) (x6 : Int32) (x7 : Int32) (x8 : Int64) (x10 : Int64) (σ : am_St) (r : (Int32 × Int64 × Int64 × Int32 × Int32 × am_St) ⊕ ((Int32 × Int64 × Int64 × Int32 × am_St) ⊕ (Int32 × am_St))) (Q : am_AQ) (e : f_M_first_74 x1 x2 x4 x6 x7 x8 x10 σ = some r) (hr : (Pl_M_first_28 G) r Q) : am_AW G M_M_first 74 [(10, .long x10), (8, .long x8), (7, .int x7), (6, .int x6), (4, .long x4), (2, .long x2), (1, .int x1), (0, .ref 66)] [] σ Q :=
  (show am_Snd G M_M_first 74 (Pl_M_first_28 G) _ from (sn_iconst (pc := 74) (v := 1) dX12_first_74 rfl (sn_goto (pc := 75) (tgt := 79) dX12_first_75 rfl (sn_lf (pc := 79) (ln_a (i := 0) (q := 66) (ln_i (i := 1) (fun z0 => (ln_l (i := 2) (fun z1 => (ln_l (i := 4) (fun z2 => (ln_i (i := 6) (fun z3 => (ln_i (i := 7) (fun z4 => (ln_l (i := 8) (fun z5 => (ln_l (i := 10) (fun z6 => (ln_si (fun w0 => (ln_end (o := fun τ => f_M_first_79 z0 z1 z2 z3 z4 z5 z6 w0 τ) (fun _ _ _ e h => s_M_first_79 G z0 z1 z2 z3 z4 z5 z6 w0 _ _ _ e h))))))))))))))))))))))) _ _ _ _ _ ((eq_M_first_74 x1 x2 x4 x6 x7 x8 x10 σ).symm.trans e) hr
noncomputable def g_M_first_57 (x1 : Int32) (x2 : Int64) (x4 : Int64) (x6 : Int32) (x7 : Int32) (x8 : Int64) (x10 : Int64) (σ : am_St) : Option ((Int32 × Int64 × Int64 × Int32 × Int32 × am_St) ⊕ ((Int32 × Int64 × Int64 × Int32 × am_St) ⊕ (Int32 × am_St))) :=
  if x1 < 0 then
    f_M_first_74 x1 x2 x4 x6 x7 x8 x10 σ
  else
    if 0 ≤ (lg_cmp (x8 * x4) (x2 * x10)) then
      f_M_first_79 x1 x2 x4 x6 x7 x8 x10 0 σ
    else
      f_M_first_74 x1 x2 x4 x6 x7 x8 x10 σ
noncomputable def f_M_first_57 (x1 : Int32) (x2 : Int64) (x4 : Int64) (x6 : Int32) (x7 : Int32) (x8 : Int64) (x10 : Int64) (σ : am_St) : Option ((Int32 × Int64 × Int64 × Int32 × Int32 × am_St) ⊕ ((Int32 × Int64 × Int64 × Int32 × am_St) ⊕ (Int32 × am_St))) := am_lk (g_M_first_57 x1 x2 x4 x6 x7 x8 x10 σ)
theorem eq_M_first_57 (x1 : Int32) (x2 : Int64) (x4 : Int64) (x6 : Int32) (x7 : Int32) (x8 : Int64) (x10 : Int64) (σ : am_St) : f_M_first_57 x1 x2 x4 x6 x7 x8 x10 σ = g_M_first_57 x1 x2 x4 x6 x7 x8 x10 σ := am_lk_eq _
set_option maxRecDepth 100000 in
set_option maxHeartbeats 4000000 in
theorem s_M_first_57 (G : am_G) (x1 : Int32) (x2 : Int64) (x4 : Int64) (x6 : Int32) (x7 : Int32) (x8 : Int64) (x10 : Int64) (σ : am_St) (r : (Int32 × Int64 × Int64 × Int32 × Int32 × am_St) ⊕ ((Int32 × Int64 × Int64 × Int32 × am_St) ⊕ (Int32 × am_St))) (Q : am_AQ) (e : f_M_first_57 x1 x2 x4 x6 x7 x8 x10 σ = some r) (hr : (Pl_M_first_28 G) r Q) : am_AW G M_M_first 57 [(10, .long x10), (8, .long x8), (7, .int x7), (6, .int x6), (4, .long x4), (2, .long x2), (1, .int x1), (0, .ref 66)] [] σ Q :=
  (show am_Snd G M_M_first 57 (Pl_M_first_28 G) _ from (sn_iload_n (pc := 57) (i := 1) dX12_first_57 rfl (sn_if_lt (pc := 58) (tgt := 74) dX12_first_58 rfl (sn_lf (pc := 74) (ln_a (i := 0) (q := 66) (ln_i (i := 1) (fun z0 => (ln_l (i := 2) (fun z1 => (ln_l (i := 4) (fun z2 => (ln_i (i := 6) (fun z3 => (ln_i (i := 7) (fun z4 => (ln_l (i := 8) (fun z5 => (ln_l (i := 10) (fun z6 => (ln_end (o := fun τ => f_M_first_74 z0 z1 z2 z3 z4 z5 z6 τ) (fun _ _ _ e h => s_M_first_74 G z0 z1 z2 z3 z4 z5 z6 _ _ _ e h)))))))))))))))))) (sn_lload (pc := 61) dX12_first_61 (sn_lload (pc := 63) dX12_first_63 (sn_lmul (pc := 65) dX12_first_65 (sn_lload_n (pc := 66) (i := 2) dX12_first_66 rfl (sn_lload (pc := 67) dX12_first_67 (sn_lmul (pc := 69) dX12_first_69 (sn_lcmp (pc := 70) dX12_first_70 (sn_if_ge (pc := 71) (tgt := 78) dX12_first_71 rfl (sn_iconst (pc := 78) (v := 0) dX12_first_78 rfl (sn_lf (pc := 79) (ln_a (i := 0) (q := 66) (ln_i (i := 1) (fun z0 => (ln_l (i := 2) (fun z1 => (ln_l (i := 4) (fun z2 => (ln_i (i := 6) (fun z3 => (ln_i (i := 7) (fun z4 => (ln_l (i := 8) (fun z5 => (ln_l (i := 10) (fun z6 => (ln_si (fun w0 => (ln_end (o := fun τ => f_M_first_79 z0 z1 z2 z3 z4 z5 z6 w0 τ) (fun _ _ _ e h => s_M_first_79 G z0 z1 z2 z3 z4 z5 z6 w0 _ _ _ e h))))))))))))))))))))) (sn_lf (pc := 74) (ln_a (i := 0) (q := 66) (ln_i (i := 1) (fun z0 => (ln_l (i := 2) (fun z1 => (ln_l (i := 4) (fun z2 => (ln_i (i := 6) (fun z3 => (ln_i (i := 7) (fun z4 => (ln_l (i := 8) (fun z5 => (ln_l (i := 10) (fun z6 => (ln_end (o := fun τ => f_M_first_74 z0 z1 z2 z3 z4 z5 z6 τ) (fun _ _ _ e h => s_M_first_74 G z0 z1 z2 z3 z4 z5 z6 _ _ _ e h))))))))))))))))))))))))))))) _ _ _ _ _ ((eq_M_first_57 x1 x2 x4 x6 x7 x8 x10 σ).symm.trans e) hr
noncomputable def b_M_first_28 (x1 : Int32) (x2 : Int64) (x4 : Int64) (x6 : Int32) (x7 : Int32) (σ : am_St) : Option ((Int32 × Int64 × Int64 × Int32 × Int32 × am_St) ⊕ ((Int32 × Int64 × Int64 × Int32 × am_St) ⊕ (Int32 × am_St))) :=
  if (σ.1 66 1) ≤ x7 then
    let v1 := x6 + 1
    some (.inr (.inl (x1, x2, x4, v1, σ)))
  else
    (f_M_mostLeft x6 x7 σ).bind (fun p2 =>
      (f_M_waysOf x6 p2.2).bind (fun p3 =>
        f_M_first_57 x1 x2 x4 x6 x7 p2.1.toInt64 p3.1.toInt64 p3.2))
noncomputable def f_M_first_28 (x1 : Int32) (x2 : Int64) (x4 : Int64) (x6 : Int32) (x7 : Int32) (σ : am_St) : Option ((Int32 × Int64 × Int64 × Int32 × am_St) ⊕ (Int32 × am_St)) := am_lp (fun s : Int32 × Int64 × Int64 × Int32 × Int32 × am_St => b_M_first_28 s.1 s.2.1 s.2.2.1 s.2.2.2.1 s.2.2.2.2.1 s.2.2.2.2.2) (x1, x2, x4, x6, x7, σ)
set_option maxRecDepth 100000 in
set_option maxHeartbeats 4000000 in
theorem sb_M_first_28 (G : am_G) (x1 : Int32) (x2 : Int64) (x4 : Int64) (x6 : Int32) (x7 : Int32) (σ : am_St) (r : (Int32 × Int64 × Int64 × Int32 × Int32 × am_St) ⊕ ((Int32 × Int64 × Int64 × Int32 × am_St) ⊕ (Int32 × am_St))) (Q : am_AQ) (e : b_M_first_28 x1 x2 x4 x6 x7 σ = some r) (hr : Pl_M_first_28 G r Q) : am_AW G M_M_first 28 [(7, .int x7), (6, .int x6), (4, .long x4), (2, .long x2), (1, .int x1), (0, .ref 66)] [] σ Q :=
  (show am_Snd G M_M_first 28 (Pl_M_first_28 G) _ from (sn_iload (pc := 28) dX12_first_28 (sn_aload_n (pc := 30) (i := 0) dX12_first_30 rfl (sn_gI (pc := 31) (h := 66) (f := 1) dX12_first_31 am_CL_11 sh_66 rfl (Nat.le_of_ble_eq_true rfl) tw_942 (sn_icmp_ge (pc := 34) (tgt := 131) dX12_first_34 rfl (sn_iinc (pc := 131) (v := 1) dX12_first_131 rfl (Nat.le_of_ble_eq_true rfl) (sn_goto (pc := 134) (tgt := 16) dX12_first_134 rfl (sn_lf (pc := 16) (ln_a (i := 0) (q := 66) (ln_i (i := 1) (fun z0 => (ln_l (i := 2) (fun z1 => (ln_l (i := 4) (fun z2 => (ln_i (i := 6) (fun z3 => (ln_end (o := fun τ => (some (.inr (.inl (z0, z1, z2, z3, τ))) : Option ((Int32 × Int64 × Int64 × Int32 × Int32 × am_St) ⊕ ((Int32 × Int64 × Int64 × Int32 × am_St) ⊕ (Int32 × am_St))))) (fun _ _ _ e h => by cases e; exact h)))))))))))))) (sn_aload_n (pc := 37) (i := 0) dX12_first_37 rfl (sn_iload (pc := 38) dX12_first_38 (sn_iload (pc := 40) dX12_first_40 (sn_callV (pc := 42) (N := M_M_mostLeft) dX12_first_42 (cal_M_mostLeft G) sh_66 rfl tw_1364 tw_1366 tp_63 tw_12 tw_1367 dsc_X12_mostLeft rfl (sn_i2l (pc := 45) dX12_first_45 (sn_lstore (pc := 46) dX12_first_46 (Nat.le_of_ble_eq_true rfl) (sn_aload_n (pc := 48) (i := 0) dX12_first_48 rfl (sn_iload (pc := 49) dX12_first_49 (sn_callV (pc := 51) (N := M_M_waysOf) dX12_first_51 (cal_M_waysOf G) sh_66 rfl tw_1158 tw_1160 tp_37 tw_12 tw_1161 dsc_X12_waysOf rfl (sn_i2l (pc := 54) dX12_first_54 (sn_lstore (pc := 55) dX12_first_55 (Nat.le_of_ble_eq_true rfl) (sn_lf (pc := 57) (ln_a (i := 0) (q := 66) (ln_i (i := 1) (fun z0 => (ln_l (i := 2) (fun z1 => (ln_l (i := 4) (fun z2 => (ln_i (i := 6) (fun z3 => (ln_i (i := 7) (fun z4 => (ln_l (i := 8) (fun z5 => (ln_l (i := 10) (fun z6 => (ln_end (o := fun τ => f_M_first_57 z0 z1 z2 z3 z4 z5 z6 τ) (fun _ _ _ e h => s_M_first_57 G z0 z1 z2 z3 z4 z5 z6 _ _ _ e h)))))))))))))))))))))))))))))))))) _ _ _ _ _ e hr
theorem s_M_first_28 (G : am_G) (x1 : Int32) (x2 : Int64) (x4 : Int64) (x6 : Int32) (x7 : Int32) (σ : am_St) (r : (Int32 × Int64 × Int64 × Int32 × am_St) ⊕ (Int32 × am_St)) (Q : am_AQ) (e : f_M_first_28 x1 x2 x4 x6 x7 σ = some r) (hr : (Pl_M_first_16 G) r Q) : am_AW G M_M_first 28 [(7, .int x7), (6, .int x6), (4, .long x4), (2, .long x2), (1, .int x1), (0, .ref 66)] [] σ Q :=
  am_loop (P := (Pl_M_first_16 G)) (L := fun s : Int32 × Int64 × Int64 × Int32 × Int32 × am_St => [(7, .int s.2.2.2.2.1), (6, .int s.2.2.2.1), (4, .long s.2.2.1), (2, .long s.2.1), (1, .int s.1), (0, .ref 66)]) (g := fun s => s.2.2.2.2.2) (fun s o Q e hr => sb_M_first_28 G s.1 s.2.1 s.2.2.1 s.2.2.2.1 s.2.2.2.2.1 s.2.2.2.2.2 o Q e hr) (x1, x2, x4, x6, x7, σ) r Q e hr
noncomputable def b_M_first_16 (x1 : Int32) (x2 : Int64) (x4 : Int64) (x6 : Int32) (σ : am_St) : Option ((Int32 × Int64 × Int64 × Int32 × am_St) ⊕ (Int32 × am_St)) :=
  if (σ.1 66 2) ≤ x6 then
    some (.inr ((x1, σ)))
  else
    f_M_first_28 x1 x2 x4 x6 0 σ
noncomputable def f_M_first_16 (x1 : Int32) (x2 : Int64) (x4 : Int64) (x6 : Int32) (σ : am_St) : Option (Int32 × am_St) := am_lp (fun s : Int32 × Int64 × Int64 × Int32 × am_St => b_M_first_16 s.1 s.2.1 s.2.2.1 s.2.2.2.1 s.2.2.2.2) (x1, x2, x4, x6, σ)
set_option maxRecDepth 100000 in
set_option maxHeartbeats 4000000 in
theorem sb_M_first_16 (G : am_G) (x1 : Int32) (x2 : Int64) (x4 : Int64) (x6 : Int32) (σ : am_St) (r : (Int32 × Int64 × Int64 × Int32 × am_St) ⊕ (Int32 × am_St)) (Q : am_AQ) (e : b_M_first_16 x1 x2 x4 x6 σ = some r) (hr : Pl_M_first_16 G r Q) : am_AW G M_M_first 16 [(6, .int x6), (4, .long x4), (2, .long x2), (1, .int x1), (0, .ref 66)] [] σ Q :=
  (show am_Snd G M_M_first 16 (Pl_M_first_16 G) _ from (sn_iload (pc := 16) dX12_first_16 (sn_aload_n (pc := 18) (i := 0) dX12_first_18 rfl (sn_gI (pc := 19) (h := 66) (f := 2) dX12_first_19 am_CL_11 sh_66 rfl (Nat.le_of_ble_eq_true rfl) tw_943 (sn_icmp_ge (pc := 22) (tgt := 137) dX12_first_22 rfl (sn_iload_n (pc := 137) (i := 1) dX12_first_137 rfl (sn_reti (pc := 138) (R := fun x τ => (some (.inr ((x, τ))) : Option ((Int32 × Int64 × Int64 × Int32 × am_St) ⊕ (Int32 × am_St)))) dX12_first_138 rfl (fun _ _ _ _ e h => by cases e; exact h))) (sn_iconst (pc := 25) (v := 0) dX12_first_25 rfl (sn_istore (pc := 26) dX12_first_26 (Nat.le_of_ble_eq_true rfl) (sn_lf (pc := 28) (ln_a (i := 0) (q := 66) (ln_i (i := 1) (fun z0 => (ln_l (i := 2) (fun z1 => (ln_l (i := 4) (fun z2 => (ln_i (i := 6) (fun z3 => (ln_i (i := 7) (fun z4 => (ln_end (o := fun τ => f_M_first_28 z0 z1 z2 z3 z4 τ) (fun _ _ _ e h => s_M_first_28 G z0 z1 z2 z3 z4 _ _ _ e h))))))))))))))))))))) _ _ _ _ _ e hr
theorem s_M_first_16 (G : am_G) (x1 : Int32) (x2 : Int64) (x4 : Int64) (x6 : Int32) (σ : am_St) (r : Int32 × am_St) (Q : am_AQ) (e : f_M_first_16 x1 x2 x4 x6 σ = some r) (hr : am_Pi r Q) : am_AW G M_M_first 16 [(6, .int x6), (4, .long x4), (2, .long x2), (1, .int x1), (0, .ref 66)] [] σ Q :=
  am_loop (P := am_Pi) (L := fun s : Int32 × Int64 × Int64 × Int32 × am_St => [(6, .int s.2.2.2.1), (4, .long s.2.2.1), (2, .long s.2.1), (1, .int s.1), (0, .ref 66)]) (g := fun s => s.2.2.2.2) (fun s o Q e hr => sb_M_first_16 G s.1 s.2.1 s.2.2.1 s.2.2.2.1 s.2.2.2.2 o Q e hr) (x1, x2, x4, x6, σ) r Q e hr
noncomputable def g_M_first (σ : am_St) : Option (Int32 × am_St) :=
  let s1 := am_sI σ 66 22 0
  f_M_first_16 ((-9)) 1 1 0 s1
noncomputable def f_M_first (σ : am_St) : Option (Int32 × am_St) := am_lk (g_M_first  σ)
theorem eq_M_first (σ : am_St) : f_M_first  σ = g_M_first  σ := am_lk_eq _
set_option maxRecDepth 100000 in
set_option maxHeartbeats 4000000 in
theorem s_M_first (G : am_G) (σ : am_St) (r : Int32 × am_St) (Q : am_AQ) (e : f_M_first  σ = some r) (hr : am_Pi r Q) : am_AW G M_M_first 0 [(0, .ref 66)] [] σ Q :=
  (show am_Snd G M_M_first 0 am_Pi _ from (sn_aload_n (pc := 0) (i := 0) dX12_first_0 rfl (sn_iconst (pc := 1) (v := 0) dX12_first_1 rfl (sn_pI (pc := 2) (h := 66) (f := 22) dX12_first_2 am_CL_11 sh_66 rfl (Nat.le_of_ble_eq_true rfl) tw_963 rfl rfl (sn_bipush (pc := 5) (v := (-9)) dX12_first_5 (show (Int8.ofInt (-9)).toInt32 = (-9) by decide) (sn_istore_n (pc := 7) (i := 1) dX12_first_7 rfl (Nat.le_of_ble_eq_true rfl) (sn_lconst (pc := 8) (v := 1) dX12_first_8 rfl (sn_lstore_n (pc := 9) (i := 2) dX12_first_9 rfl (Nat.le_of_ble_eq_true rfl) (sn_lconst (pc := 10) (v := 1) dX12_first_10 rfl (sn_lstore (pc := 11) dX12_first_11 (Nat.le_of_ble_eq_true rfl) (sn_iconst (pc := 13) (v := 0) dX12_first_13 rfl (sn_istore (pc := 14) dX12_first_14 (Nat.le_of_ble_eq_true rfl) (sn_lf (pc := 16) (ln_a (i := 0) (q := 66) (ln_i (i := 1) (fun z0 => (ln_l (i := 2) (fun z1 => (ln_l (i := 4) (fun z2 => (ln_i (i := 6) (fun z3 => (ln_end (o := fun τ => f_M_first_16 z0 z1 z2 z3 τ) (fun _ _ _ e h => s_M_first_16 G z0 z1 z2 z3 _ _ _ e h)))))))))))))))))))))))) _ _ _ _ _ ((eq_M_first  σ).symm.trans e) hr
noncomputable def cF_M_first : am_Fn := fun _ args σ K => match args with
  | [.ref q0] => match Nat.beq q0 66 with
    | true => (f_M_first σ).bind (fun p => K (some (.int p.1)) p.2)
    | _ => none
  | _ => none
theorem cal_M_first (G : am_G) : am_Cal G M_M_first cF_M_first := by
  intro ρ args σ K r e
  unfold cF_M_first at e
  split at e
  · split at e
    · rename_i hq0
      obtain ⟨p, h1, h2⟩ := am_bind_some e
      rw [Nat.eq_of_beq_eq_true hq0]
      exact ⟨some (.int p.1), p.2, am_Met.of rfl (Nat.le_of_ble_eq_true rfl) (s_M_first G  σ p _ h1 ⟨rfl, rfl⟩), h2⟩
    · cases e
  · cases e
abbrev M_M_minuteBy : am_MD := (yX12_minuteBy, cX12_minuteBy, 2, (some .int), 0, 0)
theorem dX12_minuteBy_0 : decode cX12_minuteBy 0 = .ok (.iload_n 1, 1) := by decide +kernel
theorem dX12_minuteBy_1 : decode cX12_minuteBy 1 = .ok (.ifCond .ne 10, 3) := by decide +kernel
theorem dX12_minuteBy_4 : decode cX12_minuteBy 4 = .ok (.aload_n 0, 1) := by decide +kernel
theorem dX12_minuteBy_5 : decode cX12_minuteBy 5 = .ok (.getfield 127, 3) := by decide +kernel
theorem dX12_minuteBy_8 : decode cX12_minuteBy 8 = .ok (.goto 18, 3) := by decide +kernel
theorem dX12_minuteBy_11 : decode cX12_minuteBy 11 = .ok (.iload_n 1, 1) := by decide +kernel
theorem dX12_minuteBy_12 : decode cX12_minuteBy 12 = .ok (.aload_n 0, 1) := by decide +kernel
theorem dX12_minuteBy_13 : decode cX12_minuteBy 13 = .ok (.getfield 127, 3) := by decide +kernel
theorem dX12_minuteBy_16 : decode cX12_minuteBy 16 = .ok (.if_icmp .gt 9, 3) := by decide +kernel
theorem dX12_minuteBy_19 : decode cX12_minuteBy 19 = .ok (.iload_n 1, 1) := by decide +kernel
theorem dX12_minuteBy_20 : decode cX12_minuteBy 20 = .ok (.iconst 1, 1) := by decide +kernel
theorem dX12_minuteBy_21 : decode cX12_minuteBy 21 = .ok (.isub, 1) := by decide +kernel
theorem dX12_minuteBy_22 : decode cX12_minuteBy 22 = .ok (.goto 4, 3) := by decide +kernel
theorem dX12_minuteBy_25 : decode cX12_minuteBy 25 = .ok (.iload_n 1, 1) := by decide +kernel
theorem dX12_minuteBy_26 : decode cX12_minuteBy 26 = .ok (.ireturn, 1) := by decide +kernel
noncomputable def g_M_minuteBy (x1 : Int32) (σ : am_St) : Option (Int32 × am_St) :=
  if x1 = 0 then
    some ((σ.1 66 6, σ))
  else
    if (σ.1 66 6) < x1 then
      some ((x1, σ))
    else
      some ((x1 - 1, σ))
noncomputable def f_M_minuteBy (x1 : Int32) (σ : am_St) : Option (Int32 × am_St) := am_lk (g_M_minuteBy x1 σ)
theorem eq_M_minuteBy (x1 : Int32) (σ : am_St) : f_M_minuteBy x1 σ = g_M_minuteBy x1 σ := am_lk_eq _
set_option maxRecDepth 100000 in
set_option maxHeartbeats 4000000 in
theorem s_M_minuteBy (G : am_G) (x1 : Int32) (σ : am_St) (r : Int32 × am_St) (Q : am_AQ) (e : f_M_minuteBy x1 σ = some r) (hr : am_Pi r Q) : am_AW G M_M_minuteBy 0 [(0, .ref 66), (1, .int x1)] [] σ Q :=
  (show am_Snd G M_M_minuteBy 0 am_Pi _ from (sn_iload_n (pc := 0) (i := 1) dX12_minuteBy_0 rfl (sn_if_ne (pc := 1) (tgt := 11) dX12_minuteBy_1 rfl (sn_iload_n (pc := 11) (i := 1) dX12_minuteBy_11 rfl (sn_aload_n (pc := 12) (i := 0) dX12_minuteBy_12 rfl (sn_gI (pc := 13) (h := 66) (f := 6) dX12_minuteBy_13 am_CL_11 sh_66 rfl (Nat.le_of_ble_eq_true rfl) tw_947 (sn_icmp_gt (pc := 16) (tgt := 25) dX12_minuteBy_16 rfl (sn_iload_n (pc := 25) (i := 1) dX12_minuteBy_25 rfl (sn_reti (pc := 26) (R := fun x τ => (some ((x, τ)))) dX12_minuteBy_26 rfl (fun _ _ _ _ e h => by cases e; exact h))) (sn_iload_n (pc := 19) (i := 1) dX12_minuteBy_19 rfl (sn_iconst (pc := 20) (v := 1) dX12_minuteBy_20 rfl (sn_isub (pc := 21) dX12_minuteBy_21 (sn_goto (pc := 22) (tgt := 26) dX12_minuteBy_22 rfl (sn_reti (pc := 26) (R := fun x τ => (some ((x, τ)))) dX12_minuteBy_26 rfl (fun _ _ _ _ e h => by cases e; exact h)))))))))) (sn_aload_n (pc := 4) (i := 0) dX12_minuteBy_4 rfl (sn_gI (pc := 5) (h := 66) (f := 6) dX12_minuteBy_5 am_CL_11 sh_66 rfl (Nat.le_of_ble_eq_true rfl) tw_947 (sn_goto (pc := 8) (tgt := 26) dX12_minuteBy_8 rfl (sn_reti (pc := 26) (R := fun x τ => (some ((x, τ)))) dX12_minuteBy_26 rfl (fun _ _ _ _ e h => by cases e; exact h)))))))) _ _ _ _ _ ((eq_M_minuteBy x1 σ).symm.trans e) hr
noncomputable def cF_M_minuteBy : am_Fn := fun _ args σ K => match args with
  | [.ref q0, .int z1] => match Nat.beq q0 66 with
    | true => (f_M_minuteBy z1 σ).bind (fun p => K (some (.int p.1)) p.2)
    | _ => none
  | _ => none
theorem cal_M_minuteBy (G : am_G) : am_Cal G M_M_minuteBy cF_M_minuteBy := by
  intro ρ args σ K r e
  unfold cF_M_minuteBy at e
  split at e
  · split at e
    · rename_i hq0
      obtain ⟨p, h1, h2⟩ := am_bind_some e
      rw [Nat.eq_of_beq_eq_true hq0]
      exact ⟨some (.int p.1), p.2, am_Met.of rfl (Nat.le_of_ble_eq_true rfl) (s_M_minuteBy G _ σ p _ h1 ⟨rfl, rfl⟩), h2⟩
    · cases e
  · cases e
