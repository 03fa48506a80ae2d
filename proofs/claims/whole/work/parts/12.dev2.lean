abbrev M_T_knows : am_MD := (yX4_knows, cX4_knows, 7, (some .boolean), 3, 76)
theorem dX4_knows_0 : decode cX4_knows 0 = .ok (.aload_n 0, 1) := by decide +kernel
theorem dX4_knows_1 : decode cX4_knows 1 = .ok (.iload_n 1, 1) := by decide +kernel
theorem dX4_knows_2 : decode cX4_knows 2 = .ok (.iconst 1, 1) := by decide +kernel
theorem dX4_knows_3 : decode cX4_knows 3 = .ok (.iadd, 1) := by decide +kernel
theorem dX4_knows_4 : decode cX4_knows 4 = .ok (.invokevirtual 58, 3) := by decide +kernel
theorem dX4_knows_7 : decode cX4_knows 7 = .ok (.istore_n 3, 1) := by decide +kernel
theorem dX4_knows_8 : decode cX4_knows 8 = .ok (.aload_n 0, 1) := by decide +kernel
theorem dX4_knows_9 : decode cX4_knows 9 = .ok (.iload_n 1, 1) := by decide +kernel
theorem dX4_knows_10 : decode cX4_knows 10 = .ok (.iconst 2, 1) := by decide +kernel
theorem dX4_knows_11 : decode cX4_knows 11 = .ok (.iadd, 1) := by decide +kernel
theorem dX4_knows_12 : decode cX4_knows 12 = .ok (.invokevirtual 58, 3) := by decide +kernel
theorem dX4_knows_15 : decode cX4_knows 15 = .ok (.istore 4, 2) := by decide +kernel
theorem dX4_knows_17 : decode cX4_knows 17 = .ok (.aload_n 0, 1) := by decide +kernel
theorem dX4_knows_18 : decode cX4_knows 18 = .ok (.iload_n 1, 1) := by decide +kernel
theorem dX4_knows_19 : decode cX4_knows 19 = .ok (.iconst 3, 1) := by decide +kernel
theorem dX4_knows_20 : decode cX4_knows 20 = .ok (.iadd, 1) := by decide +kernel
theorem dX4_knows_21 : decode cX4_knows 21 = .ok (.invokevirtual 58, 3) := by decide +kernel
theorem dX4_knows_24 : decode cX4_knows 24 = .ok (.istore 5, 2) := by decide +kernel
theorem dX4_knows_26 : decode cX4_knows 26 = .ok (.aload_n 0, 1) := by decide +kernel
theorem dX4_knows_27 : decode cX4_knows 27 = .ok (.iload_n 1, 1) := by decide +kernel
theorem dX4_knows_28 : decode cX4_knows 28 = .ok (.iconst 4, 1) := by decide +kernel
theorem dX4_knows_29 : decode cX4_knows 29 = .ok (.iadd, 1) := by decide +kernel
theorem dX4_knows_30 : decode cX4_knows 30 = .ok (.invokevirtual 44, 3) := by decide +kernel
theorem dX4_knows_33 : decode cX4_knows 33 = .ok (.bipush 43, 2) := by decide +kernel
theorem dX4_knows_35 : decode cX4_knows 35 = .ok (.if_icmp .ne 7, 3) := by decide +kernel
theorem dX4_knows_38 : decode cX4_knows 38 = .ok (.iconst 1, 1) := by decide +kernel
theorem dX4_knows_39 : decode cX4_knows 39 = .ok (.goto 4, 3) := by decide +kernel
theorem dX4_knows_42 : decode cX4_knows 42 = .ok (.iconst 0, 1) := by decide +kernel
theorem dX4_knows_43 : decode cX4_knows 43 = .ok (.invokestatic 121, 3) := by decide +kernel
theorem dX4_knows_46 : decode cX4_knows 46 = .ok (.istore 6, 2) := by decide +kernel
theorem dX4_knows_48 : decode cX4_knows 48 = .ok (.aload_n 0, 1) := by decide +kernel
theorem dX4_knows_49 : decode cX4_knows 49 = .ok (.getfield 22, 3) := by decide +kernel
theorem dX4_knows_52 : decode cX4_knows 52 = .ok (.iload_n 3, 1) := by decide +kernel
theorem dX4_knows_53 : decode cX4_knows 53 = .ok (.invokevirtual 105, 3) := by decide +kernel
theorem dX4_knows_56 : decode cX4_knows 56 = .ok (.ifCond .eq 60, 3) := by decide +kernel
theorem dX4_knows_59 : decode cX4_knows 59 = .ok (.aload_n 0, 1) := by decide +kernel
theorem dX4_knows_60 : decode cX4_knows 60 = .ok (.getfield 22, 3) := by decide +kernel
theorem dX4_knows_63 : decode cX4_knows 63 = .ok (.iload 4, 2) := by decide +kernel
theorem dX4_knows_65 : decode cX4_knows 65 = .ok (.invokevirtual 115, 3) := by decide +kernel
theorem dX4_knows_68 : decode cX4_knows 68 = .ok (.ifCond .eq 48, 3) := by decide +kernel
theorem dX4_knows_71 : decode cX4_knows 71 = .ok (.aload_n 0, 1) := by decide +kernel
theorem dX4_knows_72 : decode cX4_knows 72 = .ok (.getfield 22, 3) := by decide +kernel
theorem dX4_knows_75 : decode cX4_knows 75 = .ok (.iload 5, 2) := by decide +kernel
theorem dX4_knows_77 : decode cX4_knows 77 = .ok (.invokevirtual 89, 3) := by decide +kernel
theorem dX4_knows_80 : decode cX4_knows 80 = .ok (.ifCond .eq 36, 3) := by decide +kernel
theorem dX4_knows_83 : decode cX4_knows 83 = .ok (.aload_n 0, 1) := by decide +kernel
theorem dX4_knows_84 : decode cX4_knows 84 = .ok (.getfield 22, 3) := by decide +kernel
theorem dX4_knows_87 : decode cX4_knows 87 = .ok (.iload_n 3, 1) := by decide +kernel
theorem dX4_knows_88 : decode cX4_knows 88 = .ok (.iload 4, 2) := by decide +kernel
theorem dX4_knows_90 : decode cX4_knows 90 = .ok (.iload 5, 2) := by decide +kernel
theorem dX4_knows_92 : decode cX4_knows 92 = .ok (.iload 6, 2) := by decide +kernel
theorem dX4_knows_94 : decode cX4_knows 94 = .ok (.invokevirtual 125, 3) := by decide +kernel
theorem dX4_knows_97 : decode cX4_knows 97 = .ok (.ifCond .eq 19, 3) := by decide +kernel
theorem dX4_knows_100 : decode cX4_knows 100 = .ok (.aload_n 2, 1) := by decide +kernel
theorem dX4_knows_101 : decode cX4_knows 101 = .ok (.aload_n 0, 1) := by decide +kernel
theorem dX4_knows_102 : decode cX4_knows 102 = .ok (.getfield 22, 3) := by decide +kernel
theorem dX4_knows_105 : decode cX4_knows 105 = .ok (.iload_n 3, 1) := by decide +kernel
theorem dX4_knows_106 : decode cX4_knows 106 = .ok (.invokevirtual 99, 3) := by decide +kernel
theorem dX4_knows_109 : decode cX4_knows 109 = .ok (.ifCond .eq 7, 3) := by decide +kernel
theorem dX4_knows_112 : decode cX4_knows 112 = .ok (.iconst 1, 1) := by decide +kernel
theorem dX4_knows_113 : decode cX4_knows 113 = .ok (.goto 4, 3) := by decide +kernel
theorem dX4_knows_116 : decode cX4_knows 116 = .ok (.iconst 0, 1) := by decide +kernel
theorem dX4_knows_117 : decode cX4_knows 117 = .ok (.ireturn, 1) := by decide +kernel
noncomputable def g_T_knows_100 (x3 : Int32) (σ : am_St) : Option (Int32 × am_St) :=
  (f_W_someFor_37 x3 σ).bind (fun p1 =>
    if p1.1 = 0 then
      some ((0, p1.2))
    else
      some ((1, p1.2)))
noncomputable def f_T_knows_100 (x3 : Int32) (σ : am_St) : Option (Int32 × am_St) := am_lk (g_T_knows_100 x3 σ)
theorem eq_T_knows_100 (x3 : Int32) (σ : am_St) : f_T_knows_100 x3 σ = g_T_knows_100 x3 σ := am_lk_eq _
set_option maxRecDepth 100000 in
set_option maxHeartbeats 4000000 in
theorem s_T_knows_100 (G : am_G) (x3 : Int32) (σ : am_St) (r : Int32 × am_St) (Q : am_AQ) (e : f_T_knows_100 x3 σ = some r) (hr : am_Pi r Q) : am_AW G M_T_knows 100 [(3, .int x3), (2, .ref 54), (0, .ref 35)] [] σ Q :=
  (show am_Snd G M_T_knows 100 am_Pi _ from (sn_aload_n (pc := 100) (i := 2) dX4_knows_100 rfl (sn_aload_n (pc := 101) (i := 0) dX4_knows_101 rfl (sn_gR (r0 := 37) (pc := 102) (h := 35) (f := 2) dX4_knows_102 am_CL_4 sh_35 rfl (Nat.le_of_ble_eq_true rfl) tw_162 (sn_iload_n (pc := 105) (i := 3) dX4_knows_105 rfl (sn_callV (pc := 106) (N := M_W_someFor) dX4_knows_106 (cal_W_someFor_37 G) sh_54 rfl tw_332 tw_333 tw_334 tw_10 tw_335 dsc_X10_someFor rfl (sn_if_eq (pc := 109) (tgt := 116) dX4_knows_109 rfl (sn_iconst (pc := 116) (v := 0) dX4_knows_116 rfl (sn_retz (pc := 117) (R := fun x τ => (some ((x, τ)))) dX4_knows_117 rfl (fun _ _ _ _ e h => by cases e; exact h))) (sn_iconst (pc := 112) (v := 1) dX4_knows_112 rfl (sn_goto (pc := 113) (tgt := 117) dX4_knows_113 rfl (sn_retz (pc := 117) (R := fun x τ => (some ((x, τ)))) dX4_knows_117 rfl (fun _ _ _ _ e h => by cases e; exact h))))))))))) _ _ _ _ _ ((eq_T_knows_100 x3 σ).symm.trans e) hr
noncomputable def g_T_knows_71 (x3 : Int32) (x4 : Int32) (x5 : Int32) (x6 : Int32) (σ : am_St) : Option (Int32 × am_St) :=
  (f_H_hasRoom_37 x5 σ).bind (fun p1 =>
    if p1.1 = 0 then
      some ((0, p1.2))
    else
      (f_H_addFact_37 x3 x4 x5 x6 p1.2).bind (fun p2 =>
        if p2.1 = 0 then
          some ((0, p2.2))
        else
          f_T_knows_100 x3 p2.2))
noncomputable def f_T_knows_71 (x3 : Int32) (x4 : Int32) (x5 : Int32) (x6 : Int32) (σ : am_St) : Option (Int32 × am_St) := am_lk (g_T_knows_71 x3 x4 x5 x6 σ)
theorem eq_T_knows_71 (x3 : Int32) (x4 : Int32) (x5 : Int32) (x6 : Int32) (σ : am_St) : f_T_knows_71 x3 x4 x5 x6 σ = g_T_knows_71 x3 x4 x5 x6 σ := am_lk_eq _
set_option maxRecDepth 100000 in
set_option maxHeartbeats 4000000 in
theorem s_T_knows_71 (G : am_G) (x3 : Int32) (x4 : Int32) (x5 : Int32) (x6 : Int32) (σ : am_St) (r : Int32 × am_St) (Q : am_AQ) (e : f_T_knows_71 x3 x4 x5 x6 σ = some r) (hr : am_Pi r Q) : am_AW G M_T_knows 71 [(6, .int x6), (5, .int x5), (4, .int x4), (3, .int x3), (2, .ref 54), (0, .ref 35)] [] σ Q :=
  (show am_Snd G M_T_knows 71 am_Pi _ from (sn_aload_n (pc := 71) (i := 0) dX4_knows_71 rfl (sn_gR (r0 := 37) (pc := 72) (h := 35) (f := 2) dX4_knows_72 am_CL_4 sh_35 rfl (Nat.le_of_ble_eq_true rfl) tw_162 (sn_iload (pc := 75) dX4_knows_75 (sn_callV (pc := 77) (N := M_H_hasRoom) dX4_knows_77 (cal_H_hasRoom_37 G) sh_37 rfl tw_323 tw_324 tw_325 tw_2 tw_326 dsc_X3_hasRoom rfl (sn_if_eq (pc := 80) (tgt := 116) dX4_knows_80 rfl (sn_iconst (pc := 116) (v := 0) dX4_knows_116 rfl (sn_retz (pc := 117) (R := fun x τ => (some ((x, τ)))) dX4_knows_117 rfl (fun _ _ _ _ e h => by cases e; exact h))) (sn_aload_n (pc := 83) (i := 0) dX4_knows_83 rfl (sn_gR (r0 := 37) (pc := 84) (h := 35) (f := 2) dX4_knows_84 am_CL_4 sh_35 rfl (Nat.le_of_ble_eq_true rfl) tw_162 (sn_iload_n (pc := 87) (i := 3) dX4_knows_87 rfl (sn_iload (pc := 88) dX4_knows_88 (sn_iload (pc := 90) dX4_knows_90 (sn_iload (pc := 92) dX4_knows_92 (sn_callV (pc := 94) (N := M_H_addFact) dX4_knows_94 (cal_H_addFact_37 G) sh_37 rfl tw_414 tw_415 tw_416 tw_2 tw_417 dsc_X3_addFact rfl (sn_if_eq (pc := 97) (tgt := 116) dX4_knows_97 rfl (sn_iconst (pc := 116) (v := 0) dX4_knows_116 rfl (sn_retz (pc := 117) (R := fun x τ => (some ((x, τ)))) dX4_knows_117 rfl (fun _ _ _ _ e h => by cases e; exact h))) (sn_lf (pc := 100) (ln_a (i := 0) (q := 35) (ln_a (i := 2) (q := 54) (ln_i (i := 3) (fun z0 => (ln_end (o := fun τ => f_T_knows_100 z0 τ) (fun _ _ _ e h => s_T_knows_100 G z0 _ _ _ e h))))))))))))))))))))) _ _ _ _ _ ((eq_T_knows_71 x3 x4 x5 x6 σ).symm.trans e) hr
noncomputable def g_T_knows_43 (x3 : Int32) (x4 : Int32) (x5 : Int32) (y0 : Int32) (σ : am_St) : Option (Int32 × am_St) :=
  (f_X_bit y0 σ).bind (fun p1 =>
    (f_H_hasChild_37 x3 p1.2).bind (fun p2 =>
      if p2.1 = 0 then
        some ((0, p2.2))
      else
        (f_H_hasMinute_37 x4 p2.2).bind (fun p3 =>
          if p3.1 = 0 then
            some ((0, p3.2))
          else
            f_T_knows_71 x3 x4 x5 p1.1 p3.2)))
noncomputable def f_T_knows_43 (x3 : Int32) (x4 : Int32) (x5 : Int32) (y0 : Int32) (σ : am_St) : Option (Int32 × am_St) := am_lk (g_T_knows_43 x3 x4 x5 y0 σ)
theorem eq_T_knows_43 (x3 : Int32) (x4 : Int32) (x5 : Int32) (y0 : Int32) (σ : am_St) : f_T_knows_43 x3 x4 x5 y0 σ = g_T_knows_43 x3 x4 x5 y0 σ := am_lk_eq _
set_option maxRecDepth 100000 in
set_option maxHeartbeats 4000000 in
theorem s_T_knows_43 (G : am_G) (x3 : Int32) (x4 : Int32) (x5 : Int32) (y0 : Int32) (σ : am_St) (r : Int32 × am_St) (Q : am_AQ) (e : f_T_knows_43 x3 x4 x5 y0 σ = some r) (hr : am_Pi r Q) : am_AW G M_T_knows 43 [(5, .int x5), (4, .int x4), (3, .int x3), (2, .ref 54), (0, .ref 35)] [.int y0] σ Q :=
  (show am_Snd G M_T_knows 43 am_Pi _ from (sn_callSN (pc := 43) (N := M_X_bit) (host := "ItWasLikeThat") dX4_knows_43 (cal_X_bit G) (by decide) tw_412 tw_1 tw_413 dsc_X11_bit rfl (sn_istore (pc := 46) dX4_knows_46 (Nat.le_of_ble_eq_true rfl) (sn_aload_n (pc := 48) (i := 0) dX4_knows_48 rfl (sn_gR (r0 := 37) (pc := 49) (h := 35) (f := 2) dX4_knows_49 am_CL_4 sh_35 rfl (Nat.le_of_ble_eq_true rfl) tw_162 (sn_iload_n (pc := 52) (i := 3) dX4_knows_52 rfl (sn_callV (pc := 53) (N := M_H_hasChild) dX4_knows_53 (cal_H_hasChild_37 G) sh_37 rfl tw_384 tw_385 tw_386 tw_2 tw_387 dsc_X3_hasChild rfl (sn_if_eq (pc := 56) (tgt := 116) dX4_knows_56 rfl (sn_iconst (pc := 116) (v := 0) dX4_knows_116 rfl (sn_retz (pc := 117) (R := fun x τ => (some ((x, τ)))) dX4_knows_117 rfl (fun _ _ _ _ e h => by cases e; exact h))) (sn_aload_n (pc := 59) (i := 0) dX4_knows_59 rfl (sn_gR (r0 := 37) (pc := 60) (h := 35) (f := 2) dX4_knows_60 am_CL_4 sh_35 rfl (Nat.le_of_ble_eq_true rfl) tw_162 (sn_iload (pc := 63) dX4_knows_63 (sn_callV (pc := 65) (N := M_H_hasMinute) dX4_knows_65 (cal_H_hasMinute_37 G) sh_37 rfl tw_405 tw_398 tw_399 tw_2 tw_400 dsc_X3_hasMinute rfl (sn_if_eq (pc := 68) (tgt := 116) dX4_knows_68 rfl (sn_iconst (pc := 116) (v := 0) dX4_knows_116 rfl (sn_retz (pc := 117) (R := fun x τ => (some ((x, τ)))) dX4_knows_117 rfl (fun _ _ _ _ e h => by cases e; exact h))) (sn_lf (pc := 71) (ln_a (i := 0) (q := 35) (ln_a (i := 2) (q := 54) (ln_i (i := 3) (fun z0 => (ln_i (i := 4) (fun z1 => (ln_i (i := 5) (fun z2 => (ln_i (i := 6) (fun z3 => (ln_end (o := fun τ => f_T_knows_71 z0 z1 z2 z3 τ) (fun _ _ _ e h => s_T_knows_71 G z0 z1 z2 z3 _ _ _ e h)))))))))))))))))))))))))) _ _ _ _ _ ((eq_T_knows_43 x3 x4 x5 y0 σ).symm.trans e) hr
noncomputable def g_T_knows_38 (x3 : Int32) (x4 : Int32) (x5 : Int32) (σ : am_St) : Option (Int32 × am_St) :=
  f_T_knows_43 x3 x4 x5 1 σ
noncomputable def f_T_knows_38 (x3 : Int32) (x4 : Int32) (x5 : Int32) (σ : am_St) : Option (Int32 × am_St) := am_lk (g_T_knows_38 x3 x4 x5 σ)
theorem eq_T_knows_38 (x3 : Int32) (x4 : Int32) (x5 : Int32) (σ : am_St) : f_T_knows_38 x3 x4 x5 σ = g_T_knows_38 x3 x4 x5 σ := am_lk_eq _
set_option maxRecDepth 100000 in
set_option maxHeartbeats 4000000 in
theorem s_T_knows_38 (G : am_G) (x3 : Int32) (x4 : Int32) (x5 : Int32) (σ : am_St) (r : Int32 × am_St) (Q : am_AQ) (e : f_T_knows_38 x3 x4 x5 σ = some r) (hr : am_Pi r Q) : am_AW G M_T_knows 38 [(5, .int x5), (4, .int x4), (3, .int x3), (2, .ref 54), (0, .ref 35)] [] σ Q :=
  (show am_Snd G M_T_knows 38 am_Pi _ from (sn_iconst (pc := 38) (v := 1) dX4_knows_38 rfl (sn_goto (pc := 39) (tgt := 43) dX4_knows_39 rfl (sn_lf (pc := 43) (ln_a (i := 0) (q := 35) (ln_a (i := 2) (q := 54) (ln_i (i := 3) (fun z0 => (ln_i (i := 4) (fun z1 => (ln_i (i := 5) (fun z2 => (ln_si (fun w0 => (ln_end (o := fun τ => f_T_knows_43 z0 z1 z2 w0 τ) (fun _ _ _ e h => s_T_knows_43 G z0 z1 z2 w0 _ _ _ e h)))))))))))))))) _ _ _ _ _ ((eq_T_knows_38 x3 x4 x5 σ).symm.trans e) hr
noncomputable def g_T_knows_42 (x3 : Int32) (x4 : Int32) (x5 : Int32) (σ : am_St) : Option (Int32 × am_St) :=
  f_T_knows_43 x3 x4 x5 0 σ
noncomputable def f_T_knows_42 (x3 : Int32) (x4 : Int32) (x5 : Int32) (σ : am_St) : Option (Int32 × am_St) := am_lk (g_T_knows_42 x3 x4 x5 σ)
theorem eq_T_knows_42 (x3 : Int32) (x4 : Int32) (x5 : Int32) (σ : am_St) : f_T_knows_42 x3 x4 x5 σ = g_T_knows_42 x3 x4 x5 σ := am_lk_eq _
set_option maxRecDepth 100000 in
set_option maxHeartbeats 4000000 in
theorem s_T_knows_42 (G : am_G) (x3 : Int32) (x4 : Int32) (x5 : Int32) (σ : am_St) (r : Int32 × am_St) (Q : am_AQ) (e : f_T_knows_42 x3 x4 x5 σ = some r) (hr : am_Pi r Q) : am_AW G M_T_knows 42 [(5, .int x5), (4, .int x4), (3, .int x3), (2, .ref 54), (0, .ref 35)] [] σ Q :=
  (show am_Snd G M_T_knows 42 am_Pi _ from (sn_iconst (pc := 42) (v := 0) dX4_knows_42 rfl (sn_lf (pc := 43) (ln_a (i := 0) (q := 35) (ln_a (i := 2) (q := 54) (ln_i (i := 3) (fun z0 => (ln_i (i := 4) (fun z1 => (ln_i (i := 5) (fun z2 => (ln_si (fun w0 => (ln_end (o := fun τ => f_T_knows_43 z0 z1 z2 w0 τ) (fun _ _ _ e h => s_T_knows_43 G z0 z1 z2 w0 _ _ _ e h))))))))))))))) _ _ _ _ _ ((eq_T_knows_42 x3 x4 x5 σ).symm.trans e) hr
noncomputable def g_T_knows_17 (x1 : Int32) (x3 : Int32) (x4 : Int32) (σ : am_St) : Option (Int32 × am_St) :=
  (f_T_digitAt (x1 + 3) σ).bind (fun p1 =>
    (f_T_letterAt (x1 + 4) p1.2).bind (fun p2 =>
      if p2.1 = 43 then
        f_T_knows_38 x3 x4 p1.1 p2.2
      else
        f_T_knows_42 x3 x4 p1.1 p2.2))
noncomputable def f_T_knows_17 (x1 : Int32) (x3 : Int32) (x4 : Int32) (σ : am_St) : Option (Int32 × am_St) := am_lk (g_T_knows_17 x1 x3 x4 σ)
theorem eq_T_knows_17 (x1 : Int32) (x3 : Int32) (x4 : Int32) (σ : am_St) : f_T_knows_17 x1 x3 x4 σ = g_T_knows_17 x1 x3 x4 σ := am_lk_eq _
set_option maxRecDepth 100000 in
set_option maxHeartbeats 4000000 in
theorem s_T_knows_17 (G : am_G) (x1 : Int32) (x3 : Int32) (x4 : Int32) (σ : am_St) (r : Int32 × am_St) (Q : am_AQ) (e : f_T_knows_17 x1 x3 x4 σ = some r) (hr : am_Pi r Q) : am_AW G M_T_knows 17 [(4, .int x4), (3, .int x3), (2, .ref 54), (1, .int x1), (0, .ref 35)] [] σ Q :=
  (show am_Snd G M_T_knows 17 am_Pi _ from (sn_aload_n (pc := 17) (i := 0) dX4_knows_17 rfl (sn_iload_n (pc := 18) (i := 1) dX4_knows_18 rfl (sn_iconst (pc := 19) (v := 3) dX4_knows_19 rfl (sn_iadd (pc := 20) dX4_knows_20 (sn_callV (pc := 21) (N := M_T_digitAt) dX4_knows_21 (cal_T_digitAt G) sh_35 rfl tw_289 tw_291 tp_4 tw_9 tw_292 dsc_X4_digitAt rfl (sn_istore (pc := 24) dX4_knows_24 (Nat.le_of_ble_eq_true rfl) (sn_aload_n (pc := 26) (i := 0) dX4_knows_26 rfl (sn_iload_n (pc := 27) (i := 1) dX4_knows_27 rfl (sn_iconst (pc := 28) (v := 4) dX4_knows_28 rfl (sn_iadd (pc := 29) dX4_knows_29 (sn_callV (pc := 30) (N := M_T_letterAt) dX4_knows_30 (cal_T_letterAt G) sh_35 rfl tw_275 tw_277 tp_2 tw_9 tw_278 dsc_X4_letterAt rfl (sn_bipush (pc := 33) (v := 43) dX4_knows_33 rfl (sn_icmp_ne (pc := 35) (tgt := 42) dX4_knows_35 rfl (sn_lf (pc := 42) (ln_a (i := 0) (q := 35) (ln_a (i := 2) (q := 54) (ln_i (i := 3) (fun z0 => (ln_i (i := 4) (fun z1 => (ln_i (i := 5) (fun z2 => (ln_end (o := fun τ => f_T_knows_42 z0 z1 z2 τ) (fun _ _ _ e h => s_T_knows_42 G z0 z1 z2 _ _ _ e h))))))))))) (sn_lf (pc := 38) (ln_a (i := 0) (q := 35) (ln_a (i := 2) (q := 54) (ln_i (i := 3) (fun z0 => (ln_i (i := 4) (fun z1 => (ln_i (i := 5) (fun z2 => (ln_end (o := fun τ => f_T_knows_38 z0 z1 z2 τ) (fun _ _ _ e h => s_T_knows_38 G z0 z1 z2 _ _ _ e h))))))))))))))))))))))))) _ _ _ _ _ ((eq_T_knows_17 x1 x3 x4 σ).symm.trans e) hr
noncomputable def g_T_knows (x1 : Int32) (σ : am_St) : Option (Int32 × am_St) :=
  (f_T_digitAt (x1 + 1) σ).bind (fun p1 =>
    (f_T_digitAt (x1 + 2) p1.2).bind (fun p2 =>
      f_T_knows_17 x1 p1.1 p2.1 p2.2))
noncomputable def f_T_knows (x1 : Int32) (σ : am_St) : Option (Int32 × am_St) := am_lk (g_T_knows x1 σ)
theorem eq_T_knows (x1 : Int32) (σ : am_St) : f_T_knows x1 σ = g_T_knows x1 σ := am_lk_eq _
set_option maxRecDepth 100000 in
set_option maxHeartbeats 4000000 in
theorem s_T_knows (G : am_G) (x1 : Int32) (σ : am_St) (r : Int32 × am_St) (Q : am_AQ) (e : f_T_knows x1 σ = some r) (hr : am_Pi r Q) : am_AW G M_T_knows 0 [(0, .ref 35), (1, .int x1), (2, .ref 54)] [] σ Q :=
  (show am_Snd G M_T_knows 0 am_Pi _ from (sn_aload_n (pc := 0) (i := 0) dX4_knows_0 rfl (sn_iload_n (pc := 1) (i := 1) dX4_knows_1 rfl (sn_iconst (pc := 2) (v := 1) dX4_knows_2 rfl (sn_iadd (pc := 3) dX4_knows_3 (sn_callV (pc := 4) (N := M_T_digitAt) dX4_knows_4 (cal_T_digitAt G) sh_35 rfl tw_289 tw_291 tp_4 tw_9 tw_292 dsc_X4_digitAt rfl (sn_istore_n (pc := 7) (i := 3) dX4_knows_7 rfl (Nat.le_of_ble_eq_true rfl) (sn_aload_n (pc := 8) (i := 0) dX4_knows_8 rfl (sn_iload_n (pc := 9) (i := 1) dX4_knows_9 rfl (sn_iconst (pc := 10) (v := 2) dX4_knows_10 rfl (sn_iadd (pc := 11) dX4_knows_11 (sn_callV (pc := 12) (N := M_T_digitAt) dX4_knows_12 (cal_T_digitAt G) sh_35 rfl tw_289 tw_291 tp_4 tw_9 tw_292 dsc_X4_digitAt rfl (sn_istore (pc := 15) dX4_knows_15 (Nat.le_of_ble_eq_true rfl) (sn_lf (pc := 17) (ln_a (i := 0) (q := 35) (ln_i (i := 1) (fun z0 => (ln_a (i := 2) (q := 54) (ln_i (i := 3) (fun z1 => (ln_i (i := 4) (fun z2 => (ln_end (o := fun τ => f_T_knows_17 z0 z1 z2 τ) (fun _ _ _ e h => s_T_knows_17 G z0 z1 z2 _ _ _ e h)))))))))))))))))))))))) _ _ _ _ _ ((eq_T_knows x1 σ).symm.trans e) hr
noncomputable def cF_T_knows : am_Fn := fun _ args σ K => match args with
  | [.ref q0, .int z1, .ref q2] => match Nat.beq q0 35, Nat.beq q2 54 with
    | true, true => (f_T_knows z1 σ).bind (fun p => K (some (.int p.1)) p.2)
    | _, _ => none
  | _ => none
theorem cal_T_knows (G : am_G) : am_Cal G M_T_knows cF_T_knows := by
  intro ρ args σ K r e
  unfold cF_T_knows at e
  split at e
  · split at e
    · rename_i hq0 hq2
      obtain ⟨p, h1, h2⟩ := am_bind_some e
      rw [Nat.eq_of_beq_eq_true hq0]
      rw [Nat.eq_of_beq_eq_true hq2]
      exact ⟨some (.int p.1), p.2, am_Met.of rfl (Nat.le_of_ble_eq_true rfl) (s_T_knows G _ σ p _ h1 ⟨rfl, rfl⟩), h2⟩
    · cases e
  · cases e
abbrev M_H_build : am_MD := (yX3_build, cX3_build, 4, none, 1, 22)
theorem dX3_build_0 : decode cX3_build 0 = .ok (.aload_n 0, 1) := by decide +kernel
theorem dX3_build_1 : decode cX3_build 1 = .ok (.iload_n 1, 1) := by decide +kernel
theorem dX3_build_2 : decode cX3_build 2 = .ok (.putfield 9, 3) := by decide +kernel
theorem dX3_build_5 : decode cX3_build 5 = .ok (.aload_n 0, 1) := by decide +kernel
theorem dX3_build_6 : decode cX3_build 6 = .ok (.iload_n 2, 1) := by decide +kernel
theorem dX3_build_7 : decode cX3_build 7 = .ok (.putfield 15, 3) := by decide +kernel
theorem dX3_build_10 : decode cX3_build 10 = .ok (.aload_n 0, 1) := by decide +kernel
theorem dX3_build_11 : decode cX3_build 11 = .ok (.iconst 0, 1) := by decide +kernel
theorem dX3_build_12 : decode cX3_build 12 = .ok (.putfield 68, 3) := by decide +kernel
theorem dX3_build_15 : decode cX3_build 15 = .ok (.aload_n 0, 1) := by decide +kernel
theorem dX3_build_16 : decode cX3_build 16 = .ok (.iconst 0, 1) := by decide +kernel
theorem dX3_build_17 : decode cX3_build 17 = .ok (.putfield 77, 3) := by decide +kernel
theorem dX3_build_20 : decode cX3_build 20 = .ok (.aload_n 0, 1) := by decide +kernel
theorem dX3_build_21 : decode cX3_build 21 = .ok (.iconst 0, 1) := by decide +kernel
theorem dX3_build_22 : decode cX3_build 22 = .ok (.iconst 0, 1) := by decide +kernel
theorem dX3_build_23 : decode cX3_build 23 = .ok (.invokevirtual 89, 3) := by decide +kernel
theorem dX3_build_26 : decode cX3_build 26 = .ok (.iconst 0, 1) := by decide +kernel
theorem dX3_build_27 : decode cX3_build 27 = .ok (.istore_n 3, 1) := by decide +kernel
theorem dX3_build_28 : decode cX3_build 28 = .ok (.iload_n 3, 1) := by decide +kernel
theorem dX3_build_29 : decode cX3_build 29 = .ok (.iconst 4, 1) := by decide +kernel
theorem dX3_build_30 : decode cX3_build 30 = .ok (.if_icmp .ge 16, 3) := by decide +kernel
theorem dX3_build_33 : decode cX3_build 33 = .ok (.aload_n 0, 1) := by decide +kernel
theorem dX3_build_34 : decode cX3_build 34 = .ok (.getfield 18, 3) := by decide +kernel
theorem dX3_build_37 : decode cX3_build 37 = .ok (.iload_n 3, 1) := by decide +kernel
theorem dX3_build_38 : decode cX3_build 38 = .ok (.iconst 0, 1) := by decide +kernel
theorem dX3_build_39 : decode cX3_build 39 = .ok (.iastore, 1) := by decide +kernel
theorem dX3_build_40 : decode cX3_build 40 = .ok (.iinc 3 1, 3) := by decide +kernel
theorem dX3_build_43 : decode cX3_build 43 = .ok (.goto (-15), 3) := by decide +kernel
theorem dX3_build_46 : decode cX3_build 46 = .ok (.return_, 1) := by decide +kernel
abbrev Pl_H_build_37_28 (G : am_G) : ((Int32 × am_St) ⊕ (am_St)) → am_AQ → Prop := am_PL G M_H_build 28 (fun s : Int32 × am_St => [(3, .int s.1), (0, .ref 37)]) (fun s => s.2) am_Pv
noncomputable def b_H_build_37_28 (x3 : Int32) (σ : am_St) : Option ((Int32 × am_St) ⊕ (am_St)) :=
  if 4 ≤ x3 then
    some (.inr (σ))
  else
    if am_ix x3 4 = true then
      let s1 := am_sI σ 38 x3.toNatClampNeg 0
      let v2 := x3 + 1
      some (.inl (v2, s1))
    else none
noncomputable def f_H_build_37_28 (x3 : Int32) (σ : am_St) : Option (am_St) := am_lp (fun s : Int32 × am_St => b_H_build_37_28 s.1 s.2) (x3, σ)
set_option maxRecDepth 100000 in
set_option maxHeartbeats 4000000 in
theorem sb_H_build_37_28 (G : am_G) (x3 : Int32) (σ : am_St) (r : (Int32 × am_St) ⊕ (am_St)) (Q : am_AQ) (e : b_H_build_37_28 x3 σ = some r) (hr : Pl_H_build_37_28 G r Q) : am_AW G M_H_build 28 [(3, .int x3), (0, .ref 37)] [] σ Q :=
  (show am_Snd G M_H_build 28 (Pl_H_build_37_28 G) _ from (sn_iload_n (pc := 28) (i := 3) dX3_build_28 rfl (sn_iconst (pc := 29) (v := 4) dX3_build_29 rfl (sn_icmp_ge (pc := 30) (tgt := 46) dX3_build_30 rfl (sn_retv (pc := 46) (R := fun τ => (some (.inr (τ)) : Option ((Int32 × am_St) ⊕ (am_St)))) dX3_build_46 rfl (fun _ _ _ e h => by cases e; exact h)) (sn_aload_n (pc := 33) (i := 0) dX3_build_33 rfl (sn_gR (r0 := 38) (pc := 34) (h := 37) (f := 7) dX3_build_34 am_CL_3 sh_37 rfl (Nat.le_of_ble_eq_true rfl) tw_107 (sn_iload_n (pc := 37) (i := 3) dX3_build_37 rfl (sn_iconst (pc := 38) (v := 0) dX3_build_38 rfl (sn_sI (pc := 39) (h := 38) dX3_build_39 sh_38 (sn_iinc (pc := 40) (v := 1) dX3_build_40 rfl (Nat.le_of_ble_eq_true rfl) (sn_goto (pc := 43) (tgt := 28) dX3_build_43 rfl (sn_lf (pc := 28) (ln_a (i := 0) (q := 37) (ln_i (i := 3) (fun z0 => (ln_end (o := fun τ => (some (.inl (z0, τ)) : Option ((Int32 × am_St) ⊕ (am_St)))) (fun _ _ _ e h => by cases e; exact h))))))))))))))))) _ _ _ _ _ e hr
theorem s_H_build_37_28 (G : am_G) (x3 : Int32) (σ : am_St) (r : am_St) (Q : am_AQ) (e : f_H_build_37_28 x3 σ = some r) (hr : am_Pv r Q) : am_AW G M_H_build 28 [(3, .int x3), (0, .ref 37)] [] σ Q :=
  am_loop (P := am_Pv) (L := fun s : Int32 × am_St => [(3, .int s.1), (0, .ref 37)]) (g := fun s => s.2) (fun s o Q e hr => sb_H_build_37_28 G s.1 s.2 o Q e hr) (x3, σ) r Q e hr
noncomputable def g_H_build_37_26 (σ : am_St) : Option (am_St) :=
  f_H_build_37_28 0 σ
noncomputable def f_H_build_37_26 (σ : am_St) : Option (am_St) := am_lk (g_H_build_37_26  σ)
theorem eq_H_build_37_26 (σ : am_St) : f_H_build_37_26  σ = g_H_build_37_26  σ := am_lk_eq _
set_option maxRecDepth 100000 in
set_option maxHeartbeats 4000000 in
theorem s_H_build_37_26 (G : am_G) (σ : am_St) (r : am_St) (Q : am_AQ) (e : f_H_build_37_26  σ = some r) (hr : am_Pv r Q) : am_AW G M_H_build 26 [(0, .ref 37)] [] σ Q :=
  (show am_Snd G M_H_build 26 am_Pv _ from (sn_iconst (pc := 26) (v := 0) dX3_build_26 rfl (sn_istore_n (pc := 27) (i := 3) dX3_build_27 rfl (Nat.le_of_ble_eq_true rfl) (sn_lf (pc := 28) (ln_a (i := 0) (q := 37) (ln_i (i := 3) (fun z0 => (ln_end (o := fun τ => f_H_build_37_28 z0 τ) (fun _ _ _ e h => s_H_build_37_28 G z0 _ _ _ e h))))))))) _ _ _ _ _ ((eq_H_build_37_26  σ).symm.trans e) hr
noncomputable def g_H_build_37 (x1 : Int32) (x2 : Int32) (σ : am_St) : Option (am_St) :=
  let s1 := am_sI σ 37 0 x1
  let s2 := am_sI s1 37 1 x2
  let s3 := am_sI s2 37 2 0
  let s4 := am_sI s3 37 5 0
  (f_H_putDeed_37 0 0 s4).bind (fun p5 =>
    f_H_build_37_26 p5)
noncomputable def f_H_build_37 (x1 : Int32) (x2 : Int32) (σ : am_St) : Option (am_St) := am_lk (g_H_build_37 x1 x2 σ)
theorem eq_H_build_37 (x1 : Int32) (x2 : Int32) (σ : am_St) : f_H_build_37 x1 x2 σ = g_H_build_37 x1 x2 σ := am_lk_eq _
set_option maxRecDepth 100000 in
set_option maxHeartbeats 4000000 in
theorem s_H_build_37 (G : am_G) (x1 : Int32) (x2 : Int32) (σ : am_St) (r : am_St) (Q : am_AQ) (e : f_H_build_37 x1 x2 σ = some r) (hr : am_Pv r Q) : am_AW G M_H_build 0 [(0, .ref 37), (1, .int x1), (2, .int x2)] [] σ Q :=
  (show am_Snd G M_H_build 0 am_Pv _ from (sn_aload_n (pc := 0) (i := 0) dX3_build_0 rfl (sn_iload_n (pc := 1) (i := 1) dX3_build_1 rfl (sn_pI (pc := 2) (h := 37) (f := 0) dX3_build_2 am_CL_3 sh_37 rfl (Nat.le_of_ble_eq_true rfl) tw_75 rfl rfl (sn_aload_n (pc := 5) (i := 0) dX3_build_5 rfl (sn_iload_n (pc := 6) (i := 2) dX3_build_6 rfl (sn_pI (pc := 7) (h := 37) (f := 1) dX3_build_7 am_CL_3 sh_37 rfl (Nat.le_of_ble_eq_true rfl) tw_78 rfl rfl (sn_aload_n (pc := 10) (i := 0) dX3_build_10 rfl (sn_iconst (pc := 11) (v := 0) dX3_build_11 rfl (sn_pI (pc := 12) (h := 37) (f := 2) dX3_build_12 am_CL_3 sh_37 rfl (Nat.le_of_ble_eq_true rfl) tw_83 rfl rfl (sn_aload_n (pc := 15) (i := 0) dX3_build_15 rfl (sn_iconst (pc := 16) (v := 0) dX3_build_16 rfl (sn_pI (pc := 17) (h := 37) (f := 5) dX3_build_17 am_CL_3 sh_37 rfl (Nat.le_of_ble_eq_true rfl) tw_100 rfl rfl (sn_aload_n (pc := 20) (i := 0) dX3_build_20 rfl (sn_iconst (pc := 21) (v := 0) dX3_build_21 rfl (sn_iconst (pc := 22) (v := 0) dX3_build_22 rfl (sn_callV (pc := 23) (N := M_H_putDeed) dX3_build_23 (cal_H_putDeed_37 G) sh_37 rfl tw_315 tw_316 tw_317 tw_2 tw_318 dsc_X3_putDeed rfl (sn_lf (pc := 26) (ln_a (i := 0) (q := 37) (ln_end (o := fun τ => f_H_build_37_26 τ) (fun _ _ _ e h => s_H_build_37_26 G  _ _ _ e h))))))))))))))))))))) _ _ _ _ _ ((eq_H_build_37 x1 x2 σ).symm.trans e) hr
noncomputable def cF_H_build_37 : am_Fn := fun _ args σ K => match args with
  | [.ref q0, .int z1, .int z2] => match Nat.beq q0 37 with
    | true => (f_H_build_37 z1 z2 σ).bind (fun p => K none p)
    | _ => none
  | _ => none
theorem cal_H_build_37 (G : am_G) : am_Cal G M_H_build cF_H_build_37 := by
  intro ρ args σ K r e
  unfold cF_H_build_37 at e
  split at e
  · split at e
    · rename_i hq0
      obtain ⟨p, h1, h2⟩ := am_bind_some e
      rw [Nat.eq_of_beq_eq_true hq0]
      exact ⟨none, p, am_Met.of rfl (Nat.le_of_ble_eq_true rfl) (s_H_build_37 G _ _ σ p _ h1 ⟨rfl, rfl⟩), h2⟩
    · cases e
  · cases e
abbrev M_T_builds : am_MD := (yX4_builds, cX4_builds, 3, (some .boolean), 2, 45)
theorem dX4_builds_0 : decode cX4_builds 0 = .ok (.iload_n 1, 1) := by decide +kernel
theorem dX4_builds_1 : decode cX4_builds 1 = .ok (.iload_n 2, 1) := by decide +kernel
theorem dX4_builds_2 : decode cX4_builds 2 = .ok (.invokestatic 61, 3) := by decide +kernel
theorem dX4_builds_5 : decode cX4_builds 5 = .ok (.ifCond .ne 5, 3) := by decide +kernel
theorem dX4_builds_8 : decode cX4_builds 8 = .ok (.iconst 0, 1) := by decide +kernel
theorem dX4_builds_9 : decode cX4_builds 9 = .ok (.ireturn, 1) := by decide +kernel
theorem dX4_builds_10 : decode cX4_builds 10 = .ok (.aload_n 0, 1) := by decide +kernel
theorem dX4_builds_11 : decode cX4_builds 11 = .ok (.getfield 22, 3) := by decide +kernel
theorem dX4_builds_14 : decode cX4_builds 14 = .ok (.iload_n 1, 1) := by decide +kernel
theorem dX4_builds_15 : decode cX4_builds 15 = .ok (.iload_n 2, 1) := by decide +kernel
theorem dX4_builds_16 : decode cX4_builds 16 = .ok (.invokevirtual 85, 3) := by decide +kernel
theorem dX4_builds_19 : decode cX4_builds 19 = .ok (.iconst 1, 1) := by decide +kernel
theorem dX4_builds_20 : decode cX4_builds 20 = .ok (.ireturn, 1) := by decide +kernel
noncomputable def g_T_builds (x1 : Int32) (x2 : Int32) (σ : am_St) : Option (Int32 × am_St) :=
  (f_H_canBuild x1 x2 σ).bind (fun p1 =>
    if p1.1 = 0 then
      some ((0, p1.2))
    else
      (f_H_build_37 x1 x2 p1.2).bind (fun p2 =>
        some ((1, p2))))
noncomputable def f_T_builds (x1 : Int32) (x2 : Int32) (σ : am_St) : Option (Int32 × am_St) := am_lk (g_T_builds x1 x2 σ)
theorem eq_T_builds (x1 : Int32) (x2 : Int32) (σ : am_St) : f_T_builds x1 x2 σ = g_T_builds x1 x2 σ := am_lk_eq _
set_option maxRecDepth 100000 in
set_option maxHeartbeats 4000000 in
theorem s_T_builds (G : am_G) (x1 : Int32) (x2 : Int32) (σ : am_St) (r : Int32 × am_St) (Q : am_AQ) (e : f_T_builds x1 x2 σ = some r) (hr : am_Pi r Q) : am_AW G M_T_builds 0 [(0, .ref 35), (1, .int x1), (2, .int x2)] [] σ Q :=
  (show am_Snd G M_T_builds 0 am_Pi _ from (sn_iload_n (pc := 0) (i := 1) dX4_builds_0 rfl (sn_iload_n (pc := 1) (i := 2) dX4_builds_1 rfl (sn_callS (pc := 2) (N := M_H_canBuild) dX4_builds_2 (cal_H_canBuild G) tw_293 tw_294 tw_2 tw_295 dsc_X3_canBuild rfl (sn_if_ne (pc := 5) (tgt := 10) dX4_builds_5 rfl (sn_aload_n (pc := 10) (i := 0) dX4_builds_10 rfl (sn_gR (r0 := 37) (pc := 11) (h := 35) (f := 2) dX4_builds_11 am_CL_4 sh_35 rfl (Nat.le_of_ble_eq_true rfl) tw_162 (sn_iload_n (pc := 14) (i := 1) dX4_builds_14 rfl (sn_iload_n (pc := 15) (i := 2) dX4_builds_15 rfl (sn_callV (pc := 16) (N := M_H_build) dX4_builds_16 (cal_H_build_37 G) sh_37 rfl tw_311 tw_312 tw_313 tw_2 tw_314 dsc_X3_build rfl (sn_iconst (pc := 19) (v := 1) dX4_builds_19 rfl (sn_retz (pc := 20) (R := fun x τ => (some ((x, τ)))) dX4_builds_20 rfl (fun _ _ _ _ e h => by cases e; exact h)))))))) (sn_iconst (pc := 8) (v := 0) dX4_builds_8 rfl (sn_retz (pc := 9) (R := fun x τ => (some ((x, τ)))) dX4_builds_9 rfl (fun _ _ _ _ e h => by cases e; exact h)))))))) _ _ _ _ _ ((eq_T_builds x1 x2 σ).symm.trans e) hr
noncomputable def cF_T_builds : am_Fn := fun _ args σ K => match args with
  | [.ref q0, .int z1, .int z2] => match Nat.beq q0 35 with
    | true => (f_T_builds z1 z2 σ).bind (fun p => K (some (.int p.1)) p.2)
    | _ => none
  | _ => none
theorem cal_T_builds (G : am_G) : am_Cal G M_T_builds cF_T_builds := by
  intro ρ args σ K r e
  unfold cF_T_builds at e
  split at e
  · split at e
    · rename_i hq0
      obtain ⟨p, h1, h2⟩ := am_bind_some e
      rw [Nat.eq_of_beq_eq_true hq0]
      exact ⟨some (.int p.1), p.2, am_Met.of rfl (Nat.le_of_ble_eq_true rfl) (s_T_builds G _ _ σ p _ h1 ⟨rfl, rfl⟩), h2⟩
    · cases e
  · cases e
abbrev M_H_isStep : am_MD := (yX3_isStep, cX3_isStep, 3, (some .boolean), 1, 21)
theorem dX3_isStep_0 : decode cX3_isStep 0 = .ok (.aload_n 0, 1) := by decide +kernel
theorem dX3_isStep_1 : decode cX3_isStep 1 = .ok (.iload_n 1, 1) := by decide +kernel
theorem dX3_isStep_2 : decode cX3_isStep 2 = .ok (.invokevirtual 93, 3) := by decide +kernel
theorem dX3_isStep_5 : decode cX3_isStep 5 = .ok (.ifCond .eq 34, 3) := by decide +kernel
theorem dX3_isStep_8 : decode cX3_isStep 8 = .ok (.aload_n 0, 1) := by decide +kernel
theorem dX3_isStep_9 : decode cX3_isStep 9 = .ok (.iload_n 2, 1) := by decide +kernel
theorem dX3_isStep_10 : decode cX3_isStep 10 = .ok (.invokevirtual 93, 3) := by decide +kernel
theorem dX3_isStep_13 : decode cX3_isStep 13 = .ok (.ifCond .eq 26, 3) := by decide +kernel
theorem dX3_isStep_16 : decode cX3_isStep 16 = .ok (.iload_n 1, 1) := by decide +kernel
theorem dX3_isStep_17 : decode cX3_isStep 17 = .ok (.iload_n 2, 1) := by decide +kernel
theorem dX3_isStep_18 : decode cX3_isStep 18 = .ok (.if_icmp .eq 17, 3) := by decide +kernel
theorem dX3_isStep_21 : decode cX3_isStep 21 = .ok (.aload_n 0, 1) := by decide +kernel
theorem dX3_isStep_22 : decode cX3_isStep 22 = .ok (.getfield 18, 3) := by decide +kernel
theorem dX3_isStep_25 : decode cX3_isStep 25 = .ok (.iload_n 1, 1) := by decide +kernel
theorem dX3_isStep_26 : decode cX3_isStep 26 = .ok (.iaload, 1) := by decide +kernel
theorem dX3_isStep_27 : decode cX3_isStep 27 = .ok (.iload_n 2, 1) := by decide +kernel
theorem dX3_isStep_28 : decode cX3_isStep 28 = .ok (.ishr, 1) := by decide +kernel
theorem dX3_isStep_29 : decode cX3_isStep 29 = .ok (.iconst 1, 1) := by decide +kernel
theorem dX3_isStep_30 : decode cX3_isStep 30 = .ok (.iand, 1) := by decide +kernel
theorem dX3_isStep_31 : decode cX3_isStep 31 = .ok (.iconst 1, 1) := by decide +kernel
theorem dX3_isStep_32 : decode cX3_isStep 32 = .ok (.if_icmp .ne 7, 3) := by decide +kernel
theorem dX3_isStep_35 : decode cX3_isStep 35 = .ok (.iconst 1, 1) := by decide +kernel
theorem dX3_isStep_36 : decode cX3_isStep 36 = .ok (.goto 4, 3) := by decide +kernel
theorem dX3_isStep_39 : decode cX3_isStep 39 = .ok (.iconst 0, 1) := by decide +kernel
theorem dX3_isStep_40 : decode cX3_isStep 40 = .ok (.ireturn, 1) := by decide +kernel
noncomputable def g_H_isStep_37 (x1 : Int32) (x2 : Int32) (σ : am_St) : Option (Int32 × am_St) :=
  (f_H_hasRoom_37 x1 σ).bind (fun p1 =>
    if p1.1 = 0 then
      some ((0, p1.2))
    else
      (f_H_hasRoom_37 x2 p1.2).bind (fun p2 =>
        if p2.1 = 0 then
          some ((0, p2.2))
        else
          if x1 = x2 then
            some ((1, p2.2))
          else
            if am_ix x1 4 = true then
              if (((p2.2.1 38 x1.toNatClampNeg) >>> (x2 &&& 31)) &&& 1) = 1 then
                some ((1, p2.2))
              else
                some ((0, p2.2))
            else none))
noncomputable def f_H_isStep_37 (x1 : Int32) (x2 : Int32) (σ : am_St) : Option (Int32 × am_St) := am_lk (g_H_isStep_37 x1 x2 σ)
theorem eq_H_isStep_37 (x1 : Int32) (x2 : Int32) (σ : am_St) : f_H_isStep_37 x1 x2 σ = g_H_isStep_37 x1 x2 σ := am_lk_eq _
set_option maxRecDepth 100000 in
set_option maxHeartbeats 4000000 in
theorem s_H_isStep_37 (G : am_G) (x1 : Int32) (x2 : Int32) (σ : am_St) (r : Int32 × am_St) (Q : am_AQ) (e : f_H_isStep_37 x1 x2 σ = some r) (hr : am_Pi r Q) : am_AW G M_H_isStep 0 [(0, .ref 37), (1, .int x1), (2, .int x2)] [] σ Q :=
  (show am_Snd G M_H_isStep 0 am_Pi _ from (sn_aload_n (pc := 0) (i := 0) dX3_isStep_0 rfl (sn_iload_n (pc := 1) (i := 1) dX3_isStep_1 rfl (sn_callV (pc := 2) (N := M_H_hasRoom) dX3_isStep_2 (cal_H_hasRoom_37 G) sh_37 rfl tw_331 tw_324 tw_325 tw_2 tw_326 dsc_X3_hasRoom rfl (sn_if_eq (pc := 5) (tgt := 39) dX3_isStep_5 rfl (sn_iconst (pc := 39) (v := 0) dX3_isStep_39 rfl (sn_retz (pc := 40) (R := fun x τ => (some ((x, τ)))) dX3_isStep_40 rfl (fun _ _ _ _ e h => by cases e; exact h))) (sn_aload_n (pc := 8) (i := 0) dX3_isStep_8 rfl (sn_iload_n (pc := 9) (i := 2) dX3_isStep_9 rfl (sn_callV (pc := 10) (N := M_H_hasRoom) dX3_isStep_10 (cal_H_hasRoom_37 G) sh_37 rfl tw_331 tw_324 tw_325 tw_2 tw_326 dsc_X3_hasRoom rfl (sn_if_eq (pc := 13) (tgt := 39) dX3_isStep_13 rfl (sn_iconst (pc := 39) (v := 0) dX3_isStep_39 rfl (sn_retz (pc := 40) (R := fun x τ => (some ((x, τ)))) dX3_isStep_40 rfl (fun _ _ _ _ e h => by cases e; exact h))) (sn_iload_n (pc := 16) (i := 1) dX3_isStep_16 rfl (sn_iload_n (pc := 17) (i := 2) dX3_isStep_17 rfl (sn_icmp_eq (pc := 18) (tgt := 35) dX3_isStep_18 rfl (sn_iconst (pc := 35) (v := 1) dX3_isStep_35 rfl (sn_goto (pc := 36) (tgt := 40) dX3_isStep_36 rfl (sn_retz (pc := 40) (R := fun x τ => (some ((x, τ)))) dX3_isStep_40 rfl (fun _ _ _ _ e h => by cases e; exact h)))) (sn_aload_n (pc := 21) (i := 0) dX3_isStep_21 rfl (sn_gR (r0 := 38) (pc := 22) (h := 37) (f := 7) dX3_isStep_22 am_CL_3 sh_37 rfl (Nat.le_of_ble_eq_true rfl) tw_107 (sn_iload_n (pc := 25) (i := 1) dX3_isStep_25 rfl (sn_aI (pc := 26) (h := 38) dX3_isStep_26 sh_38 (sn_iload_n (pc := 27) (i := 2) dX3_isStep_27 rfl (sn_ishr (pc := 28) dX3_isStep_28 (sn_iconst (pc := 29) (v := 1) dX3_isStep_29 rfl (sn_iand (pc := 30) dX3_isStep_30 (sn_iconst (pc := 31) (v := 1) dX3_isStep_31 rfl (sn_icmp_ne (pc := 32) (tgt := 39) dX3_isStep_32 rfl (sn_iconst (pc := 39) (v := 0) dX3_isStep_39 rfl (sn_retz (pc := 40) (R := fun x τ => (some ((x, τ)))) dX3_isStep_40 rfl (fun _ _ _ _ e h => by cases e; exact h))) (sn_iconst (pc := 35) (v := 1) dX3_isStep_35 rfl (sn_goto (pc := 36) (tgt := 40) dX3_isStep_36 rfl (sn_retz (pc := 40) (R := fun x τ => (some ((x, τ)))) dX3_isStep_40 rfl (fun _ _ _ _ e h => by cases e; exact h)))))))))))))))))))))))))) _ _ _ _ _ ((eq_H_isStep_37 x1 x2 σ).symm.trans e) hr
noncomputable def cF_H_isStep_37 : am_Fn := fun _ args σ K => match args with
  | [.ref q0, .int z1, .int z2] => match Nat.beq q0 37 with
    | true => (f_H_isStep_37 z1 z2 σ).bind (fun p => K (some (.int p.1)) p.2)
    | _ => none
  | _ => none
theorem cal_H_isStep_37 (G : am_G) : am_Cal G M_H_isStep cF_H_isStep_37 := by
  intro ρ args σ K r e
  unfold cF_H_isStep_37 at e
  split at e
  · split at e
    · rename_i hq0
      obtain ⟨p, h1, h2⟩ := am_bind_some e
      rw [Nat.eq_of_beq_eq_true hq0]
      exact ⟨some (.int p.1), p.2, am_Met.of rfl (Nat.le_of_ble_eq_true rfl) (s_H_isStep_37 G _ _ σ p _ h1 ⟨rfl, rfl⟩), h2⟩
    · cases e
  · cases e
abbrev M_H_putPlace : am_MD := (yX3_putPlace, cX3_putPlace, 4, none, 1, 21)
theorem dX3_putPlace_0 : decode cX3_putPlace 0 = .ok (.aload_n 0, 1) := by decide +kernel
theorem dX3_putPlace_1 : decode cX3_putPlace 1 = .ok (.iload_n 1, 1) := by decide +kernel
theorem dX3_putPlace_2 : decode cX3_putPlace 2 = .ok (.invokevirtual 139, 3) := by decide +kernel
theorem dX3_putPlace_5 : decode cX3_putPlace 5 = .ok (.ifCond .eq 23, 3) := by decide +kernel
theorem dX3_putPlace_8 : decode cX3_putPlace 8 = .ok (.aload_n 0, 1) := by decide +kernel
theorem dX3_putPlace_9 : decode cX3_putPlace 9 = .ok (.iload_n 2, 1) := by decide +kernel
theorem dX3_putPlace_10 : decode cX3_putPlace 10 = .ok (.invokevirtual 142, 3) := by decide +kernel
theorem dX3_putPlace_13 : decode cX3_putPlace 13 = .ok (.ifCond .eq 15, 3) := by decide +kernel
theorem dX3_putPlace_16 : decode cX3_putPlace 16 = .ok (.aload_n 0, 1) := by decide +kernel
theorem dX3_putPlace_17 : decode cX3_putPlace 17 = .ok (.getfield 34, 3) := by decide +kernel
theorem dX3_putPlace_20 : decode cX3_putPlace 20 = .ok (.iload_n 1, 1) := by decide +kernel
theorem dX3_putPlace_21 : decode cX3_putPlace 21 = .ok (.bipush 6, 2) := by decide +kernel
theorem dX3_putPlace_23 : decode cX3_putPlace 23 = .ok (.imul, 1) := by decide +kernel
theorem dX3_putPlace_24 : decode cX3_putPlace 24 = .ok (.iload_n 2, 1) := by decide +kernel
theorem dX3_putPlace_25 : decode cX3_putPlace 25 = .ok (.iadd, 1) := by decide +kernel
theorem dX3_putPlace_26 : decode cX3_putPlace 26 = .ok (.iload_n 3, 1) := by decide +kernel
theorem dX3_putPlace_27 : decode cX3_putPlace 27 = .ok (.iastore, 1) := by decide +kernel
theorem dX3_putPlace_28 : decode cX3_putPlace 28 = .ok (.return_, 1) := by decide +kernel
noncomputable def g_H_putPlace_37 (x1 : Int32) (x2 : Int32) (x3 : Int32) (σ : am_St) : Option (am_St) :=
  (f_H_hasChild_37 x1 σ).bind (fun p1 =>
    if p1.1 = 0 then
      some (p1.2)
    else
      (f_H_hasMinute_37 x2 p1.2).bind (fun p2 =>
        if p2.1 = 0 then
          some (p2.2)
        else
          if am_ix ((x1 * 6) + x2) 24 = true then
            let s3 := am_sI p2.2 43 ((x1 * 6) + x2).toNatClampNeg x3
            some (s3)
          else none))
noncomputable def f_H_putPlace_37 (x1 : Int32) (x2 : Int32) (x3 : Int32) (σ : am_St) : Option (am_St) := am_lk (g_H_putPlace_37 x1 x2 x3 σ)
theorem eq_H_putPlace_37 (x1 : Int32) (x2 : Int32) (x3 : Int32) (σ : am_St) : f_H_putPlace_37 x1 x2 x3 σ = g_H_putPlace_37 x1 x2 x3 σ := am_lk_eq _
set_option maxRecDepth 100000 in
set_option maxHeartbeats 4000000 in
theorem s_H_putPlace_37 (G : am_G) (x1 : Int32) (x2 : Int32) (x3 : Int32) (σ : am_St) (r : am_St) (Q : am_AQ) (e : f_H_putPlace_37 x1 x2 x3 σ = some r) (hr : am_Pv r Q) : am_AW G M_H_putPlace 0 [(0, .ref 37), (1, .int x1), (2, .int x2), (3, .int x3)] [] σ Q :=
  (show am_Snd G M_H_putPlace 0 am_Pv _ from (sn_aload_n (pc := 0) (i := 0) dX3_putPlace_0 rfl (sn_iload_n (pc := 1) (i := 1) dX3_putPlace_1 rfl (sn_callV (pc := 2) (N := M_H_hasChild) dX3_putPlace_2 (cal_H_hasChild_37 G) sh_37 rfl tw_396 tw_385 tw_386 tw_2 tw_387 dsc_X3_hasChild rfl (sn_if_eq (pc := 5) (tgt := 28) dX3_putPlace_5 rfl (sn_retv (pc := 28) (R := fun τ => (some (τ))) dX3_putPlace_28 rfl (fun _ _ _ e h => by cases e; exact h)) (sn_aload_n (pc := 8) (i := 0) dX3_putPlace_8 rfl (sn_iload_n (pc := 9) (i := 2) dX3_putPlace_9 rfl (sn_callV (pc := 10) (N := M_H_hasMinute) dX3_putPlace_10 (cal_H_hasMinute_37 G) sh_37 rfl tw_397 tw_398 tw_399 tw_2 tw_400 dsc_X3_hasMinute rfl (sn_if_eq (pc := 13) (tgt := 28) dX3_putPlace_13 rfl (sn_retv (pc := 28) (R := fun τ => (some (τ))) dX3_putPlace_28 rfl (fun _ _ _ e h => by cases e; exact h)) (sn_aload_n (pc := 16) (i := 0) dX3_putPlace_16 rfl (sn_gR (r0 := 43) (pc := 17) (h := 37) (f := 12) dX3_putPlace_17 am_CL_3 sh_37 rfl (Nat.le_of_ble_eq_true rfl) tw_112 (sn_iload_n (pc := 20) (i := 1) dX3_putPlace_20 rfl (sn_bipush (pc := 21) (v := 6) dX3_putPlace_21 rfl (sn_imul (pc := 23) dX3_putPlace_23 (sn_iload_n (pc := 24) (i := 2) dX3_putPlace_24 rfl (sn_iadd (pc := 25) dX3_putPlace_25 (sn_iload_n (pc := 26) (i := 3) dX3_putPlace_26 rfl (sn_sI (pc := 27) (h := 43) dX3_putPlace_27 sh_43 (sn_retv (pc := 28) (R := fun τ => (some (τ))) dX3_putPlace_28 rfl (fun _ _ _ e h => by cases e; exact h)))))))))))))))))))) _ _ _ _ _ ((eq_H_putPlace_37 x1 x2 x3 σ).symm.trans e) hr
noncomputable def cF_H_putPlace_37 : am_Fn := fun _ args σ K => match args with
  | [.ref q0, .int z1, .int z2, .int z3] => match Nat.beq q0 37 with
    | true => (f_H_putPlace_37 z1 z2 z3 σ).bind (fun p => K none p)
    | _ => none
  | _ => none
theorem cal_H_putPlace_37 (G : am_G) : am_Cal G M_H_putPlace cF_H_putPlace_37 := by
  intro ρ args σ K r e
  unfold cF_H_putPlace_37 at e
  split at e
  · split at e
    · rename_i hq0
      obtain ⟨p, h1, h2⟩ := am_bind_some e
      rw [Nat.eq_of_beq_eq_true hq0]
      exact ⟨none, p, am_Met.of rfl (Nat.le_of_ble_eq_true rfl) (s_H_putPlace_37 G _ _ _ σ p _ h1 ⟨rfl, rfl⟩), h2⟩
    · cases e
  · cases e
abbrev M_T_goes : am_MD := (yX4_goes, cX4_goes, 6, (some .boolean), 2, 44)
theorem dX4_goes_0 : decode cX4_goes 0 = .ok (.aload_n 0, 1) := by decide +kernel
theorem dX4_goes_1 : decode cX4_goes 1 = .ok (.getfield 22, 3) := by decide +kernel
theorem dX4_goes_4 : decode cX4_goes 4 = .ok (.iload_n 1, 1) := by decide +kernel
theorem dX4_goes_5 : decode cX4_goes 5 = .ok (.invokevirtual 105, 3) := by decide +kernel
theorem dX4_goes_8 : decode cX4_goes 8 = .ok (.ifCond .ne 5, 3) := by decide +kernel
theorem dX4_goes_11 : decode cX4_goes 11 = .ok (.iconst 0, 1) := by decide +kernel
theorem dX4_goes_12 : decode cX4_goes 12 = .ok (.ireturn, 1) := by decide +kernel
theorem dX4_goes_13 : decode cX4_goes 13 = .ok (.iconst 0, 1) := by decide +kernel
theorem dX4_goes_14 : decode cX4_goes 14 = .ok (.istore_n 3, 1) := by decide +kernel
theorem dX4_goes_15 : decode cX4_goes 15 = .ok (.iload_n 3, 1) := by decide +kernel
theorem dX4_goes_16 : decode cX4_goes 16 = .ok (.aload_n 0, 1) := by decide +kernel
theorem dX4_goes_17 : decode cX4_goes 17 = .ok (.getfield 22, 3) := by decide +kernel
theorem dX4_goes_20 : decode cX4_goes 20 = .ok (.getfield 26, 3) := by decide +kernel
theorem dX4_goes_23 : decode cX4_goes 23 = .ok (.if_icmp .ge 65, 3) := by decide +kernel
theorem dX4_goes_26 : decode cX4_goes 26 = .ok (.aload_n 0, 1) := by decide +kernel
theorem dX4_goes_27 : decode cX4_goes 27 = .ok (.iload_n 2, 1) := by decide +kernel
theorem dX4_goes_28 : decode cX4_goes 28 = .ok (.iload_n 3, 1) := by decide +kernel
theorem dX4_goes_29 : decode cX4_goes 29 = .ok (.iadd, 1) := by decide +kernel
theorem dX4_goes_30 : decode cX4_goes 30 = .ok (.invokevirtual 58, 3) := by decide +kernel
theorem dX4_goes_33 : decode cX4_goes 33 = .ok (.istore 4, 2) := by decide +kernel
theorem dX4_goes_35 : decode cX4_goes 35 = .ok (.iload_n 3, 1) := by decide +kernel
theorem dX4_goes_36 : decode cX4_goes 36 = .ok (.ifCond .ne 8, 3) := by decide +kernel
theorem dX4_goes_39 : decode cX4_goes 39 = .ok (.iload 4, 2) := by decide +kernel
theorem dX4_goes_41 : decode cX4_goes 41 = .ok (.goto 12, 3) := by decide +kernel
theorem dX4_goes_44 : decode cX4_goes 44 = .ok (.aload_n 0, 1) := by decide +kernel
theorem dX4_goes_45 : decode cX4_goes 45 = .ok (.iload_n 2, 1) := by decide +kernel
theorem dX4_goes_46 : decode cX4_goes 46 = .ok (.iload_n 3, 1) := by decide +kernel
theorem dX4_goes_47 : decode cX4_goes 47 = .ok (.iadd, 1) := by decide +kernel
theorem dX4_goes_48 : decode cX4_goes 48 = .ok (.iconst 1, 1) := by decide +kernel
theorem dX4_goes_49 : decode cX4_goes 49 = .ok (.isub, 1) := by decide +kernel
theorem dX4_goes_50 : decode cX4_goes 50 = .ok (.invokevirtual 58, 3) := by decide +kernel
theorem dX4_goes_53 : decode cX4_goes 53 = .ok (.istore 5, 2) := by decide +kernel
theorem dX4_goes_55 : decode cX4_goes 55 = .ok (.aload_n 0, 1) := by decide +kernel
theorem dX4_goes_56 : decode cX4_goes 56 = .ok (.getfield 22, 3) := by decide +kernel
theorem dX4_goes_59 : decode cX4_goes 59 = .ok (.iload 5, 2) := by decide +kernel
theorem dX4_goes_61 : decode cX4_goes 61 = .ok (.iload 4, 2) := by decide +kernel
theorem dX4_goes_63 : decode cX4_goes 63 = .ok (.invokevirtual 108, 3) := by decide +kernel
theorem dX4_goes_66 : decode cX4_goes 66 = .ok (.ifCond .ne 5, 3) := by decide +kernel
theorem dX4_goes_69 : decode cX4_goes 69 = .ok (.iconst 0, 1) := by decide +kernel
theorem dX4_goes_70 : decode cX4_goes 70 = .ok (.ireturn, 1) := by decide +kernel
theorem dX4_goes_71 : decode cX4_goes 71 = .ok (.aload_n 0, 1) := by decide +kernel
theorem dX4_goes_72 : decode cX4_goes 72 = .ok (.getfield 22, 3) := by decide +kernel
theorem dX4_goes_75 : decode cX4_goes 75 = .ok (.iload_n 1, 1) := by decide +kernel
theorem dX4_goes_76 : decode cX4_goes 76 = .ok (.iload_n 3, 1) := by decide +kernel
theorem dX4_goes_77 : decode cX4_goes 77 = .ok (.iload 4, 2) := by decide +kernel
theorem dX4_goes_79 : decode cX4_goes 79 = .ok (.invokevirtual 111, 3) := by decide +kernel
theorem dX4_goes_82 : decode cX4_goes 82 = .ok (.iinc 3 1, 3) := by decide +kernel
theorem dX4_goes_85 : decode cX4_goes 85 = .ok (.goto (-70), 3) := by decide +kernel
theorem dX4_goes_88 : decode cX4_goes 88 = .ok (.iconst 1, 1) := by decide +kernel
theorem dX4_goes_89 : decode cX4_goes 89 = .ok (.ireturn, 1) := by decide +kernel
abbrev Pl_T_goes_15 (G : am_G) : ((Int32 × Int32 × Int32 × am_St) ⊕ (Int32 × am_St)) → am_AQ → Prop := am_PL G M_T_goes 15 (fun s : Int32 × Int32 × Int32 × am_St => [(3, .int s.2.2.1), (2, .int s.2.1), (1, .int s.1), (0, .ref 35)]) (fun s => s.2.2.2) am_Pi
noncomputable def g_T_goes_82 (x1 : Int32) (x2 : Int32) (x3 : Int32) (σ : am_St) : Option ((Int32 × Int32 × Int32 × am_St) ⊕ (Int32 × am_St)) :=
  let v1 := x3 + 1
  some (.inl (x1, x2, v1, σ))
noncomputable def f_T_goes_82 (x1 : Int32) (x2 : Int32) (x3 : Int32) (σ : am_St) : Option ((Int32 × Int32 × Int32 × am_St) ⊕ (Int32 × am_St)) := am_lk (g_T_goes_82 x1 x2 x3 σ)
theorem eq_T_goes_82 (x1 : Int32) (x2 : Int32) (x3 : Int32) (σ : am_St) : f_T_goes_82 x1 x2 x3 σ = g_T_goes_82 x1 x2 x3 σ := am_lk_eq _
set_option maxRecDepth 100000 in
set_option maxHeartbeats 4000000 in
theorem s_T_goes_82 (G : am_G) (x1 : Int32) (x2 : Int32) (x3 : Int32) (σ : am_St) (r : (Int32 × Int32 × Int32 × am_St) ⊕ (Int32 × am_St)) (Q : am_AQ) (e : f_T_goes_82 x1 x2 x3 σ = some r) (hr : (Pl_T_goes_15 G) r Q) : am_AW G M_T_goes 82 [(3, .int x3), (2, .int x2), (1, .int x1), (0, .ref 35)] [] σ Q :=
  (show am_Snd G M_T_goes 82 (Pl_T_goes_15 G) _ from (sn_iinc (pc := 82) (v := 1) dX4_goes_82 rfl (Nat.le_of_ble_eq_true rfl) (sn_goto (pc := 85) (tgt := 15) dX4_goes_85 rfl (sn_lf (pc := 15) (ln_a (i := 0) (q := 35) (ln_i (i := 1) (fun z0 => (ln_i (i := 2) (fun z1 => (ln_i (i := 3) (fun z2 => (ln_end (o := fun τ => (some (.inl (z0, z1, z2, τ)) : Option ((Int32 × Int32 × Int32 × am_St) ⊕ (Int32 × am_St)))) (fun _ _ _ e h => by cases e; exact h))))))))))))) _ _ _ _ _ ((eq_T_goes_82 x1 x2 x3 σ).symm.trans e) hr
noncomputable def g_T_goes_53 (x1 : Int32) (x2 : Int32) (x3 : Int32) (x4 : Int32) (y0 : Int32) (σ : am_St) : Option ((Int32 × Int32 × Int32 × am_St) ⊕ (Int32 × am_St)) :=
  (f_H_isStep_37 y0 x4 σ).bind (fun p1 =>
    if p1.1 = 0 then
      some (.inr ((0, p1.2)))
    else
      (f_H_putPlace_37 x1 x3 x4 p1.2).bind (fun p2 =>
        f_T_goes_82 x1 x2 x3 p2))
noncomputable def f_T_goes_53 (x1 : Int32) (x2 : Int32) (x3 : Int32) (x4 : Int32) (y0 : Int32) (σ : am_St) : Option ((Int32 × Int32 × Int32 × am_St) ⊕ (Int32 × am_St)) := am_lk (g_T_goes_53 x1 x2 x3 x4 y0 σ)
theorem eq_T_goes_53 (x1 : Int32) (x2 : Int32) (x3 : Int32) (x4 : Int32) (y0 : Int32) (σ : am_St) : f_T_goes_53 x1 x2 x3 x4 y0 σ = g_T_goes_53 x1 x2 x3 x4 y0 σ := am_lk_eq _
set_option maxRecDepth 100000 in
set_option maxHeartbeats 4000000 in
theorem s_T_goes_53 (G : am_G) (x1 : Int32) (x2 : Int32) (x3 : Int32) (x4 : Int32) (y0 : Int32) (σ : am_St) (r : (Int32 × Int32 × Int32 × am_St) ⊕ (Int32 × am_St)) (Q : am_AQ) (e : f_T_goes_53 x1 x2 x3 x4 y0 σ = some r) (hr : (Pl_T_goes_15 G) r Q) : am_AW G M_T_goes 53 [(4, .int x4), (3, .int x3), (2, .int x2), (1, .int x1), (0, .ref 35)] [.int y0] σ Q :=
  (show am_Snd G M_T_goes 53 (Pl_T_goes_15 G) _ from (sn_istore (pc := 53) dX4_goes_53 (Nat.le_of_ble_eq_true rfl) (sn_aload_n (pc := 55) (i := 0) dX4_goes_55 rfl (sn_gR (r0 := 37) (pc := 56) (h := 35) (f := 2) dX4_goes_56 am_CL_4 sh_35 rfl (Nat.le_of_ble_eq_true rfl) tw_162 (sn_iload (pc := 59) dX4_goes_59 (sn_iload (pc := 61) dX4_goes_61 (sn_callV (pc := 63) (N := M_H_isStep) dX4_goes_63 (cal_H_isStep_37 G) sh_37 rfl tw_388 tw_389 tw_390 tw_2 tw_391 dsc_X3_isStep rfl (sn_if_ne (pc := 66) (tgt := 71) dX4_goes_66 rfl (sn_aload_n (pc := 71) (i := 0) dX4_goes_71 rfl (sn_gR (r0 := 37) (pc := 72) (h := 35) (f := 2) dX4_goes_72 am_CL_4 sh_35 rfl (Nat.le_of_ble_eq_true rfl) tw_162 (sn_iload_n (pc := 75) (i := 1) dX4_goes_75 rfl (sn_iload_n (pc := 76) (i := 3) dX4_goes_76 rfl (sn_iload (pc := 77) dX4_goes_77 (sn_callV (pc := 79) (N := M_H_putPlace) dX4_goes_79 (cal_H_putPlace_37 G) sh_37 rfl tw_392 tw_393 tw_394 tw_2 tw_395 dsc_X3_putPlace rfl (sn_lf (pc := 82) (ln_a (i := 0) (q := 35) (ln_i (i := 1) (fun z0 => (ln_i (i := 2) (fun z1 => (ln_i (i := 3) (fun z2 => (ln_end (o := fun τ => f_T_goes_82 z0 z1 z2 τ) (fun _ _ _ e h => s_T_goes_82 G z0 z1 z2 _ _ _ e h)))))))))))))))) (sn_iconst (pc := 69) (v := 0) dX4_goes_69 rfl (sn_retz (pc := 70) (R := fun x τ => (some (.inr ((x, τ))) : Option ((Int32 × Int32 × Int32 × am_St) ⊕ (Int32 × am_St)))) dX4_goes_70 rfl (fun _ _ _ _ e h => by cases e; exact h))))))))))) _ _ _ _ _ ((eq_T_goes_53 x1 x2 x3 x4 y0 σ).symm.trans e) hr
noncomputable def b_T_goes_15 (x1 : Int32) (x2 : Int32) (x3 : Int32) (σ : am_St) : Option ((Int32 × Int32 × Int32 × am_St) ⊕ (Int32 × am_St)) :=
  if (σ.1 37 1) ≤ x3 then
    some (.inr ((1, σ)))
  else
    (f_T_digitAt (x2 + x3) σ).bind (fun p1 =>
      if x3 = 0 then
        f_T_goes_53 x1 x2 x3 p1.1 p1.1 p1.2
      else
        (f_T_digitAt ((x2 + x3) - 1) p1.2).bind (fun p2 =>
          f_T_goes_53 x1 x2 x3 p1.1 p2.1 p2.2))
noncomputable def f_T_goes_15 (x1 : Int32) (x2 : Int32) (x3 : Int32) (σ : am_St) : Option (Int32 × am_St) := am_lp (fun s : Int32 × Int32 × Int32 × am_St => b_T_goes_15 s.1 s.2.1 s.2.2.1 s.2.2.2) (x1, x2, x3, σ)
set_option maxRecDepth 100000 in
set_option maxHeartbeats 4000000 in
theorem sb_T_goes_15 (G : am_G) (x1 : Int32) (x2 : Int32) (x3 : Int32) (σ : am_St) (r : (Int32 × Int32 × Int32 × am_St) ⊕ (Int32 × am_St)) (Q : am_AQ) (e : b_T_goes_15 x1 x2 x3 σ = some r) (hr : Pl_T_goes_15 G r Q) : am_AW G M_T_goes 15 [(3, .int x3), (2, .int x2), (1, .int x1), (0, .ref 35)] [] σ Q :=
  (show am_Snd G M_T_goes 15 (Pl_T_goes_15 G) _ from (sn_iload_n (pc := 15) (i := 3) dX4_goes_15 rfl (sn_aload_n (pc := 16) (i := 0) dX4_goes_16 rfl (sn_gR (r0 := 37) (pc := 17) (h := 35) (f := 2) dX4_goes_17 am_CL_4 sh_35 rfl (Nat.le_of_ble_eq_true rfl) tw_162 (sn_gI (pc := 20) (h := 37) (f := 1) dX4_goes_20 am_CL_3 sh_37 rfl (Nat.le_of_ble_eq_true rfl) tw_81 (sn_icmp_ge (pc := 23) (tgt := 88) dX4_goes_23 rfl (sn_iconst (pc := 88) (v := 1) dX4_goes_88 rfl (sn_retz (pc := 89) (R := fun x τ => (some (.inr ((x, τ))) : Option ((Int32 × Int32 × Int32 × am_St) ⊕ (Int32 × am_St)))) dX4_goes_89 rfl (fun _ _ _ _ e h => by cases e; exact h))) (sn_aload_n (pc := 26) (i := 0) dX4_goes_26 rfl (sn_iload_n (pc := 27) (i := 2) dX4_goes_27 rfl (sn_iload_n (pc := 28) (i := 3) dX4_goes_28 rfl (sn_iadd (pc := 29) dX4_goes_29 (sn_callV (pc := 30) (N := M_T_digitAt) dX4_goes_30 (cal_T_digitAt G) sh_35 rfl tw_289 tw_291 tp_4 tw_9 tw_292 dsc_X4_digitAt rfl (sn_istore (pc := 33) dX4_goes_33 (Nat.le_of_ble_eq_true rfl) (sn_iload_n (pc := 35) (i := 3) dX4_goes_35 rfl (sn_if_ne (pc := 36) (tgt := 44) dX4_goes_36 rfl (sn_aload_n (pc := 44) (i := 0) dX4_goes_44 rfl (sn_iload_n (pc := 45) (i := 2) dX4_goes_45 rfl (sn_iload_n (pc := 46) (i := 3) dX4_goes_46 rfl (sn_iadd (pc := 47) dX4_goes_47 (sn_iconst (pc := 48) (v := 1) dX4_goes_48 rfl (sn_isub (pc := 49) dX4_goes_49 (sn_callV (pc := 50) (N := M_T_digitAt) dX4_goes_50 (cal_T_digitAt G) sh_35 rfl tw_289 tw_291 tp_4 tw_9 tw_292 dsc_X4_digitAt rfl (sn_lf (pc := 53) (ln_a (i := 0) (q := 35) (ln_i (i := 1) (fun z0 => (ln_i (i := 2) (fun z1 => (ln_i (i := 3) (fun z2 => (ln_i (i := 4) (fun z3 => (ln_si (fun w0 => (ln_end (o := fun τ => f_T_goes_53 z0 z1 z2 z3 w0 τ) (fun _ _ _ e h => s_T_goes_53 G z0 z1 z2 z3 w0 _ _ _ e h))))))))))))))))))))) (sn_iload (pc := 39) dX4_goes_39 (sn_goto (pc := 41) (tgt := 53) dX4_goes_41 rfl (sn_lf (pc := 53) (ln_a (i := 0) (q := 35) (ln_i (i := 1) (fun z0 => (ln_i (i := 2) (fun z1 => (ln_i (i := 3) (fun z2 => (ln_i (i := 4) (fun z3 => (ln_si (fun w0 => (ln_end (o := fun τ => f_T_goes_53 z0 z1 z2 z3 w0 τ) (fun _ _ _ e h => s_T_goes_53 G z0 z1 z2 z3 w0 _ _ _ e h)))))))))))))))))))))))))))))) _ _ _ _ _ e hr
theorem s_T_goes_15 (G : am_G) (x1 : Int32) (x2 : Int32) (x3 : Int32) (σ : am_St) (r : Int32 × am_St) (Q : am_AQ) (e : f_T_goes_15 x1 x2 x3 σ = some r) (hr : am_Pi r Q) : am_AW G M_T_goes 15 [(3, .int x3), (2, .int x2), (1, .int x1), (0, .ref 35)] [] σ Q :=
  am_loop (P := am_Pi) (L := fun s : Int32 × Int32 × Int32 × am_St => [(3, .int s.2.2.1), (2, .int s.2.1), (1, .int s.1), (0, .ref 35)]) (g := fun s => s.2.2.2) (fun s o Q e hr => sb_T_goes_15 G s.1 s.2.1 s.2.2.1 s.2.2.2 o Q e hr) (x1, x2, x3, σ) r Q e hr
noncomputable def g_T_goes (x1 : Int32) (x2 : Int32) (σ : am_St) : Option (Int32 × am_St) :=
  (f_H_hasChild_37 x1 σ).bind (fun p1 =>
    if p1.1 = 0 then
      some ((0, p1.2))
    else
      f_T_goes_15 x1 x2 0 p1.2)
noncomputable def f_T_goes (x1 : Int32) (x2 : Int32) (σ : am_St) : Option (Int32 × am_St) := am_lk (g_T_goes x1 x2 σ)
theorem eq_T_goes (x1 : Int32) (x2 : Int32) (σ : am_St) : f_T_goes x1 x2 σ = g_T_goes x1 x2 σ := am_lk_eq _
set_option maxRecDepth 100000 in
set_option maxHeartbeats 4000000 in
theorem s_T_goes (G : am_G) (x1 : Int32) (x2 : Int32) (σ : am_St) (r : Int32 × am_St) (Q : am_AQ) (e : f_T_goes x1 x2 σ = some r) (hr : am_Pi r Q) : am_AW G M_T_goes 0 [(0, .ref 35), (1, .int x1), (2, .int x2)] [] σ Q :=
  (show am_Snd G M_T_goes 0 am_Pi _ from (sn_aload_n (pc := 0) (i := 0) dX4_goes_0 rfl (sn_gR (r0 := 37) (pc := 1) (h := 35) (f := 2) dX4_goes_1 am_CL_4 sh_35 rfl (Nat.le_of_ble_eq_true rfl) tw_162 (sn_iload_n (pc := 4) (i := 1) dX4_goes_4 rfl (sn_callV (pc := 5) (N := M_H_hasChild) dX4_goes_5 (cal_H_hasChild_37 G) sh_37 rfl tw_384 tw_385 tw_386 tw_2 tw_387 dsc_X3_hasChild rfl (sn_if_ne (pc := 8) (tgt := 13) dX4_goes_8 rfl (sn_iconst (pc := 13) (v := 0) dX4_goes_13 rfl (sn_istore_n (pc := 14) (i := 3) dX4_goes_14 rfl (Nat.le_of_ble_eq_true rfl) (sn_lf (pc := 15) (ln_a (i := 0) (q := 35) (ln_i (i := 1) (fun z0 => (ln_i (i := 2) (fun z1 => (ln_i (i := 3) (fun z2 => (ln_end (o := fun τ => f_T_goes_15 z0 z1 z2 τ) (fun _ _ _ e h => s_T_goes_15 G z0 z1 z2 _ _ _ e h)))))))))))) (sn_iconst (pc := 11) (v := 0) dX4_goes_11 rfl (sn_retz (pc := 12) (R := fun x τ => (some ((x, τ)))) dX4_goes_12 rfl (fun _ _ _ _ e h => by cases e; exact h))))))))) _ _ _ _ _ ((eq_T_goes x1 x2 σ).symm.trans e) hr
noncomputable def cF_T_goes : am_Fn := fun _ args σ K => match args with
  | [.ref q0, .int z1, .int z2] => match Nat.beq q0 35 with
    | true => (f_T_goes z1 z2 σ).bind (fun p => K (some (.int p.1)) p.2)
    | _ => none
  | _ => none
theorem cal_T_goes (G : am_G) : am_Cal G M_T_goes cF_T_goes := by
  intro ρ args σ K r e
  unfold cF_T_goes at e
  split at e
  · split at e
    · rename_i hq0
      obtain ⟨p, h1, h2⟩ := am_bind_some e
      rw [Nat.eq_of_beq_eq_true hq0]
      exact ⟨some (.int p.1), p.2, am_Met.of rfl (Nat.le_of_ble_eq_true rfl) (s_T_goes G _ _ σ p _ h1 ⟨rfl, rfl⟩), h2⟩
    · cases e
  · cases e
abbrev M_T_comes : am_MD := (yX4_comes, cX4_comes, 5, (some .boolean), 4, 102)
theorem dX4_comes_0 : decode cX4_comes 0 = .ok (.aload_n 0, 1) := by decide +kernel
theorem dX4_comes_1 : decode cX4_comes 1 = .ok (.iload_n 1, 1) := by decide +kernel
theorem dX4_comes_2 : decode cX4_comes 2 = .ok (.iconst 1, 1) := by decide +kernel
theorem dX4_comes_3 : decode cX4_comes 3 = .ok (.iadd, 1) := by decide +kernel
theorem dX4_comes_4 : decode cX4_comes 4 = .ok (.invokevirtual 58, 3) := by decide +kernel
theorem dX4_comes_7 : decode cX4_comes 7 = .ok (.istore_n 3, 1) := by decide +kernel
theorem dX4_comes_8 : decode cX4_comes 8 = .ok (.aload_n 0, 1) := by decide +kernel
theorem dX4_comes_9 : decode cX4_comes 9 = .ok (.iload_n 1, 1) := by decide +kernel
theorem dX4_comes_10 : decode cX4_comes 10 = .ok (.iconst 2, 1) := by decide +kernel
theorem dX4_comes_11 : decode cX4_comes 11 = .ok (.iadd, 1) := by decide +kernel
theorem dX4_comes_12 : decode cX4_comes 12 = .ok (.invokevirtual 58, 3) := by decide +kernel
theorem dX4_comes_15 : decode cX4_comes 15 = .ok (.istore 4, 2) := by decide +kernel
theorem dX4_comes_17 : decode cX4_comes 17 = .ok (.aload_n 0, 1) := by decide +kernel
theorem dX4_comes_18 : decode cX4_comes 18 = .ok (.iload_n 1, 1) := by decide +kernel
theorem dX4_comes_19 : decode cX4_comes 19 = .ok (.invokevirtual 44, 3) := by decide +kernel
theorem dX4_comes_22 : decode cX4_comes 22 = .ok (.tableswitch 149 98 116 #[134, 107, 98, 149, 142, 149, 149, 149, 149, 149, 149, 149, 149, 149, 149, 149, 90, 149, 125], 90) := by decide +kernel
theorem dX4_comes_112 : decode cX4_comes 112 = .ok (.aload_n 0, 1) := by decide +kernel
theorem dX4_comes_113 : decode cX4_comes 113 = .ok (.iload_n 3, 1) := by decide +kernel
theorem dX4_comes_114 : decode cX4_comes 114 = .ok (.iload 4, 2) := by decide +kernel
theorem dX4_comes_116 : decode cX4_comes 116 = .ok (.invokevirtual 65, 3) := by decide +kernel
theorem dX4_comes_119 : decode cX4_comes 119 = .ok (.ireturn, 1) := by decide +kernel
theorem dX4_comes_120 : decode cX4_comes 120 = .ok (.aload_n 0, 1) := by decide +kernel
theorem dX4_comes_121 : decode cX4_comes 121 = .ok (.iload_n 3, 1) := by decide +kernel
theorem dX4_comes_122 : decode cX4_comes 122 = .ok (.iload 4, 2) := by decide +kernel
theorem dX4_comes_124 : decode cX4_comes 124 = .ok (.aload_n 2, 1) := by decide +kernel
theorem dX4_comes_125 : decode cX4_comes 125 = .ok (.invokevirtual 68, 3) := by decide +kernel
theorem dX4_comes_128 : decode cX4_comes 128 = .ok (.ireturn, 1) := by decide +kernel
theorem dX4_comes_129 : decode cX4_comes 129 = .ok (.aload_n 0, 1) := by decide +kernel
theorem dX4_comes_130 : decode cX4_comes 130 = .ok (.getfield 22, 3) := by decide +kernel
theorem dX4_comes_133 : decode cX4_comes 133 = .ok (.iload_n 3, 1) := by decide +kernel
theorem dX4_comes_134 : decode cX4_comes 134 = .ok (.iload 4, 2) := by decide +kernel
theorem dX4_comes_136 : decode cX4_comes 136 = .ok (.aload_n 0, 1) := by decide +kernel
theorem dX4_comes_137 : decode cX4_comes 137 = .ok (.iload_n 1, 1) := by decide +kernel
theorem dX4_comes_138 : decode cX4_comes 138 = .ok (.iconst 3, 1) := by decide +kernel
theorem dX4_comes_139 : decode cX4_comes 139 = .ok (.iadd, 1) := by decide +kernel
theorem dX4_comes_140 : decode cX4_comes 140 = .ok (.invokevirtual 58, 3) := by decide +kernel
theorem dX4_comes_143 : decode cX4_comes 143 = .ok (.invokevirtual 72, 3) := by decide +kernel
theorem dX4_comes_146 : decode cX4_comes 146 = .ok (.ireturn, 1) := by decide +kernel
theorem dX4_comes_147 : decode cX4_comes 147 = .ok (.aload_n 0, 1) := by decide +kernel
theorem dX4_comes_148 : decode cX4_comes 148 = .ok (.iload_n 3, 1) := by decide +kernel
theorem dX4_comes_149 : decode cX4_comes 149 = .ok (.iload_n 1, 1) := by decide +kernel
theorem dX4_comes_150 : decode cX4_comes 150 = .ok (.iconst 2, 1) := by decide +kernel
theorem dX4_comes_151 : decode cX4_comes 151 = .ok (.iadd, 1) := by decide +kernel
theorem dX4_comes_152 : decode cX4_comes 152 = .ok (.invokevirtual 76, 3) := by decide +kernel
theorem dX4_comes_155 : decode cX4_comes 155 = .ok (.ireturn, 1) := by decide +kernel
theorem dX4_comes_156 : decode cX4_comes 156 = .ok (.aload_n 0, 1) := by decide +kernel
theorem dX4_comes_157 : decode cX4_comes 157 = .ok (.iload_n 3, 1) := by decide +kernel
theorem dX4_comes_158 : decode cX4_comes 158 = .ok (.iload 4, 2) := by decide +kernel
theorem dX4_comes_160 : decode cX4_comes 160 = .ok (.invokevirtual 79, 3) := by decide +kernel
theorem dX4_comes_163 : decode cX4_comes 163 = .ok (.ireturn, 1) := by decide +kernel
theorem dX4_comes_164 : decode cX4_comes 164 = .ok (.aload_n 0, 1) := by decide +kernel
theorem dX4_comes_165 : decode cX4_comes 165 = .ok (.iload_n 1, 1) := by decide +kernel
theorem dX4_comes_166 : decode cX4_comes 166 = .ok (.aload_n 2, 1) := by decide +kernel
theorem dX4_comes_167 : decode cX4_comes 167 = .ok (.invokevirtual 82, 3) := by decide +kernel
theorem dX4_comes_170 : decode cX4_comes 170 = .ok (.ireturn, 1) := by decide +kernel
theorem dX4_comes_171 : decode cX4_comes 171 = .ok (.iconst 0, 1) := by decide +kernel
theorem dX4_comes_172 : decode cX4_comes 172 = .ok (.ireturn, 1) := by decide +kernel
noncomputable def g_T_comes_17 (x1 : Int32) (x3 : Int32) (x4 : Int32) (σ : am_St) : Option (Int32 × am_St) :=
  (f_T_letterAt x1 σ).bind (fun p1 =>
    if p1.1 = 98 then
      (f_T_breaks x3 x4 p1.2).bind (fun p2 =>
        if p2.1 &&& 1 = p2.1 then some ((p2.1, p2.2)) else none)
    else
    if p1.1 = 99 then
      (f_T_digitAt (x1 + 3) p1.2).bind (fun p3 =>
        (f_H_addChild_37 x3 x4 p3.1 p3.2).bind (fun p4 =>
          if p4.1 &&& 1 = p4.1 then some ((p4.1, p4.2)) else none))
    else
    if p1.1 = 100 then
      (f_T_turnsDoor x3 x4 p1.2).bind (fun p5 =>
        if p5.1 &&& 1 = p5.1 then some ((p5.1, p5.2)) else none)
    else
    if p1.1 = 101 then
      some ((0, p1.2))
    else
    if p1.1 = 102 then
      (f_T_knows x1 p1.2).bind (fun p6 =>
        if p6.1 &&& 1 = p6.1 then some ((p6.1, p6.2)) else none)
    else
    if p1.1 = 103 then
      some ((0, p1.2))
    else
    if p1.1 = 104 then
      some ((0, p1.2))
    else
    if p1.1 = 105 then
      some ((0, p1.2))
    else
    if p1.1 = 106 then
      some ((0, p1.2))
    else
    if p1.1 = 107 then
      some ((0, p1.2))
    else
    if p1.1 = 108 then
      some ((0, p1.2))
    else
    if p1.1 = 109 then
      some ((0, p1.2))
    else
    if p1.1 = 110 then
      some ((0, p1.2))
    else
    if p1.1 = 111 then
      some ((0, p1.2))
    else
    if p1.1 = 112 then
      some ((0, p1.2))
    else
    if p1.1 = 113 then
      some ((0, p1.2))
    else
    if p1.1 = 114 then
      (f_T_builds x3 x4 p1.2).bind (fun p7 =>
        if p7.1 &&& 1 = p7.1 then some ((p7.1, p7.2)) else none)
    else
    if p1.1 = 115 then
      some ((0, p1.2))
    else
    if p1.1 = 116 then
      (f_T_goes x3 (x1 + 2) p1.2).bind (fun p8 =>
        if p8.1 &&& 1 = p8.1 then some ((p8.1, p8.2)) else none)
    else
    some ((0, p1.2)))
noncomputable def f_T_comes_17 (x1 : Int32) (x3 : Int32) (x4 : Int32) (σ : am_St) : Option (Int32 × am_St) := am_lk (g_T_comes_17 x1 x3 x4 σ)
theorem eq_T_comes_17 (x1 : Int32) (x3 : Int32) (x4 : Int32) (σ : am_St) : f_T_comes_17 x1 x3 x4 σ = g_T_comes_17 x1 x3 x4 σ := am_lk_eq _
set_option maxRecDepth 100000 in
set_option maxHeartbeats 4000000 in
theorem s_T_comes_17 (G : am_G) (x1 : Int32) (x3 : Int32) (x4 : Int32) (σ : am_St) (r : Int32 × am_St) (Q : am_AQ) (e : f_T_comes_17 x1 x3 x4 σ = some r) (hr : am_Pi r Q) : am_AW G M_T_comes 17 [(4, .int x4), (3, .int x3), (2, .ref 54), (1, .int x1), (0, .ref 35)] [] σ Q :=
  (show am_Snd G M_T_comes 17 am_Pi _ from (sn_aload_n (pc := 17) (i := 0) dX4_comes_17 rfl (sn_iload_n (pc := 18) (i := 1) dX4_comes_18 rfl (sn_callV (pc := 19) (N := M_T_letterAt) dX4_comes_19 (cal_T_letterAt G) sh_35 rfl tw_275 tw_277 tp_2 tw_9 tw_278 dsc_X4_letterAt rfl (sn_tsw (pc := 22) (dt := 171) (vs := [98, 99, 100, 101, 102, 103, 104, 105, 106, 107, 108, 109, 110, 111, 112, 113, 114, 115, 116]) (ts := [156, 129, 120, 171, 164, 171, 171, 171, 171, 171, 171, 171, 171, 171, 171, 171, 112, 171, 147]) dX4_comes_22 (by decide +kernel) (sn_iconst (pc := 171) (v := 0) dX4_comes_171 rfl (sn_retz (pc := 172) (R := fun x τ => (some ((x, τ)))) dX4_comes_172 rfl (fun _ _ _ _ e h => by cases e; exact h))) (am_all_cons (sn_aload_n (pc := 156) (i := 0) dX4_comes_156 rfl (sn_iload_n (pc := 157) (i := 3) dX4_comes_157 rfl (sn_iload (pc := 158) dX4_comes_158 (sn_callV (pc := 160) (N := M_T_breaks) dX4_comes_160 (cal_T_breaks G) sh_35 rfl tw_401 tw_403 tp_13 tw_9 tw_404 dsc_X4_breaks rfl (sn_retz (pc := 163) (R := fun x τ => (some ((x, τ)))) dX4_comes_163 rfl (fun _ _ _ _ e h => by cases e; exact h)))))) (am_all_cons (sn_aload_n (pc := 129) (i := 0) dX4_comes_129 rfl (sn_gR (r0 := 37) (pc := 130) (h := 35) (f := 2) dX4_comes_130 am_CL_4 sh_35 rfl (Nat.le_of_ble_eq_true rfl) tw_162 (sn_iload_n (pc := 133) (i := 3) dX4_comes_133 rfl (sn_iload (pc := 134) dX4_comes_134 (sn_aload_n (pc := 136) (i := 0) dX4_comes_136 rfl (sn_iload_n (pc := 137) (i := 1) dX4_comes_137 rfl (sn_iconst (pc := 138) (v := 3) dX4_comes_138 rfl (sn_iadd (pc := 139) dX4_comes_139 (sn_callV (pc := 140) (N := M_T_digitAt) dX4_comes_140 (cal_T_digitAt G) sh_35 rfl tw_289 tw_291 tp_4 tw_9 tw_292 dsc_X4_digitAt rfl (sn_callV (pc := 143) (N := M_H_addChild) dX4_comes_143 (cal_H_addChild_37 G) sh_37 rfl tw_376 tw_377 tw_378 tw_2 tw_379 dsc_X3_addChild rfl (sn_retz (pc := 146) (R := fun x τ => (some ((x, τ)))) dX4_comes_146 rfl (fun _ _ _ _ e h => by cases e; exact h)))))))))))) (am_all_cons (sn_aload_n (pc := 120) (i := 0) dX4_comes_120 rfl (sn_iload_n (pc := 121) (i := 3) dX4_comes_121 rfl (sn_iload (pc := 122) dX4_comes_122 (sn_aload_n (pc := 124) (i := 2) dX4_comes_124 rfl (sn_callV (pc := 125) (N := M_T_turnsDoor) dX4_comes_125 (cal_T_turnsDoor G) sh_35 rfl tw_319 tw_321 tp_7 tw_9 tw_322 dsc_X4_turnsDoor rfl (sn_retz (pc := 128) (R := fun x τ => (some ((x, τ)))) dX4_comes_128 rfl (fun _ _ _ _ e h => by cases e; exact h))))))) (am_all_cons (sn_iconst (pc := 171) (v := 0) dX4_comes_171 rfl (sn_retz (pc := 172) (R := fun x τ => (some ((x, τ)))) dX4_comes_172 rfl (fun _ _ _ _ e h => by cases e; exact h))) (am_all_cons (sn_aload_n (pc := 164) (i := 0) dX4_comes_164 rfl (sn_iload_n (pc := 165) (i := 1) dX4_comes_165 rfl (sn_aload_n (pc := 166) (i := 2) dX4_comes_166 rfl (sn_callV (pc := 167) (N := M_T_knows) dX4_comes_167 (cal_T_knows G) sh_35 rfl tw_407 tw_409 tp_14 tw_9 tw_410 dsc_X4_knows rfl (sn_retz (pc := 170) (R := fun x τ => (some ((x, τ)))) dX4_comes_170 rfl (fun _ _ _ _ e h => by cases e; exact h)))))) (am_all_cons (sn_iconst (pc := 171) (v := 0) dX4_comes_171 rfl (sn_retz (pc := 172) (R := fun x τ => (some ((x, τ)))) dX4_comes_172 rfl (fun _ _ _ _ e h => by cases e; exact h))) (am_all_cons (sn_iconst (pc := 171) (v := 0) dX4_comes_171 rfl (sn_retz (pc := 172) (R := fun x τ => (some ((x, τ)))) dX4_comes_172 rfl (fun _ _ _ _ e h => by cases e; exact h))) (am_all_cons (sn_iconst (pc := 171) (v := 0) dX4_comes_171 rfl (sn_retz (pc := 172) (R := fun x τ => (some ((x, τ)))) dX4_comes_172 rfl (fun _ _ _ _ e h => by cases e; exact h))) (am_all_cons (sn_iconst (pc := 171) (v := 0) dX4_comes_171 rfl (sn_retz (pc := 172) (R := fun x τ => (some ((x, τ)))) dX4_comes_172 rfl (fun _ _ _ _ e h => by cases e; exact h))) (am_all_cons (sn_iconst (pc := 171) (v := 0) dX4_comes_171 rfl (sn_retz (pc := 172) (R := fun x τ => (some ((x, τ)))) dX4_comes_172 rfl (fun _ _ _ _ e h => by cases e; exact h))) (am_all_cons (sn_iconst (pc := 171) (v := 0) dX4_comes_171 rfl (sn_retz (pc := 172) (R := fun x τ => (some ((x, τ)))) dX4_comes_172 rfl (fun _ _ _ _ e h => by cases e; exact h))) (am_all_cons (sn_iconst (pc := 171) (v := 0) dX4_comes_171 rfl (sn_retz (pc := 172) (R := fun x τ => (some ((x, τ)))) dX4_comes_172 rfl (fun _ _ _ _ e h => by cases e; exact h))) (am_all_cons (sn_iconst (pc := 171) (v := 0) dX4_comes_171 rfl (sn_retz (pc := 172) (R := fun x τ => (some ((x, τ)))) dX4_comes_172 rfl (fun _ _ _ _ e h => by cases e; exact h))) (am_all_cons (sn_iconst (pc := 171) (v := 0) dX4_comes_171 rfl (sn_retz (pc := 172) (R := fun x τ => (some ((x, τ)))) dX4_comes_172 rfl (fun _ _ _ _ e h => by cases e; exact h))) (am_all_cons (sn_iconst (pc := 171) (v := 0) dX4_comes_171 rfl (sn_retz (pc := 172) (R := fun x τ => (some ((x, τ)))) dX4_comes_172 rfl (fun _ _ _ _ e h => by cases e; exact h))) (am_all_cons (sn_iconst (pc := 171) (v := 0) dX4_comes_171 rfl (sn_retz (pc := 172) (R := fun x τ => (some ((x, τ)))) dX4_comes_172 rfl (fun _ _ _ _ e h => by cases e; exact h))) (am_all_cons (sn_aload_n (pc := 112) (i := 0) dX4_comes_112 rfl (sn_iload_n (pc := 113) (i := 3) dX4_comes_113 rfl (sn_iload (pc := 114) dX4_comes_114 (sn_callV (pc := 116) (N := M_T_builds) dX4_comes_116 (cal_T_builds G) sh_35 rfl tw_307 tw_309 tp_6 tw_9 tw_310 dsc_X4_builds rfl (sn_retz (pc := 119) (R := fun x τ => (some ((x, τ)))) dX4_comes_119 rfl (fun _ _ _ _ e h => by cases e; exact h)))))) (am_all_cons (sn_iconst (pc := 171) (v := 0) dX4_comes_171 rfl (sn_retz (pc := 172) (R := fun x τ => (some ((x, τ)))) dX4_comes_172 rfl (fun _ _ _ _ e h => by cases e; exact h))) (am_all_cons (sn_aload_n (pc := 147) (i := 0) dX4_comes_147 rfl (sn_iload_n (pc := 148) (i := 3) dX4_comes_148 rfl (sn_iload_n (pc := 149) (i := 1) dX4_comes_149 rfl (sn_iconst (pc := 150) (v := 2) dX4_comes_150 rfl (sn_iadd (pc := 151) dX4_comes_151 (sn_callV (pc := 152) (N := M_T_goes) dX4_comes_152 (cal_T_goes G) sh_35 rfl tw_380 tw_382 tp_12 tw_9 tw_383 dsc_X4_goes rfl (sn_retz (pc := 155) (R := fun x τ => (some ((x, τ)))) dX4_comes_155 rfl (fun _ _ _ _ e h => by cases e; exact h)))))))) am_all_nil)))))))))))))))))))))))) _ _ _ _ _ ((eq_T_comes_17 x1 x3 x4 σ).symm.trans e) hr
noncomputable def g_T_comes (x1 : Int32) (σ : am_St) : Option (Int32 × am_St) :=
  (f_T_digitAt (x1 + 1) σ).bind (fun p1 =>
    (f_T_digitAt (x1 + 2) p1.2).bind (fun p2 =>
      f_T_comes_17 x1 p1.1 p2.1 p2.2))
noncomputable def f_T_comes (x1 : Int32) (σ : am_St) : Option (Int32 × am_St) := am_lk (g_T_comes x1 σ)
theorem eq_T_comes (x1 : Int32) (σ : am_St) : f_T_comes x1 σ = g_T_comes x1 σ := am_lk_eq _
set_option maxRecDepth 100000 in
set_option maxHeartbeats 4000000 in
theorem s_T_comes (G : am_G) (x1 : Int32) (σ : am_St) (r : Int32 × am_St) (Q : am_AQ) (e : f_T_comes x1 σ = some r) (hr : am_Pi r Q) : am_AW G M_T_comes 0 [(0, .ref 35), (1, .int x1), (2, .ref 54)] [] σ Q :=
  (show am_Snd G M_T_comes 0 am_Pi _ from (sn_aload_n (pc := 0) (i := 0) dX4_comes_0 rfl (sn_iload_n (pc := 1) (i := 1) dX4_comes_1 rfl (sn_iconst (pc := 2) (v := 1) dX4_comes_2 rfl (sn_iadd (pc := 3) dX4_comes_3 (sn_callV (pc := 4) (N := M_T_digitAt) dX4_comes_4 (cal_T_digitAt G) sh_35 rfl tw_289 tw_291 tp_4 tw_9 tw_292 dsc_X4_digitAt rfl (sn_istore_n (pc := 7) (i := 3) dX4_comes_7 rfl (Nat.le_of_ble_eq_true rfl) (sn_aload_n (pc := 8) (i := 0) dX4_comes_8 rfl (sn_iload_n (pc := 9) (i := 1) dX4_comes_9 rfl (sn_iconst (pc := 10) (v := 2) dX4_comes_10 rfl (sn_iadd (pc := 11) dX4_comes_11 (sn_callV (pc := 12) (N := M_T_digitAt) dX4_comes_12 (cal_T_digitAt G) sh_35 rfl tw_289 tw_291 tp_4 tw_9 tw_292 dsc_X4_digitAt rfl (sn_istore (pc := 15) dX4_comes_15 (Nat.le_of_ble_eq_true rfl) (sn_lf (pc := 17) (ln_a (i := 0) (q := 35) (ln_i (i := 1) (fun z0 => (ln_a (i := 2) (q := 54) (ln_i (i := 3) (fun z1 => (ln_i (i := 4) (fun z2 => (ln_end (o := fun τ => f_T_comes_17 z0 z1 z2 τ) (fun _ _ _ e h => s_T_comes_17 G z0 z1 z2 _ _ _ e h)))))))))))))))))))))))) _ _ _ _ _ ((eq_T_comes x1 σ).symm.trans e) hr
noncomputable def cF_T_comes : am_Fn := fun _ args σ K => match args with
  | [.ref q0, .int z1, .ref q2] => match Nat.beq q0 35, Nat.beq q2 54 with
    | true, true => (f_T_comes z1 σ).bind (fun p => K (some (.int p.1)) p.2)
    | _, _ => none
  | _ => none
theorem cal_T_comes (G : am_G) : am_Cal G M_T_comes cF_T_comes := by
  intro ρ args σ K r e
  unfold cF_T_comes at e
  split at e
  · split at e
    · rename_i hq0 hq2
      obtain ⟨p, h1, h2⟩ := am_bind_some e
      rw [Nat.eq_of_beq_eq_true hq0]
      rw [Nat.eq_of_beq_eq_true hq2]
      exact ⟨some (.int p.1), p.2, am_Met.of rfl (Nat.le_of_ble_eq_true rfl) (s_T_comes G _ σ p _ h1 ⟨rfl, rfl⟩), h2⟩
    · cases e
  · cases e
abbrev M_T_readOnto : am_MD := (yX4_readOnto, cX4_readOnto, 7, (some .int), 5, 126)
theorem dX4_readOnto_0 : decode cX4_readOnto 0 = .ok (.aload_n 0, 1) := by decide +kernel
theorem dX4_readOnto_1 : decode cX4_readOnto 1 = .ok (.aload_n 1, 1) := by decide +kernel
theorem dX4_readOnto_2 : decode cX4_readOnto 2 = .ok (.getfield 26, 3) := by decide +kernel
theorem dX4_readOnto_5 : decode cX4_readOnto 5 = .ok (.invokevirtual 29, 3) := by decide +kernel
theorem dX4_readOnto_8 : decode cX4_readOnto 8 = .ok (.istore_n 3, 1) := by decide +kernel
theorem dX4_readOnto_9 : decode cX4_readOnto 9 = .ok (.iload_n 3, 1) := by decide +kernel
theorem dX4_readOnto_10 : decode cX4_readOnto 10 = .ok (.ifCond .lt 9, 3) := by decide +kernel
theorem dX4_readOnto_13 : decode cX4_readOnto 13 = .ok (.sipush (-1000), 3) := by decide +kernel
theorem dX4_readOnto_16 : decode cX4_readOnto 16 = .ok (.iload_n 3, 1) := by decide +kernel
theorem dX4_readOnto_17 : decode cX4_readOnto 17 = .ok (.isub, 1) := by decide +kernel
theorem dX4_readOnto_18 : decode cX4_readOnto 18 = .ok (.ireturn, 1) := by decide +kernel
theorem dX4_readOnto_19 : decode cX4_readOnto 19 = .ok (.aload_n 0, 1) := by decide +kernel
theorem dX4_readOnto_20 : decode cX4_readOnto 20 = .ok (.getfield 22, 3) := by decide +kernel
theorem dX4_readOnto_23 : decode cX4_readOnto 23 = .ok (.aload_n 1, 1) := by decide +kernel
theorem dX4_readOnto_24 : decode cX4_readOnto 24 = .ok (.invokevirtual 33, 3) := by decide +kernel
theorem dX4_readOnto_27 : decode cX4_readOnto 27 = .ok (.aload_n 0, 1) := by decide +kernel
theorem dX4_readOnto_28 : decode cX4_readOnto 28 = .ok (.getfield 22, 3) := by decide +kernel
theorem dX4_readOnto_31 : decode cX4_readOnto 31 = .ok (.iconst 0, 1) := by decide +kernel
theorem dX4_readOnto_32 : decode cX4_readOnto 32 = .ok (.putfield 37, 3) := by decide +kernel
theorem dX4_readOnto_35 : decode cX4_readOnto 35 = .ok (.iconst 0, 1) := by decide +kernel
theorem dX4_readOnto_36 : decode cX4_readOnto 36 = .ok (.istore 4, 2) := by decide +kernel
theorem dX4_readOnto_38 : decode cX4_readOnto 38 = .ok (.iconst 0, 1) := by decide +kernel
theorem dX4_readOnto_39 : decode cX4_readOnto 39 = .ok (.istore 5, 2) := by decide +kernel
theorem dX4_readOnto_41 : decode cX4_readOnto 41 = .ok (.iconst 0, 1) := by decide +kernel
theorem dX4_readOnto_42 : decode cX4_readOnto 42 = .ok (.istore 6, 2) := by decide +kernel
theorem dX4_readOnto_44 : decode cX4_readOnto 44 = .ok (.iload 6, 2) := by decide +kernel
theorem dX4_readOnto_46 : decode cX4_readOnto 46 = .ok (.aload_n 0, 1) := by decide +kernel
theorem dX4_readOnto_47 : decode cX4_readOnto 47 = .ok (.getfield 15, 3) := by decide +kernel
theorem dX4_readOnto_50 : decode cX4_readOnto 50 = .ok (.if_icmp .ge 47, 3) := by decide +kernel
theorem dX4_readOnto_53 : decode cX4_readOnto 53 = .ok (.aload_n 0, 1) := by decide +kernel
theorem dX4_readOnto_54 : decode cX4_readOnto 54 = .ok (.getfield 9, 3) := by decide +kernel
theorem dX4_readOnto_57 : decode cX4_readOnto 57 = .ok (.iload 6, 2) := by decide +kernel
theorem dX4_readOnto_59 : decode cX4_readOnto 59 = .ok (.iaload, 1) := by decide +kernel
theorem dX4_readOnto_60 : decode cX4_readOnto 60 = .ok (.bipush 59, 2) := by decide +kernel
theorem dX4_readOnto_62 : decode cX4_readOnto 62 = .ok (.if_icmp .ne 29, 3) := by decide +kernel
theorem dX4_readOnto_65 : decode cX4_readOnto 65 = .ok (.aload_n 0, 1) := by decide +kernel
theorem dX4_readOnto_66 : decode cX4_readOnto 66 = .ok (.iload 4, 2) := by decide +kernel
theorem dX4_readOnto_68 : decode cX4_readOnto 68 = .ok (.aload_n 2, 1) := by decide +kernel
theorem dX4_readOnto_69 : decode cX4_readOnto 69 = .ok (.invokevirtual 40, 3) := by decide +kernel
theorem dX4_readOnto_72 : decode cX4_readOnto 72 = .ok (.ifCond .ne 10, 3) := by decide +kernel
theorem dX4_readOnto_75 : decode cX4_readOnto 75 = .ok (.sipush (-2000), 3) := by decide +kernel
theorem dX4_readOnto_78 : decode cX4_readOnto 78 = .ok (.iload 4, 2) := by decide +kernel
theorem dX4_readOnto_80 : decode cX4_readOnto 80 = .ok (.isub, 1) := by decide +kernel
theorem dX4_readOnto_81 : decode cX4_readOnto 81 = .ok (.ireturn, 1) := by decide +kernel
theorem dX4_readOnto_82 : decode cX4_readOnto 82 = .ok (.iload 6, 2) := by decide +kernel
theorem dX4_readOnto_84 : decode cX4_readOnto 84 = .ok (.iconst 1, 1) := by decide +kernel
theorem dX4_readOnto_85 : decode cX4_readOnto 85 = .ok (.iadd, 1) := by decide +kernel
theorem dX4_readOnto_86 : decode cX4_readOnto 86 = .ok (.istore 4, 2) := by decide +kernel
theorem dX4_readOnto_88 : decode cX4_readOnto 88 = .ok (.iinc 5 1, 3) := by decide +kernel
theorem dX4_readOnto_91 : decode cX4_readOnto 91 = .ok (.iinc 6 1, 3) := by decide +kernel
theorem dX4_readOnto_94 : decode cX4_readOnto 94 = .ok (.goto (-50), 3) := by decide +kernel
theorem dX4_readOnto_97 : decode cX4_readOnto 97 = .ok (.iload 5, 2) := by decide +kernel
theorem dX4_readOnto_99 : decode cX4_readOnto 99 = .ok (.ireturn, 1) := by decide +kernel
abbrev Pl_T_readOnto_1_44 (G : am_G) : ((Int32 × Int32 × Int32 × am_St) ⊕ (Int32 × am_St)) → am_AQ → Prop := am_PL G M_T_readOnto 44 (fun s : Int32 × Int32 × Int32 × am_St => [(6, .int s.2.2.1), (5, .int s.2.1), (4, .int s.1), (2, .ref 54), (0, .ref 35)]) (fun s => s.2.2.2) am_Pi
noncomputable def g_T_readOnto_1_91 (x4 : Int32) (x5 : Int32) (x6 : Int32) (σ : am_St) : Option ((Int32 × Int32 × Int32 × am_St) ⊕ (Int32 × am_St)) :=
  let v1 := x6 + 1
  some (.inl (x4, x5, v1, σ))
noncomputable def f_T_readOnto_1_91 (x4 : Int32) (x5 : Int32) (x6 : Int32) (σ : am_St) : Option ((Int32 × Int32 × Int32 × am_St) ⊕ (Int32 × am_St)) := am_lk (g_T_readOnto_1_91 x4 x5 x6 σ)
theorem eq_T_readOnto_1_91 (x4 : Int32) (x5 : Int32) (x6 : Int32) (σ : am_St) : f_T_readOnto_1_91 x4 x5 x6 σ = g_T_readOnto_1_91 x4 x5 x6 σ := am_lk_eq _
set_option maxRecDepth 100000 in
set_option maxHeartbeats 4000000 in
theorem s_T_readOnto_1_91 (G : am_G) (x4 : Int32) (x5 : Int32) (x6 : Int32) (σ : am_St) (r : (Int32 × Int32 × Int32 × am_St) ⊕ (Int32 × am_St)) (Q : am_AQ) (e : f_T_readOnto_1_91 x4 x5 x6 σ = some r) (hr : (Pl_T_readOnto_1_44 G) r Q) : am_AW G M_T_readOnto 91 [(6, .int x6), (5, .int x5), (4, .int x4), (2, .ref 54), (0, .ref 35)] [] σ Q :=
  (show am_Snd G M_T_readOnto 91 (Pl_T_readOnto_1_44 G) _ from (sn_iinc (pc := 91) (v := 1) dX4_readOnto_91 rfl (Nat.le_of_ble_eq_true rfl) (sn_goto (pc := 94) (tgt := 44) dX4_readOnto_94 rfl (sn_lf (pc := 44) (ln_a (i := 0) (q := 35) (ln_a (i := 2) (q := 54) (ln_i (i := 4) (fun z0 => (ln_i (i := 5) (fun z1 => (ln_i (i := 6) (fun z2 => (ln_end (o := fun τ => (some (.inl (z0, z1, z2, τ)) : Option ((Int32 × Int32 × Int32 × am_St) ⊕ (Int32 × am_St)))) (fun _ _ _ e h => by cases e; exact h)))))))))))))) _ _ _ _ _ ((eq_T_readOnto_1_91 x4 x5 x6 σ).symm.trans e) hr
noncomputable def b_T_readOnto_1_44 (x4 : Int32) (x5 : Int32) (x6 : Int32) (σ : am_St) : Option ((Int32 × Int32 × Int32 × am_St) ⊕ (Int32 × am_St)) :=
  if (σ.1 35 1) ≤ x6 then
    some (.inr ((x5, σ)))
  else
    if am_ix x6 96 = true then
      if (σ.1 36 x6.toNatClampNeg) = 59 then
        (f_T_comes x4 σ).bind (fun p1 =>
          if p1.1 = 0 then
            some (.inr (((-2000) - x4, p1.2)))
          else
            let v2 := x6 + 1
            let v3 := x5 + 1
            f_T_readOnto_1_91 v2 v3 x6 p1.2)
      else
        f_T_readOnto_1_91 x4 x5 x6 σ
    else none
noncomputable def f_T_readOnto_1_44 (x4 : Int32) (x5 : Int32) (x6 : Int32) (σ : am_St) : Option (Int32 × am_St) := am_lp (fun s : Int32 × Int32 × Int32 × am_St => b_T_readOnto_1_44 s.1 s.2.1 s.2.2.1 s.2.2.2) (x4, x5, x6, σ)
set_option maxRecDepth 100000 in
set_option maxHeartbeats 4000000 in
theorem sb_T_readOnto_1_44 (G : am_G) (x4 : Int32) (x5 : Int32) (x6 : Int32) (σ : am_St) (r : (Int32 × Int32 × Int32 × am_St) ⊕ (Int32 × am_St)) (Q : am_AQ) (e : b_T_readOnto_1_44 x4 x5 x6 σ = some r) (hr : Pl_T_readOnto_1_44 G r Q) : am_AW G M_T_readOnto 44 [(6, .int x6), (5, .int x5), (4, .int x4), (2, .ref 54), (0, .ref 35)] [] σ Q :=
  (show am_Snd G M_T_readOnto 44 (Pl_T_readOnto_1_44 G) _ from (sn_iload (pc := 44) dX4_readOnto_44 (sn_aload_n (pc := 46) (i := 0) dX4_readOnto_46 rfl (sn_gI (pc := 47) (h := 35) (f := 1) dX4_readOnto_47 am_CL_4 sh_35 rfl (Nat.le_of_ble_eq_true rfl) tw_161 (sn_icmp_ge (pc := 50) (tgt := 97) dX4_readOnto_50 rfl (sn_iload (pc := 97) dX4_readOnto_97 (sn_reti (pc := 99) (R := fun x τ => (some (.inr ((x, τ))) : Option ((Int32 × Int32 × Int32 × am_St) ⊕ (Int32 × am_St)))) dX4_readOnto_99 rfl (fun _ _ _ _ e h => by cases e; exact h))) (sn_aload_n (pc := 53) (i := 0) dX4_readOnto_53 rfl (sn_gR (r0 := 36) (pc := 54) (h := 35) (f := 0) dX4_readOnto_54 am_CL_4 sh_35 rfl (Nat.le_of_ble_eq_true rfl) tw_160 (sn_iload (pc := 57) dX4_readOnto_57 (sn_aI (pc := 59) (h := 36) dX4_readOnto_59 sh_36 (sn_bipush (pc := 60) (v := 59) dX4_readOnto_60 rfl (sn_icmp_ne (pc := 62) (tgt := 91) dX4_readOnto_62 rfl (sn_lf (pc := 91) (ln_a (i := 0) (q := 35) (ln_a (i := 2) (q := 54) (ln_i (i := 4) (fun z0 => (ln_i (i := 5) (fun z1 => (ln_i (i := 6) (fun z2 => (ln_end (o := fun τ => f_T_readOnto_1_91 z0 z1 z2 τ) (fun _ _ _ e h => s_T_readOnto_1_91 G z0 z1 z2 _ _ _ e h))))))))))) (sn_aload_n (pc := 65) (i := 0) dX4_readOnto_65 rfl (sn_iload (pc := 66) dX4_readOnto_66 (sn_aload_n (pc := 68) (i := 2) dX4_readOnto_68 rfl (sn_callV (pc := 69) (N := M_T_comes) dX4_readOnto_69 (cal_T_comes G) sh_35 rfl tw_303 tw_305 tp_5 tw_9 tw_306 dsc_X4_comes rfl (sn_if_ne (pc := 72) (tgt := 82) dX4_readOnto_72 rfl (sn_iload (pc := 82) dX4_readOnto_82 (sn_iconst (pc := 84) (v := 1) dX4_readOnto_84 rfl (sn_iadd (pc := 85) dX4_readOnto_85 (sn_istore (pc := 86) dX4_readOnto_86 (Nat.le_of_ble_eq_true rfl) (sn_iinc (pc := 88) (v := 1) dX4_readOnto_88 rfl (Nat.le_of_ble_eq_true rfl) (sn_lf (pc := 91) (ln_a (i := 0) (q := 35) (ln_a (i := 2) (q := 54) (ln_i (i := 4) (fun z0 => (ln_i (i := 5) (fun z1 => (ln_i (i := 6) (fun z2 => (ln_end (o := fun τ => f_T_readOnto_1_91 z0 z1 z2 τ) (fun _ _ _ e h => s_T_readOnto_1_91 G z0 z1 z2 _ _ _ e h)))))))))))))))) (sn_sipush (pc := 75) (v := (-2000)) dX4_readOnto_75 (show (Int16.ofInt (-2000)).toInt32 = (-2000) by decide) (sn_iload (pc := 78) dX4_readOnto_78 (sn_isub (pc := 80) dX4_readOnto_80 (sn_reti (pc := 81) (R := fun x τ => (some (.inr ((x, τ))) : Option ((Int32 × Int32 × Int32 × am_St) ⊕ (Int32 × am_St)))) dX4_readOnto_81 rfl (fun _ _ _ _ e h => by cases e; exact h))))))))))))))))))))) _ _ _ _ _ e hr
theorem s_T_readOnto_1_44 (G : am_G) (x4 : Int32) (x5 : Int32) (x6 : Int32) (σ : am_St) (r : Int32 × am_St) (Q : am_AQ) (e : f_T_readOnto_1_44 x4 x5 x6 σ = some r) (hr : am_Pi r Q) : am_AW G M_T_readOnto 44 [(6, .int x6), (5, .int x5), (4, .int x4), (2, .ref 54), (0, .ref 35)] [] σ Q :=
  am_loop (P := am_Pi) (L := fun s : Int32 × Int32 × Int32 × am_St => [(6, .int s.2.2.1), (5, .int s.2.1), (4, .int s.1), (2, .ref 54), (0, .ref 35)]) (g := fun s => s.2.2.2) (fun s o Q e hr => sb_T_readOnto_1_44 G s.1 s.2.1 s.2.2.1 s.2.2.2 o Q e hr) (x4, x5, x6, σ) r Q e hr
noncomputable def g_T_readOnto_1_35 (σ : am_St) : Option (Int32 × am_St) :=
  f_T_readOnto_1_44 0 0 0 σ
noncomputable def f_T_readOnto_1_35 (σ : am_St) : Option (Int32 × am_St) := am_lk (g_T_readOnto_1_35  σ)
theorem eq_T_readOnto_1_35 (σ : am_St) : f_T_readOnto_1_35  σ = g_T_readOnto_1_35  σ := am_lk_eq _
set_option maxRecDepth 100000 in
set_option maxHeartbeats 4000000 in
theorem s_T_readOnto_1_35 (G : am_G) (σ : am_St) (r : Int32 × am_St) (Q : am_AQ) (e : f_T_readOnto_1_35  σ = some r) (hr : am_Pi r Q) : am_AW G M_T_readOnto 35 [(2, .ref 54), (0, .ref 35)] [] σ Q :=
  (show am_Snd G M_T_readOnto 35 am_Pi _ from (sn_iconst (pc := 35) (v := 0) dX4_readOnto_35 rfl (sn_istore (pc := 36) dX4_readOnto_36 (Nat.le_of_ble_eq_true rfl) (sn_iconst (pc := 38) (v := 0) dX4_readOnto_38 rfl (sn_istore (pc := 39) dX4_readOnto_39 (Nat.le_of_ble_eq_true rfl) (sn_iconst (pc := 41) (v := 0) dX4_readOnto_41 rfl (sn_istore (pc := 42) dX4_readOnto_42 (Nat.le_of_ble_eq_true rfl) (sn_lf (pc := 44) (ln_a (i := 0) (q := 35) (ln_a (i := 2) (q := 54) (ln_i (i := 4) (fun z0 => (ln_i (i := 5) (fun z1 => (ln_i (i := 6) (fun z2 => (ln_end (o := fun τ => f_T_readOnto_1_44 z0 z1 z2 τ) (fun _ _ _ e h => s_T_readOnto_1_44 G z0 z1 z2 _ _ _ e h)))))))))))))))))) _ _ _ _ _ ((eq_T_readOnto_1_35  σ).symm.trans e) hr
noncomputable def g_T_readOnto_1 (σ : am_St) : Option (Int32 × am_St) :=
  (f_T_firstWrongLetter (σ.1 1 1) σ).bind (fun p1 =>
    if p1.1 < 0 then
      (f_H_copyFrom_37_1 p1.2).bind (fun p2 =>
        let s3 := am_sI p2 37 6 0
        f_T_readOnto_1_35 s3)
    else
      some (((-1000) - p1.1, p1.2)))
noncomputable def f_T_readOnto_1 (σ : am_St) : Option (Int32 × am_St) := am_lk (g_T_readOnto_1  σ)
theorem eq_T_readOnto_1 (σ : am_St) : f_T_readOnto_1  σ = g_T_readOnto_1  σ := am_lk_eq _
set_option maxRecDepth 100000 in
set_option maxHeartbeats 4000000 in
theorem s_T_readOnto_1 (G : am_G) (σ : am_St) (r : Int32 × am_St) (Q : am_AQ) (e : f_T_readOnto_1  σ = some r) (hr : am_Pi r Q) : am_AW G M_T_readOnto 0 [(0, .ref 35), (1, .ref 1), (2, .ref 54)] [] σ Q :=
  (show am_Snd G M_T_readOnto 0 am_Pi _ from (sn_aload_n (pc := 0) (i := 0) dX4_readOnto_0 rfl (sn_aload_n (pc := 1) (i := 1) dX4_readOnto_1 rfl (sn_gI (pc := 2) (h := 1) (f := 1) dX4_readOnto_2 am_CL_3 sh_1 rfl (Nat.le_of_ble_eq_true rfl) tw_81 (sn_callV (pc := 5) (N := M_T_firstWrongLetter) dX4_readOnto_5 (cal_T_firstWrongLetter G) sh_35 rfl tw_271 tw_273 tp_1 tw_9 tw_274 dsc_X4_firstWrongLetter rfl (sn_istore_n (pc := 8) (i := 3) dX4_readOnto_8 rfl (Nat.le_of_ble_eq_true rfl) (sn_iload_n (pc := 9) (i := 3) dX4_readOnto_9 rfl (sn_if_lt (pc := 10) (tgt := 19) dX4_readOnto_10 rfl (sn_aload_n (pc := 19) (i := 0) dX4_readOnto_19 rfl (sn_gR (r0 := 37) (pc := 20) (h := 35) (f := 2) dX4_readOnto_20 am_CL_4 sh_35 rfl (Nat.le_of_ble_eq_true rfl) tw_162 (sn_aload_n (pc := 23) (i := 1) dX4_readOnto_23 rfl (sn_callV (pc := 24) (N := M_H_copyFrom) dX4_readOnto_24 (cal_H_copyFrom_37_1 G) sh_37 rfl tw_296 tw_297 tw_298 tw_2 tw_299 dsc_X3_copyFrom rfl (sn_aload_n (pc := 27) (i := 0) dX4_readOnto_27 rfl (sn_gR (r0 := 37) (pc := 28) (h := 35) (f := 2) dX4_readOnto_28 am_CL_4 sh_35 rfl (Nat.le_of_ble_eq_true rfl) tw_162 (sn_iconst (pc := 31) (v := 0) dX4_readOnto_31 rfl (sn_pI (pc := 32) (h := 37) (f := 6) dX4_readOnto_32 am_CL_3 sh_37 rfl (Nat.le_of_ble_eq_true rfl) tw_105 rfl rfl (sn_lf (pc := 35) (ln_a (i := 0) (q := 35) (ln_a (i := 2) (q := 54) (ln_end (o := fun τ => f_T_readOnto_1_35 τ) (fun _ _ _ e h => s_T_readOnto_1_35 G  _ _ _ e h))))))))))))) (sn_sipush (pc := 13) (v := (-1000)) dX4_readOnto_13 (show (Int16.ofInt (-1000)).toInt32 = (-1000) by decide) (sn_iload_n (pc := 16) (i := 3) dX4_readOnto_16 rfl (sn_isub (pc := 17) dX4_readOnto_17 (sn_reti (pc := 18) (R := fun x τ => (some ((x, τ)))) dX4_readOnto_18 rfl (fun _ _ _ _ e h => by cases e; exact h))))))))))))) _ _ _ _ _ ((eq_T_readOnto_1  σ).symm.trans e) hr
noncomputable def cF_T_readOnto_1 : am_Fn := fun _ args σ K => match args with
  | [.ref q0, .ref q1, .ref q2] => match Nat.beq q0 35, Nat.beq q1 1, Nat.beq q2 54 with
    | true, true, true => (f_T_readOnto_1 σ).bind (fun p => K (some (.int p.1)) p.2)
    | _, _, _ => none
  | _ => none
theorem cal_T_readOnto_1 (G : am_G) : am_Cal G M_T_readOnto cF_T_readOnto_1 := by
  intro ρ args σ K r e
  unfold cF_T_readOnto_1 at e
  split at e
  · split at e
    · rename_i hq0 hq1 hq2
      obtain ⟨p, h1, h2⟩ := am_bind_some e
      rw [Nat.eq_of_beq_eq_true hq0]
      rw [Nat.eq_of_beq_eq_true hq1]
      rw [Nat.eq_of_beq_eq_true hq2]
      exact ⟨some (.int p.1), p.2, am_Met.of rfl (Nat.le_of_ble_eq_true rfl) (s_T_readOnto_1 G  σ p _ h1 ⟨rfl, rfl⟩), h2⟩
    · cases e
  · cases e
abbrev M_T_read : am_MD := (yX4_read, cX4_read, 1, (some (.object "ItWasLikeThat$House")), 0, 0)
theorem dX4_read_0 : decode cX4_read 0 = .ok (.aload_n 0, 1) := by decide +kernel
theorem dX4_read_1 : decode cX4_read 1 = .ok (.getfield 22, 3) := by decide +kernel
theorem dX4_read_4 : decode cX4_read 4 = .ok (.areturn, 1) := by decide +kernel
noncomputable def g_T_read (σ : am_St) : Option (Nat × am_St) :=
  some ((37, σ))
noncomputable def f_T_read (σ : am_St) : Option (Nat × am_St) := am_lk (g_T_read  σ)
theorem eq_T_read (σ : am_St) : f_T_read  σ = g_T_read  σ := am_lk_eq _
set_option maxRecDepth 100000 in
set_option maxHeartbeats 4000000 in
theorem s_T_read (G : am_G) (σ : am_St) (r : Nat × am_St) (Q : am_AQ) (e : f_T_read  σ = some r) (hr : am_Pa r Q) : am_AW G M_T_read 0 [(0, .ref 35)] [] σ Q :=
  (show am_Snd G M_T_read 0 am_Pa _ from (sn_aload_n (pc := 0) (i := 0) dX4_read_0 rfl (sn_gR (r0 := 37) (pc := 1) (h := 35) (f := 2) dX4_read_1 am_CL_4 sh_35 rfl (Nat.le_of_ble_eq_true rfl) tw_162 (sn_reta (pc := 4) (R := fun x τ => (some ((x, τ)))) dX4_read_4 rfl (fun _ _ _ _ e h => by cases e; exact h))))) _ _ _ _ _ ((eq_T_read  σ).symm.trans e) hr
noncomputable def cF_T_read : am_Fn := fun _ args σ K => match args with
  | [.ref q0] => match Nat.beq q0 35 with
    | true => (f_T_read σ).bind (fun p => K (some (.ref p.1)) p.2)
    | _ => none
  | _ => none
theorem cal_T_read (G : am_G) : am_Cal G M_T_read cF_T_read := by
  intro ρ args σ K r e
  unfold cF_T_read at e
  split at e
  · split at e
    · rename_i hq0
      obtain ⟨p, h1, h2⟩ := am_bind_some e
      rw [Nat.eq_of_beq_eq_true hq0]
      exact ⟨some (.ref p.1), p.2, am_Met.of rfl (Nat.le_of_ble_eq_true rfl) (s_T_read G  σ p _ h1 ⟨rfl, rfl⟩), h2⟩
    · cases e
  · cases e
noncomputable def g_H_copyFrom_1_37_175 (σ : am_St) : Option (am_St) :=
  let s1 := am_rI σ 10 (va_cpy (σ.1 46) (σ.1 10) 0 0 8)
  some (s1)
noncomputable def f_H_copyFrom_1_37_175 (σ : am_St) : Option (am_St) := am_lk (g_H_copyFrom_1_37_175  σ)
theorem eq_H_copyFrom_1_37_175 (σ : am_St) : f_H_copyFrom_1_37_175  σ = g_H_copyFrom_1_37_175  σ := am_lk_eq _
set_option maxRecDepth 100000 in
set_option maxHeartbeats 4000000 in
theorem s_H_copyFrom_1_37_175 (G : am_G) (σ : am_St) (r : am_St) (Q : am_AQ) (e : f_H_copyFrom_1_37_175  σ = some r) (hr : am_Pv r Q) : am_AW G M_H_copyFrom 175 [(1, .ref 37), (0, .ref 1)] [] σ Q :=
  (show am_Snd G M_H_copyFrom 175 am_Pv _ from (sn_aload_n (pc := 175) (i := 1) dX3_copyFrom_175 rfl (sn_gR (r0 := 46) (pc := 176) (h := 37) (f := 15) dX3_copyFrom_176 am_CL_3 sh_37 rfl (Nat.le_of_ble_eq_true rfl) tw_115 (sn_iconst (pc := 179) (v := 0) dX3_copyFrom_179 rfl (sn_aload_n (pc := 180) (i := 0) dX3_copyFrom_180 rfl (sn_gR (r0 := 10) (pc := 181) (h := 1) (f := 15) dX3_copyFrom_181 am_CL_3 sh_1 rfl (Nat.le_of_ble_eq_true rfl) tw_115 (sn_iconst (pc := 184) (v := 0) dX3_copyFrom_184 rfl (sn_bipush (pc := 185) (v := 8) dX3_copyFrom_185 rfl (sn_cpy (pc := 187) (src := 46) (dst := 10) (n := 8) (v := 8) dX3_copyFrom_187 sh_46 sh_10 tw_300 tw_302 tw_301 tw_13 (by decide) (by decide) (sn_retv (pc := 190) (R := fun τ => (some (τ))) dX3_copyFrom_190 rfl (fun _ _ _ e h => by cases e; exact h))))))))))) _ _ _ _ _ ((eq_H_copyFrom_1_37_175  σ).symm.trans e) hr
noncomputable def g_H_copyFrom_1_37_146 (σ : am_St) : Option (am_St) :=
  let s1 := am_rI σ 8 (va_cpy (σ.1 44) (σ.1 8) 0 0 3)
  let s2 := am_rI s1 9 (va_cpy (s1.1 45) (s1.1 9) 0 0 16)
  f_H_copyFrom_1_37_175 s2
noncomputable def f_H_copyFrom_1_37_146 (σ : am_St) : Option (am_St) := am_lk (g_H_copyFrom_1_37_146  σ)
theorem eq_H_copyFrom_1_37_146 (σ : am_St) : f_H_copyFrom_1_37_146  σ = g_H_copyFrom_1_37_146  σ := am_lk_eq _
set_option maxRecDepth 100000 in
set_option maxHeartbeats 4000000 in
theorem s_H_copyFrom_1_37_146 (G : am_G) (σ : am_St) (r : am_St) (Q : am_AQ) (e : f_H_copyFrom_1_37_146  σ = some r) (hr : am_Pv r Q) : am_AW G M_H_copyFrom 146 [(1, .ref 37), (0, .ref 1)] [] σ Q :=
  (show am_Snd G M_H_copyFrom 146 am_Pv _ from (sn_aload_n (pc := 146) (i := 1) dX3_copyFrom_146 rfl (sn_gR (r0 := 44) (pc := 147) (h := 37) (f := 13) dX3_copyFrom_147 am_CL_3 sh_37 rfl (Nat.le_of_ble_eq_true rfl) tw_113 (sn_iconst (pc := 150) (v := 0) dX3_copyFrom_150 rfl (sn_aload_n (pc := 151) (i := 0) dX3_copyFrom_151 rfl (sn_gR (r0 := 8) (pc := 152) (h := 1) (f := 13) dX3_copyFrom_152 am_CL_3 sh_1 rfl (Nat.le_of_ble_eq_true rfl) tw_113 (sn_iconst (pc := 155) (v := 0) dX3_copyFrom_155 rfl (sn_iconst (pc := 156) (v := 3) dX3_copyFrom_156 rfl (sn_cpy (pc := 157) (src := 44) (dst := 8) (n := 3) (v := 3) dX3_copyFrom_157 sh_44 sh_8 tw_300 tw_302 tw_301 tw_13 (by decide) (by decide) (sn_aload_n (pc := 160) (i := 1) dX3_copyFrom_160 rfl (sn_gR (r0 := 45) (pc := 161) (h := 37) (f := 14) dX3_copyFrom_161 am_CL_3 sh_37 rfl (Nat.le_of_ble_eq_true rfl) tw_114 (sn_iconst (pc := 164) (v := 0) dX3_copyFrom_164 rfl (sn_aload_n (pc := 165) (i := 0) dX3_copyFrom_165 rfl (sn_gR (r0 := 9) (pc := 166) (h := 1) (f := 14) dX3_copyFrom_166 am_CL_3 sh_1 rfl (Nat.le_of_ble_eq_true rfl) tw_114 (sn_iconst (pc := 169) (v := 0) dX3_copyFrom_169 rfl (sn_bipush (pc := 170) (v := 16) dX3_copyFrom_170 rfl (sn_cpy (pc := 172) (src := 45) (dst := 9) (n := 16) (v := 16) dX3_copyFrom_172 sh_45 sh_9 tw_300 tw_302 tw_301 tw_13 (by decide) (by decide) (sn_lf (pc := 175) (ln_a (i := 0) (q := 1) (ln_a (i := 1) (q := 37) (ln_end (o := fun τ => f_H_copyFrom_1_37_175 τ) (fun _ _ _ e h => s_H_copyFrom_1_37_175 G  _ _ _ e h)))))))))))))))))))))) _ _ _ _ _ ((eq_H_copyFrom_1_37_146  σ).symm.trans e) hr
noncomputable def g_H_copyFrom_1_37_117 (σ : am_St) : Option (am_St) :=
  let s1 := am_rI σ 6 (va_cpy (σ.1 42) (σ.1 6) 0 0 4)
  let s2 := am_rI s1 7 (va_cpy (s1.1 43) (s1.1 7) 0 0 24)
  f_H_copyFrom_1_37_146 s2
noncomputable def f_H_copyFrom_1_37_117 (σ : am_St) : Option (am_St) := am_lk (g_H_copyFrom_1_37_117  σ)
theorem eq_H_copyFrom_1_37_117 (σ : am_St) : f_H_copyFrom_1_37_117  σ = g_H_copyFrom_1_37_117  σ := am_lk_eq _
set_option maxRecDepth 100000 in
set_option maxHeartbeats 4000000 in
theorem s_H_copyFrom_1_37_117 (G : am_G) (σ : am_St) (r : am_St) (Q : am_AQ) (e : f_H_copyFrom_1_37_117  σ = some r) (hr : am_Pv r Q) : am_AW G M_H_copyFrom 117 [(1, .ref 37), (0, .ref 1)] [] σ Q :=
  (show am_Snd G M_H_copyFrom 117 am_Pv _ from (sn_aload_n (pc := 117) (i := 1) dX3_copyFrom_117 rfl (sn_gR (r0 := 42) (pc := 118) (h := 37) (f := 11) dX3_copyFrom_118 am_CL_3 sh_37 rfl (Nat.le_of_ble_eq_true rfl) tw_111 (sn_iconst (pc := 121) (v := 0) dX3_copyFrom_121 rfl (sn_aload_n (pc := 122) (i := 0) dX3_copyFrom_122 rfl (sn_gR (r0 := 6) (pc := 123) (h := 1) (f := 11) dX3_copyFrom_123 am_CL_3 sh_1 rfl (Nat.le_of_ble_eq_true rfl) tw_111 (sn_iconst (pc := 126) (v := 0) dX3_copyFrom_126 rfl (sn_iconst (pc := 127) (v := 4) dX3_copyFrom_127 rfl (sn_cpy (pc := 128) (src := 42) (dst := 6) (n := 4) (v := 4) dX3_copyFrom_128 sh_42 sh_6 tw_300 tw_302 tw_301 tw_13 (by decide) (by decide) (sn_aload_n (pc := 131) (i := 1) dX3_copyFrom_131 rfl (sn_gR (r0 := 43) (pc := 132) (h := 37) (f := 12) dX3_copyFrom_132 am_CL_3 sh_37 rfl (Nat.le_of_ble_eq_true rfl) tw_112 (sn_iconst (pc := 135) (v := 0) dX3_copyFrom_135 rfl (sn_aload_n (pc := 136) (i := 0) dX3_copyFrom_136 rfl (sn_gR (r0 := 7) (pc := 137) (h := 1) (f := 12) dX3_copyFrom_137 am_CL_3 sh_1 rfl (Nat.le_of_ble_eq_true rfl) tw_112 (sn_iconst (pc := 140) (v := 0) dX3_copyFrom_140 rfl (sn_bipush (pc := 141) (v := 24) dX3_copyFrom_141 rfl (sn_cpy (pc := 143) (src := 43) (dst := 7) (n := 24) (v := 24) dX3_copyFrom_143 sh_43 sh_7 tw_300 tw_302 tw_301 tw_13 (by decide) (by decide) (sn_lf (pc := 146) (ln_a (i := 0) (q := 1) (ln_a (i := 1) (q := 37) (ln_end (o := fun τ => f_H_copyFrom_1_37_146 τ) (fun _ _ _ e h => s_H_copyFrom_1_37_146 G  _ _ _ e h)))))))))))))))))))))) _ _ _ _ _ ((eq_H_copyFrom_1_37_117  σ).symm.trans e) hr
noncomputable def g_H_copyFrom_1_37_89 (σ : am_St) : Option (am_St) :=
  let s1 := am_rI σ 4 (va_cpy (σ.1 40) (σ.1 4) 0 0 4)
  let s2 := am_rI s1 5 (va_cpy (s1.1 41) (s1.1 5) 0 0 4)
  f_H_copyFrom_1_37_117 s2
noncomputable def f_H_copyFrom_1_37_89 (σ : am_St) : Option (am_St) := am_lk (g_H_copyFrom_1_37_89  σ)
theorem eq_H_copyFrom_1_37_89 (σ : am_St) : f_H_copyFrom_1_37_89  σ = g_H_copyFrom_1_37_89  σ := am_lk_eq _
set_option maxRecDepth 100000 in
set_option maxHeartbeats 4000000 in
theorem s_H_copyFrom_1_37_89 (G : am_G) (σ : am_St) (r : am_St) (Q : am_AQ) (e : f_H_copyFrom_1_37_89  σ = some r) (hr : am_Pv r Q) : am_AW G M_H_copyFrom 89 [(1, .ref 37), (0, .ref 1)] [] σ Q :=
  (show am_Snd G M_H_copyFrom 89 am_Pv _ from (sn_aload_n (pc := 89) (i := 1) dX3_copyFrom_89 rfl (sn_gR (r0 := 40) (pc := 90) (h := 37) (f := 9) dX3_copyFrom_90 am_CL_3 sh_37 rfl (Nat.le_of_ble_eq_true rfl) tw_109 (sn_iconst (pc := 93) (v := 0) dX3_copyFrom_93 rfl (sn_aload_n (pc := 94) (i := 0) dX3_copyFrom_94 rfl (sn_gR (r0 := 4) (pc := 95) (h := 1) (f := 9) dX3_copyFrom_95 am_CL_3 sh_1 rfl (Nat.le_of_ble_eq_true rfl) tw_109 (sn_iconst (pc := 98) (v := 0) dX3_copyFrom_98 rfl (sn_iconst (pc := 99) (v := 4) dX3_copyFrom_99 rfl (sn_cpy (pc := 100) (src := 40) (dst := 4) (n := 4) (v := 4) dX3_copyFrom_100 sh_40 sh_4 tw_300 tw_302 tw_301 tw_13 (by decide) (by decide) (sn_aload_n (pc := 103) (i := 1) dX3_copyFrom_103 rfl (sn_gR (r0 := 41) (pc := 104) (h := 37) (f := 10) dX3_copyFrom_104 am_CL_3 sh_37 rfl (Nat.le_of_ble_eq_true rfl) tw_110 (sn_iconst (pc := 107) (v := 0) dX3_copyFrom_107 rfl (sn_aload_n (pc := 108) (i := 0) dX3_copyFrom_108 rfl (sn_gR (r0 := 5) (pc := 109) (h := 1) (f := 10) dX3_copyFrom_109 am_CL_3 sh_1 rfl (Nat.le_of_ble_eq_true rfl) tw_110 (sn_iconst (pc := 112) (v := 0) dX3_copyFrom_112 rfl (sn_iconst (pc := 113) (v := 4) dX3_copyFrom_113 rfl (sn_cpy (pc := 114) (src := 41) (dst := 5) (n := 4) (v := 4) dX3_copyFrom_114 sh_41 sh_5 tw_300 tw_302 tw_301 tw_13 (by decide) (by decide) (sn_lf (pc := 117) (ln_a (i := 0) (q := 1) (ln_a (i := 1) (q := 37) (ln_end (o := fun τ => f_H_copyFrom_1_37_117 τ) (fun _ _ _ e h => s_H_copyFrom_1_37_117 G  _ _ _ e h)))))))))))))))))))))) _ _ _ _ _ ((eq_H_copyFrom_1_37_89  σ).symm.trans e) hr
noncomputable def g_H_copyFrom_1_37_45 (σ : am_St) : Option (am_St) :=
  let s1 := am_sI σ 1 5 (σ.1 37 5)
  let s2 := am_sI s1 1 6 (s1.1 37 6)
  let s3 := am_rI s2 2 (va_cpy (s2.1 38) (s2.1 2) 0 0 4)
  let s4 := am_rI s3 3 (va_cpy (s3.1 39) (s3.1 3) 0 0 4)
  f_H_copyFrom_1_37_89 s4
noncomputable def f_H_copyFrom_1_37_45 (σ : am_St) : Option (am_St) := am_lk (g_H_copyFrom_1_37_45  σ)
theorem eq_H_copyFrom_1_37_45 (σ : am_St) : f_H_copyFrom_1_37_45  σ = g_H_copyFrom_1_37_45  σ := am_lk_eq _
set_option maxRecDepth 100000 in
set_option maxHeartbeats 4000000 in
theorem s_H_copyFrom_1_37_45 (G : am_G) (σ : am_St) (r : am_St) (Q : am_AQ) (e : f_H_copyFrom_1_37_45  σ = some r) (hr : am_Pv r Q) : am_AW G M_H_copyFrom 45 [(1, .ref 37), (0, .ref 1)] [] σ Q :=
  (show am_Snd G M_H_copyFrom 45 am_Pv _ from (sn_aload_n (pc := 45) (i := 0) dX3_copyFrom_45 rfl (sn_aload_n (pc := 46) (i := 1) dX3_copyFrom_46 rfl (sn_gI (pc := 47) (h := 37) (f := 5) dX3_copyFrom_47 am_CL_3 sh_37 rfl (Nat.le_of_ble_eq_true rfl) tw_100 (sn_pI (pc := 50) (h := 1) (f := 5) dX3_copyFrom_50 am_CL_3 sh_1 rfl (Nat.le_of_ble_eq_true rfl) tw_100 rfl rfl (sn_aload_n (pc := 53) (i := 0) dX3_copyFrom_53 rfl (sn_aload_n (pc := 54) (i := 1) dX3_copyFrom_54 rfl (sn_gI (pc := 55) (h := 37) (f := 6) dX3_copyFrom_55 am_CL_3 sh_37 rfl (Nat.le_of_ble_eq_true rfl) tw_103 (sn_pI (pc := 58) (h := 1) (f := 6) dX3_copyFrom_58 am_CL_3 sh_1 rfl (Nat.le_of_ble_eq_true rfl) tw_103 rfl rfl (sn_aload_n (pc := 61) (i := 1) dX3_copyFrom_61 rfl (sn_gR (r0 := 38) (pc := 62) (h := 37) (f := 7) dX3_copyFrom_62 am_CL_3 sh_37 rfl (Nat.le_of_ble_eq_true rfl) tw_107 (sn_iconst (pc := 65) (v := 0) dX3_copyFrom_65 rfl (sn_aload_n (pc := 66) (i := 0) dX3_copyFrom_66 rfl (sn_gR (r0 := 2) (pc := 67) (h := 1) (f := 7) dX3_copyFrom_67 am_CL_3 sh_1 rfl (Nat.le_of_ble_eq_true rfl) tw_107 (sn_iconst (pc := 70) (v := 0) dX3_copyFrom_70 rfl (sn_iconst (pc := 71) (v := 4) dX3_copyFrom_71 rfl (sn_cpy (pc := 72) (src := 38) (dst := 2) (n := 4) (v := 4) dX3_copyFrom_72 sh_38 sh_2 tw_300 tw_302 tw_301 tw_13 (by decide) (by decide) (sn_aload_n (pc := 75) (i := 1) dX3_copyFrom_75 rfl (sn_gR (r0 := 39) (pc := 76) (h := 37) (f := 8) dX3_copyFrom_76 am_CL_3 sh_37 rfl (Nat.le_of_ble_eq_true rfl) tw_108 (sn_iconst (pc := 79) (v := 0) dX3_copyFrom_79 rfl (sn_aload_n (pc := 80) (i := 0) dX3_copyFrom_80 rfl (sn_gR (r0 := 3) (pc := 81) (h := 1) (f := 8) dX3_copyFrom_81 am_CL_3 sh_1 rfl (Nat.le_of_ble_eq_true rfl) tw_108 (sn_iconst (pc := 84) (v := 0) dX3_copyFrom_84 rfl (sn_iconst (pc := 85) (v := 4) dX3_copyFrom_85 rfl (sn_cpy (pc := 86) (src := 39) (dst := 3) (n := 4) (v := 4) dX3_copyFrom_86 sh_39 sh_3 tw_300 tw_302 tw_301 tw_13 (by decide) (by decide) (sn_lf (pc := 89) (ln_a (i := 0) (q := 1) (ln_a (i := 1) (q := 37) (ln_end (o := fun τ => f_H_copyFrom_1_37_89 τ) (fun _ _ _ e h => s_H_copyFrom_1_37_89 G  _ _ _ e h)))))))))))))))))))))))))))))) _ _ _ _ _ ((eq_H_copyFrom_1_37_45  σ).symm.trans e) hr
noncomputable def g_H_copyFrom_1_37 (σ : am_St) : Option (am_St) :=
  let s1 := am_sI σ 1 0 (σ.1 37 0)
  let s2 := am_sI s1 1 1 (s1.1 37 1)
  let s3 := am_sI s2 1 2 (s2.1 37 2)
  let s4 := am_sI s3 1 3 (s3.1 37 3)
  let s5 := am_sI s4 1 4 (s4.1 37 4)
  f_H_copyFrom_1_37_45 s5
noncomputable def f_H_copyFrom_1_37 (σ : am_St) : Option (am_St) := am_lk (g_H_copyFrom_1_37  σ)
theorem eq_H_copyFrom_1_37 (σ : am_St) : f_H_copyFrom_1_37  σ = g_H_copyFrom_1_37  σ := am_lk_eq _
set_option maxRecDepth 100000 in
set_option maxHeartbeats 4000000 in
theorem s_H_copyFrom_1_37 (G : am_G) (σ : am_St) (r : am_St) (Q : am_AQ) (e : f_H_copyFrom_1_37  σ = some r) (hr : am_Pv r Q) : am_AW G M_H_copyFrom 0 [(0, .ref 1), (1, .ref 37)] [] σ Q :=
  (show am_Snd G M_H_copyFrom 0 am_Pv _ from (sn_aload_n (pc := 0) (i := 1) dX3_copyFrom_0 rfl (sn_ifnn (pc := 1) (tgt := 5) dX3_copyFrom_1 rfl (sn_aload_n (pc := 5) (i := 0) dX3_copyFrom_5 rfl (sn_aload_n (pc := 6) (i := 1) dX3_copyFrom_6 rfl (sn_gI (pc := 7) (h := 37) (f := 0) dX3_copyFrom_7 am_CL_3 sh_37 rfl (Nat.le_of_ble_eq_true rfl) tw_75 (sn_pI (pc := 10) (h := 1) (f := 0) dX3_copyFrom_10 am_CL_3 sh_1 rfl (Nat.le_of_ble_eq_true rfl) tw_75 rfl rfl (sn_aload_n (pc := 13) (i := 0) dX3_copyFrom_13 rfl (sn_aload_n (pc := 14) (i := 1) dX3_copyFrom_14 rfl (sn_gI (pc := 15) (h := 37) (f := 1) dX3_copyFrom_15 am_CL_3 sh_37 rfl (Nat.le_of_ble_eq_true rfl) tw_78 (sn_pI (pc := 18) (h := 1) (f := 1) dX3_copyFrom_18 am_CL_3 sh_1 rfl (Nat.le_of_ble_eq_true rfl) tw_78 rfl rfl (sn_aload_n (pc := 21) (i := 0) dX3_copyFrom_21 rfl (sn_aload_n (pc := 22) (i := 1) dX3_copyFrom_22 rfl (sn_gI (pc := 23) (h := 37) (f := 2) dX3_copyFrom_23 am_CL_3 sh_37 rfl (Nat.le_of_ble_eq_true rfl) tw_83 (sn_pI (pc := 26) (h := 1) (f := 2) dX3_copyFrom_26 am_CL_3 sh_1 rfl (Nat.le_of_ble_eq_true rfl) tw_83 rfl rfl (sn_aload_n (pc := 29) (i := 0) dX3_copyFrom_29 rfl (sn_aload_n (pc := 30) (i := 1) dX3_copyFrom_30 rfl (sn_gI (pc := 31) (h := 37) (f := 3) dX3_copyFrom_31 am_CL_3 sh_37 rfl (Nat.le_of_ble_eq_true rfl) tw_88 (sn_pI (pc := 34) (h := 1) (f := 3) dX3_copyFrom_34 am_CL_3 sh_1 rfl (Nat.le_of_ble_eq_true rfl) tw_88 rfl rfl (sn_aload_n (pc := 37) (i := 0) dX3_copyFrom_37 rfl (sn_aload_n (pc := 38) (i := 1) dX3_copyFrom_38 rfl (sn_gI (pc := 39) (h := 37) (f := 4) dX3_copyFrom_39 am_CL_3 sh_37 rfl (Nat.le_of_ble_eq_true rfl) tw_94 (sn_pI (pc := 42) (h := 1) (f := 4) dX3_copyFrom_42 am_CL_3 sh_1 rfl (Nat.le_of_ble_eq_true rfl) tw_94 rfl rfl (sn_lf (pc := 45) (ln_a (i := 0) (q := 1) (ln_a (i := 1) (q := 37) (ln_end (o := fun τ => f_H_copyFrom_1_37_45 τ) (fun _ _ _ e h => s_H_copyFrom_1_37_45 G  _ _ _ e h)))))))))))))))))))))))))))) _ _ _ _ _ ((eq_H_copyFrom_1_37  σ).symm.trans e) hr
noncomputable def cF_H_copyFrom_1_37 : am_Fn := fun _ args σ K => match args with
  | [.ref q0, .ref q1] => match Nat.beq q0 1, Nat.beq q1 37 with
    | true, true => (f_H_copyFrom_1_37 σ).bind (fun p => K none p)
    | _, _ => none
  | _ => none
theorem cal_H_copyFrom_1_37 (G : am_G) : am_Cal G M_H_copyFrom cF_H_copyFrom_1_37 := by
  intro ρ args σ K r e
  unfold cF_H_copyFrom_1_37 at e
  split at e
  · split at e
    · rename_i hq0 hq1
      obtain ⟨p, h1, h2⟩ := am_bind_some e
      rw [Nat.eq_of_beq_eq_true hq0]
      rw [Nat.eq_of_beq_eq_true hq1]
      exact ⟨none, p, am_Met.of rfl (Nat.le_of_ble_eq_true rfl) (s_H_copyFrom_1_37 G  σ p _ h1 ⟨rfl, rfl⟩), h2⟩
    · cases e
  · cases e
abbrev M_T_clear : am_MD := (yX4_clear, cX4_clear, 1, none, 0, 0)
theorem dX4_clear_0 : decode cX4_clear 0 = .ok (.aload_n 0, 1) := by decide +kernel
theorem dX4_clear_1 : decode cX4_clear 1 = .ok (.iconst 0, 1) := by decide +kernel
theorem dX4_clear_2 : decode cX4_clear 2 = .ok (.putfield 15, 3) := by decide +kernel
theorem dX4_clear_5 : decode cX4_clear 5 = .ok (.return_, 1) := by decide +kernel
noncomputable def g_T_clear (σ : am_St) : Option (am_St) :=
  let s1 := am_sI σ 35 1 0
  some (s1)
noncomputable def f_T_clear (σ : am_St) : Option (am_St) := am_lk (g_T_clear  σ)
theorem eq_T_clear (σ : am_St) : f_T_clear  σ = g_T_clear  σ := am_lk_eq _
set_option maxRecDepth 100000 in
set_option maxHeartbeats 4000000 in
theorem s_T_clear (G : am_G) (σ : am_St) (r : am_St) (Q : am_AQ) (e : f_T_clear  σ = some r) (hr : am_Pv r Q) : am_AW G M_T_clear 0 [(0, .ref 35)] [] σ Q :=
  (show am_Snd G M_T_clear 0 am_Pv _ from (sn_aload_n (pc := 0) (i := 0) dX4_clear_0 rfl (sn_iconst (pc := 1) (v := 0) dX4_clear_1 rfl (sn_pI (pc := 2) (h := 35) (f := 1) dX4_clear_2 am_CL_4 sh_35 rfl (Nat.le_of_ble_eq_true rfl) tw_161 rfl rfl (sn_retv (pc := 5) (R := fun τ => (some (τ))) dX4_clear_5 rfl (fun _ _ _ e h => by cases e; exact h)))))) _ _ _ _ _ ((eq_T_clear  σ).symm.trans e) hr
noncomputable def cF_T_clear : am_Fn := fun _ args σ K => match args with
  | [.ref q0] => match Nat.beq q0 35 with
    | true => (f_T_clear σ).bind (fun p => K none p)
    | _ => none
  | _ => none
theorem cal_T_clear (G : am_G) : am_Cal G M_T_clear cF_T_clear := by
  intro ρ args σ K r e
  unfold cF_T_clear at e
  split at e
  · split at e
    · rename_i hq0
      obtain ⟨p, h1, h2⟩ := am_bind_some e
      rw [Nat.eq_of_beq_eq_true hq0]
      exact ⟨none, p, am_Met.of rfl (Nat.le_of_ble_eq_true rfl) (s_T_clear G  σ p _ h1 ⟨rfl, rfl⟩), h2⟩
    · cases e
  · cases e
abbrev M_X_house : am_MD := (yX11_house, cX11_house, 2, (some .int), 6, 152)
theorem dX11_house_0 : decode cX11_house 0 = .ok (.aload_n 0, 1) := by decide +kernel
theorem dX11_house_1 : decode cX11_house 1 = .ok (.getfield 26, 3) := by decide +kernel
theorem dX11_house_4 : decode cX11_house 4 = .ok (.aload_n 0, 1) := by decide +kernel
theorem dX11_house_5 : decode cX11_house 5 = .ok (.getfield 10, 3) := by decide +kernel
theorem dX11_house_8 : decode cX11_house 8 = .ok (.aload_n 0, 1) := by decide +kernel
theorem dX11_house_9 : decode cX11_house 9 = .ok (.getfield 33, 3) := by decide +kernel
theorem dX11_house_12 : decode cX11_house 12 = .ok (.invokevirtual 66, 3) := by decide +kernel
theorem dX11_house_15 : decode cX11_house 15 = .ok (.istore_n 1, 1) := by decide +kernel
theorem dX11_house_16 : decode cX11_house 16 = .ok (.iload_n 1, 1) := by decide +kernel
theorem dX11_house_17 : decode cX11_house 17 = .ok (.ifCond .le 17, 3) := by decide +kernel
theorem dX11_house_20 : decode cX11_house 20 = .ok (.aload_n 0, 1) := by decide +kernel
theorem dX11_house_21 : decode cX11_house 21 = .ok (.getfield 10, 3) := by decide +kernel
theorem dX11_house_24 : decode cX11_house 24 = .ok (.aload_n 0, 1) := by decide +kernel
theorem dX11_house_25 : decode cX11_house 25 = .ok (.getfield 26, 3) := by decide +kernel
theorem dX11_house_28 : decode cX11_house 28 = .ok (.invokevirtual 70, 3) := by decide +kernel
theorem dX11_house_31 : decode cX11_house 31 = .ok (.invokevirtual 74, 3) := by decide +kernel
theorem dX11_house_34 : decode cX11_house 34 = .ok (.aload_n 0, 1) := by decide +kernel
theorem dX11_house_35 : decode cX11_house 35 = .ok (.getfield 26, 3) := by decide +kernel
theorem dX11_house_38 : decode cX11_house 38 = .ok (.invokevirtual 78, 3) := by decide +kernel
theorem dX11_house_41 : decode cX11_house 41 = .ok (.iload_n 1, 1) := by decide +kernel
theorem dX11_house_42 : decode cX11_house 42 = .ok (.ireturn, 1) := by decide +kernel
noncomputable def g_X_house_34 (x1 : Int32) (σ : am_St) : Option (Int32 × am_St) :=
  (f_T_clear σ).bind (fun p1 =>
    some ((x1, p1)))
noncomputable def f_X_house_34 (x1 : Int32) (σ : am_St) : Option (Int32 × am_St) := am_lk (g_X_house_34 x1 σ)
theorem eq_X_house_34 (x1 : Int32) (σ : am_St) : f_X_house_34 x1 σ = g_X_house_34 x1 σ := am_lk_eq _
set_option maxRecDepth 100000 in
set_option maxHeartbeats 4000000 in
theorem s_X_house_34 (G : am_G) (x1 : Int32) (σ : am_St) (r : Int32 × am_St) (Q : am_AQ) (e : f_X_house_34 x1 σ = some r) (hr : am_Pi r Q) : am_AW G M_X_house 34 [(1, .int x1), (0, .ref 0)] [] σ Q :=
  (show am_Snd G M_X_house 34 am_Pi _ from (sn_aload_n (pc := 34) (i := 0) dX11_house_34 rfl (sn_gR (r0 := 35) (pc := 35) (h := 0) (f := 3) dX11_house_35 am_CL_10 sh_0 rfl (Nat.le_of_ble_eq_true rfl) tw_222 (sn_callV (pc := 38) (N := M_T_clear) dX11_house_38 (cal_T_clear G) sh_35 rfl tw_426 tw_427 tw_428 tw_9 tw_429 dsc_X4_clear rfl (sn_iload_n (pc := 41) (i := 1) dX11_house_41 rfl (sn_reti (pc := 42) (R := fun x τ => (some ((x, τ)))) dX11_house_42 rfl (fun _ _ _ _ e h => by cases e; exact h))))))) _ _ _ _ _ ((eq_X_house_34 x1 σ).symm.trans e) hr
noncomputable def g_X_house (σ : am_St) : Option (Int32 × am_St) :=
  (f_T_readOnto_1 σ).bind (fun p1 =>
    if p1.1 ≤ 0 then
      f_X_house_34 p1.1 p1.2
    else
      (f_T_read p1.2).bind (fun p2 =>
        if p2.1 = 37 then
          (f_H_copyFrom_1_37 p2.2).bind (fun p3 =>
            f_X_house_34 p1.1 p3)
        else
          none))
noncomputable def f_X_house (σ : am_St) : Option (Int32 × am_St) := am_lk (g_X_house  σ)
theorem eq_X_house (σ : am_St) : f_X_house  σ = g_X_house  σ := am_lk_eq _
set_option maxRecDepth 100000 in
set_option maxHeartbeats 4000000 in
theorem s_X_house (G : am_G) (σ : am_St) (r : Int32 × am_St) (Q : am_AQ) (e : f_X_house  σ = some r) (hr : am_Pi r Q) : am_AW G M_X_house 0 [(0, .ref 0)] [] σ Q :=
  (show am_Snd G M_X_house 0 am_Pi _ from (sn_aload_n (pc := 0) (i := 0) dX11_house_0 rfl (sn_gR (r0 := 35) (pc := 1) (h := 0) (f := 3) dX11_house_1 am_CL_10 sh_0 rfl (Nat.le_of_ble_eq_true rfl) tw_222 (sn_aload_n (pc := 4) (i := 0) dX11_house_4 rfl (sn_gR (r0 := 1) (pc := 5) (h := 0) (f := 0) dX11_house_5 am_CL_10 sh_0 rfl (Nat.le_of_ble_eq_true rfl) tw_219 (sn_aload_n (pc := 8) (i := 0) dX11_house_8 rfl (sn_gR (r0 := 54) (pc := 9) (h := 0) (f := 4) dX11_house_9 am_CL_10 sh_0 rfl (Nat.le_of_ble_eq_true rfl) tw_223 (sn_callV (pc := 12) (N := M_T_readOnto) dX11_house_12 (cal_T_readOnto_1 G) sh_35 rfl tw_267 tw_268 tw_269 tw_9 tw_270 dsc_X4_readOnto rfl (sn_istore_n (pc := 15) (i := 1) dX11_house_15 rfl (Nat.le_of_ble_eq_true rfl) (sn_iload_n (pc := 16) (i := 1) dX11_house_16 rfl (sn_if_le (pc := 17) (tgt := 34) dX11_house_17 rfl (sn_lf (pc := 34) (ln_a (i := 0) (q := 0) (ln_i (i := 1) (fun z0 => (ln_end (o := fun τ => f_X_house_34 z0 τ) (fun _ _ _ e h => s_X_house_34 G z0 _ _ _ e h)))))) (sn_aload_n (pc := 20) (i := 0) dX11_house_20 rfl (sn_gR (r0 := 1) (pc := 21) (h := 0) (f := 0) dX11_house_21 am_CL_10 sh_0 rfl (Nat.le_of_ble_eq_true rfl) tw_219 (sn_aload_n (pc := 24) (i := 0) dX11_house_24 rfl (sn_gR (r0 := 35) (pc := 25) (h := 0) (f := 3) dX11_house_25 am_CL_10 sh_0 rfl (Nat.le_of_ble_eq_true rfl) tw_222 (sn_callV (pc := 28) (N := M_T_read) dX11_house_28 (cal_T_read G) sh_35 rfl tw_421 tw_422 tw_423 tw_9 tw_424 dsc_X4_read rfl (sn_spl (n := 0) (c0 := 37) (sn_callV (pc := 31) (N := M_H_copyFrom) dX11_house_31 (cal_H_copyFrom_1_37 G) sh_1 rfl tw_425 tw_297 tw_298 tw_2 tw_299 dsc_X3_copyFrom rfl (sn_lf (pc := 34) (ln_a (i := 0) (q := 0) (ln_i (i := 1) (fun z0 => (ln_end (o := fun τ => f_X_house_34 z0 τ) (fun _ _ _ e h => s_X_house_34 G z0 _ _ _ e h))))))) sn_no))))))))))))))))) _ _ _ _ _ ((eq_X_house  σ).symm.trans e) hr
noncomputable def cF_X_house : am_Fn := fun _ args σ K => match args with
  | [.ref q0] => match Nat.beq q0 0 with
    | true => (f_X_house σ).bind (fun p => K (some (.int p.1)) p.2)
    | _ => none
  | _ => none
theorem cal_X_house (G : am_G) : am_Cal G M_X_house cF_X_house := by
  intro ρ args σ K r e
  unfold cF_X_house at e
  split at e
  · split at e
    · rename_i hq0
      obtain ⟨p, h1, h2⟩ := am_bind_some e
      rw [Nat.eq_of_beq_eq_true hq0]
      exact ⟨some (.int p.1), p.2, am_Met.of rfl (Nat.le_of_ble_eq_true rfl) (s_X_house G  σ p _ h1 ⟨rfl, rfl⟩), h2⟩
    · cases e
  · cases e
noncomputable def g_H_hasChild_1 (x1 : Int32) (σ : am_St) : Option (Int32 × am_St) :=
  if x1 < 0 then
    some ((0, σ))
  else
    if (σ.1 1 2) ≤ x1 then
      some ((0, σ))
    else
      some ((1, σ))
noncomputable def f_H_hasChild_1 (x1 : Int32) (σ : am_St) : Option (Int32 × am_St) := am_lk (g_H_hasChild_1 x1 σ)
theorem eq_H_hasChild_1 (x1 : Int32) (σ : am_St) : f_H_hasChild_1 x1 σ = g_H_hasChild_1 x1 σ := am_lk_eq _
set_option maxRecDepth 100000 in
set_option maxHeartbeats 4000000 in
theorem s_H_hasChild_1 (G : am_G) (x1 : Int32) (σ : am_St) (r : Int32 × am_St) (Q : am_AQ) (e : f_H_hasChild_1 x1 σ = some r) (hr : am_Pi r Q) : am_AW G M_H_hasChild 0 [(0, .ref 1), (1, .int x1)] [] σ Q :=
  (show am_Snd G M_H_hasChild 0 am_Pi _ from (sn_iload_n (pc := 0) (i := 1) dX3_hasChild_0 rfl (sn_if_lt (pc := 1) (tgt := 16) dX3_hasChild_1 rfl (sn_iconst (pc := 16) (v := 0) dX3_hasChild_16 rfl (sn_retz (pc := 17) (R := fun x τ => (some ((x, τ)))) dX3_hasChild_17 rfl (fun _ _ _ _ e h => by cases e; exact h))) (sn_iload_n (pc := 4) (i := 1) dX3_hasChild_4 rfl (sn_aload_n (pc := 5) (i := 0) dX3_hasChild_5 rfl (sn_gI (pc := 6) (h := 1) (f := 2) dX3_hasChild_6 am_CL_3 sh_1 rfl (Nat.le_of_ble_eq_true rfl) tw_83 (sn_icmp_ge (pc := 9) (tgt := 16) dX3_hasChild_9 rfl (sn_iconst (pc := 16) (v := 0) dX3_hasChild_16 rfl (sn_retz (pc := 17) (R := fun x τ => (some ((x, τ)))) dX3_hasChild_17 rfl (fun _ _ _ _ e h => by cases e; exact h))) (sn_iconst (pc := 12) (v := 1) dX3_hasChild_12 rfl (sn_goto (pc := 13) (tgt := 17) dX3_hasChild_13 rfl (sn_retz (pc := 17) (R := fun x τ => (some ((x, τ)))) dX3_hasChild_17 rfl (fun _ _ _ _ e h => by cases e; exact h))))))))))) _ _ _ _ _ ((eq_H_hasChild_1 x1 σ).symm.trans e) hr
noncomputable def cF_H_hasChild_1 : am_Fn := fun _ args σ K => match args with
  | [.ref q0, .int z1] => match Nat.beq q0 1 with
    | true => (f_H_hasChild_1 z1 σ).bind (fun p => K (some (.int p.1)) p.2)
    | _ => none
  | _ => none
theorem cal_H_hasChild_1 (G : am_G) : am_Cal G M_H_hasChild cF_H_hasChild_1 := by
  intro ρ args σ K r e
  unfold cF_H_hasChild_1 at e
  split at e
  · split at e
    · rename_i hq0
      obtain ⟨p, h1, h2⟩ := am_bind_some e
      rw [Nat.eq_of_beq_eq_true hq0]
      exact ⟨some (.int p.1), p.2, am_Met.of rfl (Nat.le_of_ble_eq_true rfl) (s_H_hasChild_1 G _ σ p _ h1 ⟨rfl, rfl⟩), h2⟩
    · cases e
  · cases e
abbrev M_H_kindOf : am_MD := (yX3_kindOf, cX3_kindOf, 2, (some .int), 0, 0)
theorem dX3_kindOf_0 : decode cX3_kindOf 0 = .ok (.iload_n 1, 1) := by decide +kernel
theorem dX3_kindOf_1 : decode cX3_kindOf 1 = .ok (.ifCond .lt 21, 3) := by decide +kernel
theorem dX3_kindOf_4 : decode cX3_kindOf 4 = .ok (.iload_n 1, 1) := by decide +kernel
theorem dX3_kindOf_5 : decode cX3_kindOf 5 = .ok (.aload_n 0, 1) := by decide +kernel
theorem dX3_kindOf_6 : decode cX3_kindOf 6 = .ok (.getfield 22, 3) := by decide +kernel
theorem dX3_kindOf_9 : decode cX3_kindOf 9 = .ok (.arraylength, 1) := by decide +kernel
theorem dX3_kindOf_10 : decode cX3_kindOf 10 = .ok (.if_icmp .ge 12, 3) := by decide +kernel
theorem dX3_kindOf_13 : decode cX3_kindOf 13 = .ok (.aload_n 0, 1) := by decide +kernel
theorem dX3_kindOf_14 : decode cX3_kindOf 14 = .ok (.getfield 22, 3) := by decide +kernel
theorem dX3_kindOf_17 : decode cX3_kindOf 17 = .ok (.iload_n 1, 1) := by decide +kernel
theorem dX3_kindOf_18 : decode cX3_kindOf 18 = .ok (.iaload, 1) := by decide +kernel
theorem dX3_kindOf_19 : decode cX3_kindOf 19 = .ok (.goto 4, 3) := by decide +kernel
theorem dX3_kindOf_22 : decode cX3_kindOf 22 = .ok (.iconst 0, 1) := by decide +kernel
theorem dX3_kindOf_23 : decode cX3_kindOf 23 = .ok (.ireturn, 1) := by decide +kernel
noncomputable def g_H_kindOf_1 (x1 : Int32) (σ : am_St) : Option (Int32 × am_St) :=
  if x1 < 0 then
    some ((0, σ))
  else
    if 4 ≤ x1 then
      some ((0, σ))
    else
      if am_ix x1 4 = true then
        some ((σ.1 3 x1.toNatClampNeg, σ))
      else none
noncomputable def f_H_kindOf_1 (x1 : Int32) (σ : am_St) : Option (Int32 × am_St) := am_lk (g_H_kindOf_1 x1 σ)
theorem eq_H_kindOf_1 (x1 : Int32) (σ : am_St) : f_H_kindOf_1 x1 σ = g_H_kindOf_1 x1 σ := am_lk_eq _
set_option maxRecDepth 100000 in
set_option maxHeartbeats 4000000 in
theorem s_H_kindOf_1 (G : am_G) (x1 : Int32) (σ : am_St) (r : Int32 × am_St) (Q : am_AQ) (e : f_H_kindOf_1 x1 σ = some r) (hr : am_Pi r Q) : am_AW G M_H_kindOf 0 [(0, .ref 1), (1, .int x1)] [] σ Q :=
  (show am_Snd G M_H_kindOf 0 am_Pi _ from (sn_iload_n (pc := 0) (i := 1) dX3_kindOf_0 rfl (sn_if_lt (pc := 1) (tgt := 22) dX3_kindOf_1 rfl (sn_iconst (pc := 22) (v := 0) dX3_kindOf_22 rfl (sn_reti (pc := 23) (R := fun x τ => (some ((x, τ)))) dX3_kindOf_23 rfl (fun _ _ _ _ e h => by cases e; exact h))) (sn_iload_n (pc := 4) (i := 1) dX3_kindOf_4 rfl (sn_aload_n (pc := 5) (i := 0) dX3_kindOf_5 rfl (sn_gR (r0 := 3) (pc := 6) (h := 1) (f := 8) dX3_kindOf_6 am_CL_3 sh_1 rfl (Nat.le_of_ble_eq_true rfl) tw_108 (sn_len (pc := 9) (h := 3) (v := 4) dX3_kindOf_9 sh_3 rfl (sn_icmp_ge (pc := 10) (tgt := 22) dX3_kindOf_10 rfl (sn_iconst (pc := 22) (v := 0) dX3_kindOf_22 rfl (sn_reti (pc := 23) (R := fun x τ => (some ((x, τ)))) dX3_kindOf_23 rfl (fun _ _ _ _ e h => by cases e; exact h))) (sn_aload_n (pc := 13) (i := 0) dX3_kindOf_13 rfl (sn_gR (r0 := 3) (pc := 14) (h := 1) (f := 8) dX3_kindOf_14 am_CL_3 sh_1 rfl (Nat.le_of_ble_eq_true rfl) tw_108 (sn_iload_n (pc := 17) (i := 1) dX3_kindOf_17 rfl (sn_aI (pc := 18) (h := 3) dX3_kindOf_18 sh_3 (sn_goto (pc := 19) (tgt := 23) dX3_kindOf_19 rfl (sn_reti (pc := 23) (R := fun x τ => (some ((x, τ)))) dX3_kindOf_23 rfl (fun _ _ _ _ e h => by cases e; exact h))))))))))))))) _ _ _ _ _ ((eq_H_kindOf_1 x1 σ).symm.trans e) hr
noncomputable def cF_H_kindOf_1 : am_Fn := fun _ args σ K => match args with
  | [.ref q0, .int z1] => match Nat.beq q0 1 with
    | true => (f_H_kindOf_1 z1 σ).bind (fun p => K (some (.int p.1)) p.2)
    | _ => none
  | _ => none
theorem cal_H_kindOf_1 (G : am_G) : am_Cal G M_H_kindOf cF_H_kindOf_1 := by
  intro ρ args σ K r e
  unfold cF_H_kindOf_1 at e
  split at e
  · split at e
    · rename_i hq0
      obtain ⟨p, h1, h2⟩ := am_bind_some e
      rw [Nat.eq_of_beq_eq_true hq0]
      exact ⟨some (.int p.1), p.2, am_Met.of rfl (Nat.le_of_ble_eq_true rfl) (s_H_kindOf_1 G _ σ p _ h1 ⟨rfl, rfl⟩), h2⟩
    · cases e
  · cases e
abbrev M_H_figureOf : am_MD := (yX3_figureOf, cX3_figureOf, 2, (some .int), 0, 0)
theorem dX3_figureOf_0 : decode cX3_figureOf 0 = .ok (.iload_n 1, 1) := by decide +kernel
theorem dX3_figureOf_1 : decode cX3_figureOf 1 = .ok (.ifCond .lt 21, 3) := by decide +kernel
theorem dX3_figureOf_4 : decode cX3_figureOf 4 = .ok (.iload_n 1, 1) := by decide +kernel
theorem dX3_figureOf_5 : decode cX3_figureOf 5 = .ok (.aload_n 0, 1) := by decide +kernel
theorem dX3_figureOf_6 : decode cX3_figureOf 6 = .ok (.getfield 25, 3) := by decide +kernel
theorem dX3_figureOf_9 : decode cX3_figureOf 9 = .ok (.arraylength, 1) := by decide +kernel
theorem dX3_figureOf_10 : decode cX3_figureOf 10 = .ok (.if_icmp .ge 12, 3) := by decide +kernel
theorem dX3_figureOf_13 : decode cX3_figureOf 13 = .ok (.aload_n 0, 1) := by decide +kernel
theorem dX3_figureOf_14 : decode cX3_figureOf 14 = .ok (.getfield 25, 3) := by decide +kernel
theorem dX3_figureOf_17 : decode cX3_figureOf 17 = .ok (.iload_n 1, 1) := by decide +kernel
theorem dX3_figureOf_18 : decode cX3_figureOf 18 = .ok (.iaload, 1) := by decide +kernel
theorem dX3_figureOf_19 : decode cX3_figureOf 19 = .ok (.goto 4, 3) := by decide +kernel
theorem dX3_figureOf_22 : decode cX3_figureOf 22 = .ok (.iconst 0, 1) := by decide +kernel
theorem dX3_figureOf_23 : decode cX3_figureOf 23 = .ok (.ireturn, 1) := by decide +kernel
noncomputable def g_H_figureOf_1 (x1 : Int32) (σ : am_St) : Option (Int32 × am_St) :=
  if x1 < 0 then
    some ((0, σ))
  else
    if 4 ≤ x1 then
      some ((0, σ))
    else
      if am_ix x1 4 = true then
        some ((σ.1 4 x1.toNatClampNeg, σ))
      else none
noncomputable def f_H_figureOf_1 (x1 : Int32) (σ : am_St) : Option (Int32 × am_St) := am_lk (g_H_figureOf_1 x1 σ)
theorem eq_H_figureOf_1 (x1 : Int32) (σ : am_St) : f_H_figureOf_1 x1 σ = g_H_figureOf_1 x1 σ := am_lk_eq _
set_option maxRecDepth 100000 in
set_option maxHeartbeats 4000000 in
theorem s_H_figureOf_1 (G : am_G) (x1 : Int32) (σ : am_St) (r : Int32 × am_St) (Q : am_AQ) (e : f_H_figureOf_1 x1 σ = some r) (hr : am_Pi r Q) : am_AW G M_H_figureOf 0 [(0, .ref 1), (1, .int x1)] [] σ Q :=
  (show am_Snd G M_H_figureOf 0 am_Pi _ from (sn_iload_n (pc := 0) (i := 1) dX3_figureOf_0 rfl (sn_if_lt (pc := 1) (tgt := 22) dX3_figureOf_1 rfl (sn_iconst (pc := 22) (v := 0) dX3_figureOf_22 rfl (sn_reti (pc := 23) (R := fun x τ => (some ((x, τ)))) dX3_figureOf_23 rfl (fun _ _ _ _ e h => by cases e; exact h))) (sn_iload_n (pc := 4) (i := 1) dX3_figureOf_4 rfl (sn_aload_n (pc := 5) (i := 0) dX3_figureOf_5 rfl (sn_gR (r0 := 4) (pc := 6) (h := 1) (f := 9) dX3_figureOf_6 am_CL_3 sh_1 rfl (Nat.le_of_ble_eq_true rfl) tw_109 (sn_len (pc := 9) (h := 4) (v := 4) dX3_figureOf_9 sh_4 rfl (sn_icmp_ge (pc := 10) (tgt := 22) dX3_figureOf_10 rfl (sn_iconst (pc := 22) (v := 0) dX3_figureOf_22 rfl (sn_reti (pc := 23) (R := fun x τ => (some ((x, τ)))) dX3_figureOf_23 rfl (fun _ _ _ _ e h => by cases e; exact h))) (sn_aload_n (pc := 13) (i := 0) dX3_figureOf_13 rfl (sn_gR (r0 := 4) (pc := 14) (h := 1) (f := 9) dX3_figureOf_14 am_CL_3 sh_1 rfl (Nat.le_of_ble_eq_true rfl) tw_109 (sn_iload_n (pc := 17) (i := 1) dX3_figureOf_17 rfl (sn_aI (pc := 18) (h := 4) dX3_figureOf_18 sh_4 (sn_goto (pc := 19) (tgt := 23) dX3_figureOf_19 rfl (sn_reti (pc := 23) (R := fun x τ => (some ((x, τ)))) dX3_figureOf_23 rfl (fun _ _ _ _ e h => by cases e; exact h))))))))))))))) _ _ _ _ _ ((eq_H_figureOf_1 x1 σ).symm.trans e) hr
noncomputable def cF_H_figureOf_1 : am_Fn := fun _ args σ K => match args with
  | [.ref q0, .int z1] => match Nat.beq q0 1 with
    | true => (f_H_figureOf_1 z1 σ).bind (fun p => K (some (.int p.1)) p.2)
    | _ => none
  | _ => none
theorem cal_H_figureOf_1 (G : am_G) : am_Cal G M_H_figureOf cF_H_figureOf_1 := by
  intro ρ args σ K r e
  unfold cF_H_figureOf_1 at e
  split at e
  · split at e
    · rename_i hq0
      obtain ⟨p, h1, h2⟩ := am_bind_some e
      rw [Nat.eq_of_beq_eq_true hq0]
      exact ⟨some (.int p.1), p.2, am_Met.of rfl (Nat.le_of_ble_eq_true rfl) (s_H_figureOf_1 G _ σ p _ h1 ⟨rfl, rfl⟩), h2⟩
    · cases e
  · cases e
abbrev M_H_tieOf : am_MD := (yX3_tieOf, cX3_tieOf, 2, (some .int), 0, 0)
theorem dX3_tieOf_0 : decode cX3_tieOf 0 = .ok (.iload_n 1, 1) := by decide +kernel
theorem dX3_tieOf_1 : decode cX3_tieOf 1 = .ok (.ifCond .lt 21, 3) := by decide +kernel
theorem dX3_tieOf_4 : decode cX3_tieOf 4 = .ok (.iload_n 1, 1) := by decide +kernel
theorem dX3_tieOf_5 : decode cX3_tieOf 5 = .ok (.aload_n 0, 1) := by decide +kernel
theorem dX3_tieOf_6 : decode cX3_tieOf 6 = .ok (.getfield 28, 3) := by decide +kernel
theorem dX3_tieOf_9 : decode cX3_tieOf 9 = .ok (.arraylength, 1) := by decide +kernel
theorem dX3_tieOf_10 : decode cX3_tieOf 10 = .ok (.if_icmp .ge 12, 3) := by decide +kernel
theorem dX3_tieOf_13 : decode cX3_tieOf 13 = .ok (.aload_n 0, 1) := by decide +kernel
theorem dX3_tieOf_14 : decode cX3_tieOf 14 = .ok (.getfield 28, 3) := by decide +kernel
theorem dX3_tieOf_17 : decode cX3_tieOf 17 = .ok (.iload_n 1, 1) := by decide +kernel
theorem dX3_tieOf_18 : decode cX3_tieOf 18 = .ok (.iaload, 1) := by decide +kernel
theorem dX3_tieOf_19 : decode cX3_tieOf 19 = .ok (.goto 4, 3) := by decide +kernel
theorem dX3_tieOf_22 : decode cX3_tieOf 22 = .ok (.iconst 0, 1) := by decide +kernel
theorem dX3_tieOf_23 : decode cX3_tieOf 23 = .ok (.ireturn, 1) := by decide +kernel
noncomputable def g_H_tieOf_1 (x1 : Int32) (σ : am_St) : Option (Int32 × am_St) :=
  if x1 < 0 then
    some ((0, σ))
  else
    if 4 ≤ x1 then
      some ((0, σ))
    else
      if am_ix x1 4 = true then
        some ((σ.1 5 x1.toNatClampNeg, σ))
      else none
noncomputable def f_H_tieOf_1 (x1 : Int32) (σ : am_St) : Option (Int32 × am_St) := am_lk (g_H_tieOf_1 x1 σ)
theorem eq_H_tieOf_1 (x1 : Int32) (σ : am_St) : f_H_tieOf_1 x1 σ = g_H_tieOf_1 x1 σ := am_lk_eq _
set_option maxRecDepth 100000 in
set_option maxHeartbeats 4000000 in
theorem s_H_tieOf_1 (G : am_G) (x1 : Int32) (σ : am_St) (r : Int32 × am_St) (Q : am_AQ) (e : f_H_tieOf_1 x1 σ = some r) (hr : am_Pi r Q) : am_AW G M_H_tieOf 0 [(0, .ref 1), (1, .int x1)] [] σ Q :=
  (show am_Snd G M_H_tieOf 0 am_Pi _ from (sn_iload_n (pc := 0) (i := 1) dX3_tieOf_0 rfl (sn_if_lt (pc := 1) (tgt := 22) dX3_tieOf_1 rfl (sn_iconst (pc := 22) (v := 0) dX3_tieOf_22 rfl (sn_reti (pc := 23) (R := fun x τ => (some ((x, τ)))) dX3_tieOf_23 rfl (fun _ _ _ _ e h => by cases e; exact h))) (sn_iload_n (pc := 4) (i := 1) dX3_tieOf_4 rfl (sn_aload_n (pc := 5) (i := 0) dX3_tieOf_5 rfl (sn_gR (r0 := 5) (pc := 6) (h := 1) (f := 10) dX3_tieOf_6 am_CL_3 sh_1 rfl (Nat.le_of_ble_eq_true rfl) tw_110 (sn_len (pc := 9) (h := 5) (v := 4) dX3_tieOf_9 sh_5 rfl (sn_icmp_ge (pc := 10) (tgt := 22) dX3_tieOf_10 rfl (sn_iconst (pc := 22) (v := 0) dX3_tieOf_22 rfl (sn_reti (pc := 23) (R := fun x τ => (some ((x, τ)))) dX3_tieOf_23 rfl (fun _ _ _ _ e h => by cases e; exact h))) (sn_aload_n (pc := 13) (i := 0) dX3_tieOf_13 rfl (sn_gR (r0 := 5) (pc := 14) (h := 1) (f := 10) dX3_tieOf_14 am_CL_3 sh_1 rfl (Nat.le_of_ble_eq_true rfl) tw_110 (sn_iload_n (pc := 17) (i := 1) dX3_tieOf_17 rfl (sn_aI (pc := 18) (h := 5) dX3_tieOf_18 sh_5 (sn_goto (pc := 19) (tgt := 23) dX3_tieOf_19 rfl (sn_reti (pc := 23) (R := fun x τ => (some ((x, τ)))) dX3_tieOf_23 rfl (fun _ _ _ _ e h => by cases e; exact h))))))))))))))) _ _ _ _ _ ((eq_H_tieOf_1 x1 σ).symm.trans e) hr
noncomputable def cF_H_tieOf_1 : am_Fn := fun _ args σ K => match args with
  | [.ref q0, .int z1] => match Nat.beq q0 1 with
    | true => (f_H_tieOf_1 z1 σ).bind (fun p => K (some (.int p.1)) p.2)
    | _ => none
  | _ => none
theorem cal_H_tieOf_1 (G : am_G) : am_Cal G M_H_tieOf cF_H_tieOf_1 := by
  intro ρ args σ K r e
  unfold cF_H_tieOf_1 at e
  split at e
  · split at e
    · rename_i hq0
      obtain ⟨p, h1, h2⟩ := am_bind_some e
      rw [Nat.eq_of_beq_eq_true hq0]
      exact ⟨some (.int p.1), p.2, am_Met.of rfl (Nat.le_of_ble_eq_true rfl) (s_H_tieOf_1 G _ σ p _ h1 ⟨rfl, rfl⟩), h2⟩
    · cases e
  · cases e
abbrev M_H_skillOf : am_MD := (yX3_skillOf, cX3_skillOf, 2, (some .int), 0, 0)
theorem dX3_skillOf_0 : decode cX3_skillOf 0 = .ok (.iload_n 1, 1) := by decide +kernel
theorem dX3_skillOf_1 : decode cX3_skillOf 1 = .ok (.ifCond .lt 21, 3) := by decide +kernel
theorem dX3_skillOf_4 : decode cX3_skillOf 4 = .ok (.iload_n 1, 1) := by decide +kernel
theorem dX3_skillOf_5 : decode cX3_skillOf 5 = .ok (.aload_n 0, 1) := by decide +kernel
theorem dX3_skillOf_6 : decode cX3_skillOf 6 = .ok (.getfield 31, 3) := by decide +kernel
theorem dX3_skillOf_9 : decode cX3_skillOf 9 = .ok (.arraylength, 1) := by decide +kernel
theorem dX3_skillOf_10 : decode cX3_skillOf 10 = .ok (.if_icmp .ge 12, 3) := by decide +kernel
theorem dX3_skillOf_13 : decode cX3_skillOf 13 = .ok (.aload_n 0, 1) := by decide +kernel
theorem dX3_skillOf_14 : decode cX3_skillOf 14 = .ok (.getfield 31, 3) := by decide +kernel
theorem dX3_skillOf_17 : decode cX3_skillOf 17 = .ok (.iload_n 1, 1) := by decide +kernel
theorem dX3_skillOf_18 : decode cX3_skillOf 18 = .ok (.iaload, 1) := by decide +kernel
theorem dX3_skillOf_19 : decode cX3_skillOf 19 = .ok (.goto 4, 3) := by decide +kernel
theorem dX3_skillOf_22 : decode cX3_skillOf 22 = .ok (.iconst 0, 1) := by decide +kernel
theorem dX3_skillOf_23 : decode cX3_skillOf 23 = .ok (.ireturn, 1) := by decide +kernel
noncomputable def g_H_skillOf_1 (x1 : Int32) (σ : am_St) : Option (Int32 × am_St) :=
  if x1 < 0 then
    some ((0, σ))
  else
    if 4 ≤ x1 then
      some ((0, σ))
    else
      if am_ix x1 4 = true then
        some ((σ.1 6 x1.toNatClampNeg, σ))
      else none
noncomputable def f_H_skillOf_1 (x1 : Int32) (σ : am_St) : Option (Int32 × am_St) := am_lk (g_H_skillOf_1 x1 σ)
theorem eq_H_skillOf_1 (x1 : Int32) (σ : am_St) : f_H_skillOf_1 x1 σ = g_H_skillOf_1 x1 σ := am_lk_eq _
set_option maxRecDepth 100000 in
set_option maxHeartbeats 4000000 in
theorem s_H_skillOf_1 (G : am_G) (x1 : Int32) (σ : am_St) (r : Int32 × am_St) (Q : am_AQ) (e : f_H_skillOf_1 x1 σ = some r) (hr : am_Pi r Q) : am_AW G M_H_skillOf 0 [(0, .ref 1), (1, .int x1)] [] σ Q :=
  (show am_Snd G M_H_skillOf 0 am_Pi _ from (sn_iload_n (pc := 0) (i := 1) dX3_skillOf_0 rfl (sn_if_lt (pc := 1) (tgt := 22) dX3_skillOf_1 rfl (sn_iconst (pc := 22) (v := 0) dX3_skillOf_22 rfl (sn_reti (pc := 23) (R := fun x τ => (some ((x, τ)))) dX3_skillOf_23 rfl (fun _ _ _ _ e h => by cases e; exact h))) (sn_iload_n (pc := 4) (i := 1) dX3_skillOf_4 rfl (sn_aload_n (pc := 5) (i := 0) dX3_skillOf_5 rfl (sn_gR (r0 := 6) (pc := 6) (h := 1) (f := 11) dX3_skillOf_6 am_CL_3 sh_1 rfl (Nat.le_of_ble_eq_true rfl) tw_111 (sn_len (pc := 9) (h := 6) (v := 4) dX3_skillOf_9 sh_6 rfl (sn_icmp_ge (pc := 10) (tgt := 22) dX3_skillOf_10 rfl (sn_iconst (pc := 22) (v := 0) dX3_skillOf_22 rfl (sn_reti (pc := 23) (R := fun x τ => (some ((x, τ)))) dX3_skillOf_23 rfl (fun _ _ _ _ e h => by cases e; exact h))) (sn_aload_n (pc := 13) (i := 0) dX3_skillOf_13 rfl (sn_gR (r0 := 6) (pc := 14) (h := 1) (f := 11) dX3_skillOf_14 am_CL_3 sh_1 rfl (Nat.le_of_ble_eq_true rfl) tw_111 (sn_iload_n (pc := 17) (i := 1) dX3_skillOf_17 rfl (sn_aI (pc := 18) (h := 6) dX3_skillOf_18 sh_6 (sn_goto (pc := 19) (tgt := 23) dX3_skillOf_19 rfl (sn_reti (pc := 23) (R := fun x τ => (some ((x, τ)))) dX3_skillOf_23 rfl (fun _ _ _ _ e h => by cases e; exact h))))))))))))))) _ _ _ _ _ ((eq_H_skillOf_1 x1 σ).symm.trans e) hr
noncomputable def cF_H_skillOf_1 : am_Fn := fun _ args σ K => match args with
  | [.ref q0, .int z1] => match Nat.beq q0 1 with
    | true => (f_H_skillOf_1 z1 σ).bind (fun p => K (some (.int p.1)) p.2)
    | _ => none
  | _ => none
theorem cal_H_skillOf_1 (G : am_G) : am_Cal G M_H_skillOf cF_H_skillOf_1 := by
  intro ρ args σ K r e
  unfold cF_H_skillOf_1 at e
  split at e
  · split at e
    · rename_i hq0
      obtain ⟨p, h1, h2⟩ := am_bind_some e
      rw [Nat.eq_of_beq_eq_true hq0]
      exact ⟨some (.int p.1), p.2, am_Met.of rfl (Nat.le_of_ble_eq_true rfl) (s_H_skillOf_1 G _ σ p _ h1 ⟨rfl, rfl⟩), h2⟩
    · cases e
  · cases e
abbrev M_H_natureOf : am_MD := (yX3_natureOf, cX3_natureOf, 3, (some (.object "ItWasLikeThat$Child")), 1, 21)
theorem dX3_natureOf_0 : decode cX3_natureOf 0 = .ok (.aload_n 0, 1) := by decide +kernel
theorem dX3_natureOf_1 : decode cX3_natureOf 1 = .ok (.iload_n 1, 1) := by decide +kernel
theorem dX3_natureOf_2 : decode cX3_natureOf 2 = .ok (.invokevirtual 113, 3) := by decide +kernel
theorem dX3_natureOf_5 : decode cX3_natureOf 5 = .ok (.istore_n 2, 1) := by decide +kernel
theorem dX3_natureOf_6 : decode cX3_natureOf 6 = .ok (.iload_n 2, 1) := by decide +kernel
theorem dX3_natureOf_7 : decode cX3_natureOf 7 = .ok (.ifCond .lt 21, 3) := by decide +kernel
theorem dX3_natureOf_10 : decode cX3_natureOf 10 = .ok (.iload_n 2, 1) := by decide +kernel
theorem dX3_natureOf_11 : decode cX3_natureOf 11 = .ok (.aload_n 0, 1) := by decide +kernel
theorem dX3_natureOf_12 : decode cX3_natureOf 12 = .ok (.getfield 64, 3) := by decide +kernel
theorem dX3_natureOf_15 : decode cX3_natureOf 15 = .ok (.arraylength, 1) := by decide +kernel
theorem dX3_natureOf_16 : decode cX3_natureOf 16 = .ok (.if_icmp .ge 12, 3) := by decide +kernel
theorem dX3_natureOf_19 : decode cX3_natureOf 19 = .ok (.aload_n 0, 1) := by decide +kernel
theorem dX3_natureOf_20 : decode cX3_natureOf 20 = .ok (.getfield 64, 3) := by decide +kernel
theorem dX3_natureOf_23 : decode cX3_natureOf 23 = .ok (.iload_n 2, 1) := by decide +kernel
theorem dX3_natureOf_24 : decode cX3_natureOf 24 = .ok (.aaload, 1) := by decide +kernel
theorem dX3_natureOf_25 : decode cX3_natureOf 25 = .ok (.goto 9, 3) := by decide +kernel
theorem dX3_natureOf_28 : decode cX3_natureOf 28 = .ok (.aload_n 0, 1) := by decide +kernel
theorem dX3_natureOf_29 : decode cX3_natureOf 29 = .ok (.getfield 64, 3) := by decide +kernel
theorem dX3_natureOf_32 : decode cX3_natureOf 32 = .ok (.iconst 0, 1) := by decide +kernel
theorem dX3_natureOf_33 : decode cX3_natureOf 33 = .ok (.aaload, 1) := by decide +kernel
theorem dX3_natureOf_34 : decode cX3_natureOf 34 = .ok (.areturn, 1) := by decide +kernel
noncomputable def g_H_natureOf_1_28 (σ : am_St) : Option (Nat × am_St) :=
  some ((12, σ))
noncomputable def f_H_natureOf_1_28 (σ : am_St) : Option (Nat × am_St) := am_lk (g_H_natureOf_1_28  σ)
theorem eq_H_natureOf_1_28 (σ : am_St) : f_H_natureOf_1_28  σ = g_H_natureOf_1_28  σ := am_lk_eq _
set_option maxRecDepth 100000 in
set_option maxHeartbeats 4000000 in
theorem s_H_natureOf_1_28 (G : am_G) (σ : am_St) (r : Nat × am_St) (Q : am_AQ) (e : f_H_natureOf_1_28  σ = some r) (hr : am_Pa r Q) : am_AW G M_H_natureOf 28 [(0, .ref 1)] [] σ Q :=
  (show am_Snd G M_H_natureOf 28 am_Pa _ from (sn_aload_n (pc := 28) (i := 0) dX3_natureOf_28 rfl (sn_gR (r0 := 11) (pc := 29) (h := 1) (f := 16) dX3_natureOf_29 am_CL_3 sh_1 rfl (Nat.le_of_ble_eq_true rfl) tw_116 (sn_iconst (pc := 32) (v := 0) dX3_natureOf_32 rfl (sn_aR (pc := 33) (h := 11) dX3_natureOf_33 sh_11 (sn_reta (pc := 34) (R := fun x τ => (some ((x, τ)))) dX3_natureOf_34 rfl (fun _ _ _ _ e h => by cases e; exact h))))))) _ _ _ _ _ ((eq_H_natureOf_1_28  σ).symm.trans e) hr
noncomputable def g_H_natureOf_1 (x1 : Int32) (σ : am_St) : Option (Nat × am_St) :=
  (f_H_kindOf_1 x1 σ).bind (fun p1 =>
    if p1.1 < 0 then
      f_H_natureOf_1_28 p1.2
    else
      if 6 ≤ p1.1 then
        f_H_natureOf_1_28 p1.2
      else
        if am_ix p1.1 6 = true then
          some (((11 + 1 + p1.1.toNatClampNeg), p1.2))
        else none)
noncomputable def f_H_natureOf_1 (x1 : Int32) (σ : am_St) : Option (Nat × am_St) := am_lk (g_H_natureOf_1 x1 σ)
theorem eq_H_natureOf_1 (x1 : Int32) (σ : am_St) : f_H_natureOf_1 x1 σ = g_H_natureOf_1 x1 σ := am_lk_eq _
set_option maxRecDepth 100000 in
set_option maxHeartbeats 4000000 in
theorem s_H_natureOf_1 (G : am_G) (x1 : Int32) (σ : am_St) (r : Nat × am_St) (Q : am_AQ) (e : f_H_natureOf_1 x1 σ = some r) (hr : am_Pa r Q) : am_AW G M_H_natureOf 0 [(0, .ref 1), (1, .int x1)] [] σ Q :=
  (show am_Snd G M_H_natureOf 0 am_Pa _ from (sn_aload_n (pc := 0) (i := 0) dX3_natureOf_0 rfl (sn_iload_n (pc := 1) (i := 1) dX3_natureOf_1 rfl (sn_callV (pc := 2) (N := M_H_kindOf) dX3_natureOf_2 (cal_H_kindOf_1 G) sh_1 rfl tw_459 tw_436 tw_437 tw_2 tw_438 dsc_X3_kindOf rfl (sn_istore_n (pc := 5) (i := 2) dX3_natureOf_5 rfl (Nat.le_of_ble_eq_true rfl) (sn_iload_n (pc := 6) (i := 2) dX3_natureOf_6 rfl (sn_if_lt (pc := 7) (tgt := 28) dX3_natureOf_7 rfl (sn_lf (pc := 28) (ln_a (i := 0) (q := 1) (ln_end (o := fun τ => f_H_natureOf_1_28 τ) (fun _ _ _ e h => s_H_natureOf_1_28 G  _ _ _ e h)))) (sn_iload_n (pc := 10) (i := 2) dX3_natureOf_10 rfl (sn_aload_n (pc := 11) (i := 0) dX3_natureOf_11 rfl (sn_gR (r0 := 11) (pc := 12) (h := 1) (f := 16) dX3_natureOf_12 am_CL_3 sh_1 rfl (Nat.le_of_ble_eq_true rfl) tw_116 (sn_len (pc := 15) (h := 11) (v := 6) dX3_natureOf_15 sh_11 rfl (sn_icmp_ge (pc := 16) (tgt := 28) dX3_natureOf_16 rfl (sn_lf (pc := 28) (ln_a (i := 0) (q := 1) (ln_end (o := fun τ => f_H_natureOf_1_28 τ) (fun _ _ _ e h => s_H_natureOf_1_28 G  _ _ _ e h)))) (sn_aload_n (pc := 19) (i := 0) dX3_natureOf_19 rfl (sn_gR (r0 := 11) (pc := 20) (h := 1) (f := 16) dX3_natureOf_20 am_CL_3 sh_1 rfl (Nat.le_of_ble_eq_true rfl) tw_116 (sn_iload_n (pc := 23) (i := 2) dX3_natureOf_23 rfl (sn_aR (pc := 24) (h := 11) dX3_natureOf_24 sh_11 (sn_goto (pc := 25) (tgt := 34) dX3_natureOf_25 rfl (sn_reta (pc := 34) (R := fun x τ => (some ((x, τ)))) dX3_natureOf_34 rfl (fun _ _ _ _ e h => by cases e; exact h))))))))))))))))))) _ _ _ _ _ ((eq_H_natureOf_1 x1 σ).symm.trans e) hr
noncomputable def cF_H_natureOf_1 : am_Fn := fun _ args σ K => match args with
  | [.ref q0, .int z1] => match Nat.beq q0 1 with
    | true => (f_H_natureOf_1 z1 σ).bind (fun p => K (some (.ref p.1)) p.2)
    | _ => none
  | _ => none
theorem cal_H_natureOf_1 (G : am_G) : am_Cal G M_H_natureOf cF_H_natureOf_1 := by
  intro ρ args σ K r e
  unfold cF_H_natureOf_1 at e
  split at e
  · split at e
    · rename_i hq0
      obtain ⟨p, h1, h2⟩ := am_bind_some e
      rw [Nat.eq_of_beq_eq_true hq0]
      exact ⟨some (.ref p.1), p.2, am_Met.of rfl (Nat.le_of_ble_eq_true rfl) (s_H_natureOf_1 G _ σ p _ h1 ⟨rfl, rfl⟩), h2⟩
    · cases e
  · cases e
