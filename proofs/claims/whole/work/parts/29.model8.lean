abbrev M_M_seeds : am_MD := (yX12_seeds, cX12_seeds, 10, (some .int), 3, 69)
theorem dX12_seeds_0 : decode cX12_seeds 0 = .ok (.aload_n 0, 1) := by decide +kernel
theorem dX12_seeds_1 : decode cX12_seeds 1 = .ok (.iconst 0, 1) := by decide +kernel
theorem dX12_seeds_2 : decode cX12_seeds 2 = .ok (.putfield 102, 3) := by decide +kernel
theorem dX12_seeds_5 : decode cX12_seeds 5 = .ok (.iload_n 1, 1) := by decide +kernel
theorem dX12_seeds_6 : decode cX12_seeds 6 = .ok (.iconst 1, 1) := by decide +kernel
theorem dX12_seeds_7 : decode cX12_seeds 7 = .ok (.bipush 20, 2) := by decide +kernel
theorem dX12_seeds_9 : decode cX12_seeds 9 = .ok (.invokestatic 268, 3) := by decide +kernel
theorem dX12_seeds_12 : decode cX12_seeds 12 = .ok (.istore 4, 2) := by decide +kernel
theorem dX12_seeds_14 : decode cX12_seeds 14 = .ok (.iload 4, 2) := by decide +kernel
theorem dX12_seeds_16 : decode cX12_seeds 16 = .ok (.ifCond .ne 18, 3) := by decide +kernel
theorem dX12_seeds_19 : decode cX12_seeds 19 = .ok (.iload_n 3, 1) := by decide +kernel
theorem dX12_seeds_20 : decode cX12_seeds 20 = .ok (.i2l, 1) := by decide +kernel
theorem dX12_seeds_21 : decode cX12_seeds 21 = .ok (.lconst 0, 1) := by decide +kernel
theorem dX12_seeds_22 : decode cX12_seeds 22 = .ok (.lconst 1, 1) := by decide +kernel
theorem dX12_seeds_23 : decode cX12_seeds 23 = .ok (.invokestatic 108, 3) := by decide +kernel
theorem dX12_seeds_26 : decode cX12_seeds 26 = .ok (.ifCond .ne 8, 3) := by decide +kernel
theorem dX12_seeds_29 : decode cX12_seeds 29 = .ok (.bipush (-2), 2) := by decide +kernel
theorem dX12_seeds_31 : decode cX12_seeds 31 = .ok (.goto 5, 3) := by decide +kernel
theorem dX12_seeds_34 : decode cX12_seeds 34 = .ok (.iload 4, 2) := by decide +kernel
theorem dX12_seeds_36 : decode cX12_seeds 36 = .ok (.istore 4, 2) := by decide +kernel
theorem dX12_seeds_38 : decode cX12_seeds 38 = .ok (.iload 4, 2) := by decide +kernel
theorem dX12_seeds_40 : decode cX12_seeds 40 = .ok (.ifCond .ge 10, 3) := by decide +kernel
theorem dX12_seeds_43 : decode cX12_seeds 43 = .ok (.aload_n 0, 1) := by decide +kernel
theorem dX12_seeds_44 : decode cX12_seeds 44 = .ok (.iload 4, 2) := by decide +kernel
theorem dX12_seeds_46 : decode cX12_seeds 46 = .ok (.invokevirtual 154, 3) := by decide +kernel
theorem dX12_seeds_49 : decode cX12_seeds 49 = .ok (.ireturn, 1) := by decide +kernel
theorem dX12_seeds_50 : decode cX12_seeds 50 = .ok (.aload_n 0, 1) := by decide +kernel
theorem dX12_seeds_51 : decode cX12_seeds 51 = .ok (.iload_n 2, 1) := by decide +kernel
theorem dX12_seeds_52 : decode cX12_seeds 52 = .ok (.putfield 349, 3) := by decide +kernel
theorem dX12_seeds_55 : decode cX12_seeds 55 = .ok (.iconst 0, 1) := by decide +kernel
theorem dX12_seeds_56 : decode cX12_seeds 56 = .ok (.istore 5, 2) := by decide +kernel
theorem dX12_seeds_58 : decode cX12_seeds 58 = .ok (.iconst 0, 1) := by decide +kernel
theorem dX12_seeds_59 : decode cX12_seeds 59 = .ok (.istore 6, 2) := by decide +kernel
theorem dX12_seeds_61 : decode cX12_seeds 61 = .ok (.iconst 0, 1) := by decide +kernel
theorem dX12_seeds_62 : decode cX12_seeds 62 = .ok (.istore 7, 2) := by decide +kernel
theorem dX12_seeds_64 : decode cX12_seeds 64 = .ok (.iload 7, 2) := by decide +kernel
theorem dX12_seeds_66 : decode cX12_seeds 66 = .ok (.iload_n 1, 1) := by decide +kernel
theorem dX12_seeds_67 : decode cX12_seeds 67 = .ok (.if_icmp .ge 70, 3) := by decide +kernel
theorem dX12_seeds_70 : decode cX12_seeds 70 = .ok (.iconst 0, 1) := by decide +kernel
theorem dX12_seeds_71 : decode cX12_seeds 71 = .ok (.istore 8, 2) := by decide +kernel
theorem dX12_seeds_73 : decode cX12_seeds 73 = .ok (.iconst 0, 1) := by decide +kernel
theorem dX12_seeds_74 : decode cX12_seeds 74 = .ok (.istore 9, 2) := by decide +kernel
theorem dX12_seeds_76 : decode cX12_seeds 76 = .ok (.iload 9, 2) := by decide +kernel
theorem dX12_seeds_78 : decode cX12_seeds 78 = .ok (.aload_n 0, 1) := by decide +kernel
theorem dX12_seeds_79 : decode cX12_seeds 79 = .ok (.getfield 105, 3) := by decide +kernel
theorem dX12_seeds_82 : decode cX12_seeds 82 = .ok (.if_icmp .ge 26, 3) := by decide +kernel
theorem dX12_seeds_85 : decode cX12_seeds 85 = .ok (.iload 8, 2) := by decide +kernel
theorem dX12_seeds_87 : decode cX12_seeds 87 = .ok (.aload_n 0, 1) := by decide +kernel
theorem dX12_seeds_88 : decode cX12_seeds 88 = .ok (.invokevirtual 361, 3) := by decide +kernel
theorem dX12_seeds_91 : decode cX12_seeds 91 = .ok (.ifCond .eq 7, 3) := by decide +kernel
theorem dX12_seeds_94 : decode cX12_seeds 94 = .ok (.iconst 1, 1) := by decide +kernel
theorem dX12_seeds_95 : decode cX12_seeds 95 = .ok (.goto 4, 3) := by decide +kernel
theorem dX12_seeds_98 : decode cX12_seeds 98 = .ok (.iconst 0, 1) := by decide +kernel
theorem dX12_seeds_99 : decode cX12_seeds 99 = .ok (.iadd, 1) := by decide +kernel
theorem dX12_seeds_100 : decode cX12_seeds 100 = .ok (.istore 8, 2) := by decide +kernel
theorem dX12_seeds_102 : decode cX12_seeds 102 = .ok (.iinc 9 1, 3) := by decide +kernel
theorem dX12_seeds_105 : decode cX12_seeds 105 = .ok (.goto (-29), 3) := by decide +kernel
theorem dX12_seeds_108 : decode cX12_seeds 108 = .ok (.iload 5, 2) := by decide +kernel
theorem dX12_seeds_110 : decode cX12_seeds 110 = .ok (.iload 8, 2) := by decide +kernel
theorem dX12_seeds_112 : decode cX12_seeds 112 = .ok (.iconst 1, 1) := by decide +kernel
theorem dX12_seeds_113 : decode cX12_seeds 113 = .ok (.if_icmp .ne 7, 3) := by decide +kernel
theorem dX12_seeds_116 : decode cX12_seeds 116 = .ok (.iconst 1, 1) := by decide +kernel
theorem dX12_seeds_117 : decode cX12_seeds 117 = .ok (.goto 4, 3) := by decide +kernel
theorem dX12_seeds_120 : decode cX12_seeds 120 = .ok (.iconst 0, 1) := by decide +kernel
theorem dX12_seeds_121 : decode cX12_seeds 121 = .ok (.iadd, 1) := by decide +kernel
theorem dX12_seeds_122 : decode cX12_seeds 122 = .ok (.istore 5, 2) := by decide +kernel
theorem dX12_seeds_124 : decode cX12_seeds 124 = .ok (.iload 6, 2) := by decide +kernel
theorem dX12_seeds_126 : decode cX12_seeds 126 = .ok (.iload 8, 2) := by decide +kernel
theorem dX12_seeds_128 : decode cX12_seeds 128 = .ok (.iadd, 1) := by decide +kernel
theorem dX12_seeds_129 : decode cX12_seeds 129 = .ok (.istore 6, 2) := by decide +kernel
theorem dX12_seeds_131 : decode cX12_seeds 131 = .ok (.iinc 7 1, 3) := by decide +kernel
theorem dX12_seeds_134 : decode cX12_seeds 134 = .ok (.goto (-70), 3) := by decide +kernel
theorem dX12_seeds_137 : decode cX12_seeds 137 = .ok (.iload_n 3, 1) := by decide +kernel
theorem dX12_seeds_138 : decode cX12_seeds 138 = .ok (.ifCond .ne 8, 3) := by decide +kernel
theorem dX12_seeds_141 : decode cX12_seeds 141 = .ok (.iload 5, 2) := by decide +kernel
theorem dX12_seeds_143 : decode cX12_seeds 143 = .ok (.goto 5, 3) := by decide +kernel
theorem dX12_seeds_146 : decode cX12_seeds 146 = .ok (.iload 6, 2) := by decide +kernel
theorem dX12_seeds_148 : decode cX12_seeds 148 = .ok (.ireturn, 1) := by decide +kernel
abbrev Pl_M_seeds_64 (G : am_G) : ((Int32 × Int32 × Int32 × Int32 × Int32 × am_St) ⊕ (Int32 × am_St)) → am_AQ → Prop := am_PL G M_M_seeds 64 (fun s : Int32 × Int32 × Int32 × Int32 × Int32 × am_St => [(7, .int s.2.2.2.2.1), (6, .int s.2.2.2.1), (5, .int s.2.2.1), (3, .int s.2.1), (1, .int s.1), (0, .ref 66)]) (fun s => s.2.2.2.2.2) am_Pi
abbrev Pl_M_seeds_76 (G : am_G) : ((Int32 × Int32 × Int32 × Int32 × Int32 × Int32 × Int32 × am_St) ⊕ ((Int32 × Int32 × Int32 × Int32 × Int32 × am_St) ⊕ (Int32 × am_St))) → am_AQ → Prop := am_PL G M_M_seeds 76 (fun s : Int32 × Int32 × Int32 × Int32 × Int32 × Int32 × Int32 × am_St => [(9, .int s.2.2.2.2.2.2.1), (8, .int s.2.2.2.2.2.1), (7, .int s.2.2.2.2.1), (6, .int s.2.2.2.1), (5, .int s.2.2.1), (3, .int s.2.1), (1, .int s.1), (0, .ref 66)]) (fun s => s.2.2.2.2.2.2.2) (Pl_M_seeds_64 G)
noncomputable def g_M_seeds_99 (x1 : Int32) (x3 : Int32) (x5 : Int32) (x6 : Int32) (x7 : Int32) (x9 : Int32) (y0 : Int32) (y1 : Int32) (σ : am_St) : Option ((Int32 × Int32 × Int32 × Int32 × Int32 × Int32 × Int32 × am_St) ⊕ ((Int32 × Int32 × Int32 × Int32 × Int32 × am_St) ⊕ (Int32 × am_St))) :=
  let v1 := y0 + y1
  let v2 := x9 + 1
  some (.inl (x1, x3, x5, x6, x7, v1, v2, σ))
noncomputable def f_M_seeds_99 (x1 : Int32) (x3 : Int32) (x5 : Int32) (x6 : Int32) (x7 : Int32) (x9 : Int32) (y0 : Int32) (y1 : Int32) (σ : am_St) : Option ((Int32 × Int32 × Int32 × Int32 × Int32 × Int32 × Int32 × am_St) ⊕ ((Int32 × Int32 × Int32 × Int32 × Int32 × am_St) ⊕ (Int32 × am_St))) := am_lk (g_M_seeds_99 x1 x3 x5 x6 x7 x9 y0 y1 σ)
theorem eq_M_seeds_99 (x1 : Int32) (x3 : Int32) (x5 : Int32) (x6 : Int32) (x7 : Int32) (x9 : Int32) (y0 : Int32) (y1 : Int32) (σ : am_St) : f_M_seeds_99 x1 x3 x5 x6 x7 x9 y0 y1 σ = g_M_seeds_99 x1 x3 x5 x6 x7 x9 y0 y1 σ := am_lk_eq _
set_option maxRecDepth 100000 in
set_option maxHeartbeats 4000000 in
theorem s_M_seeds_99 (G : am_G) (x1 : Int32) (x3 : Int32) (x5 : Int32) (x6 : Int32) (x7 : Int32) (x9 : Int32) (y0 : Int32) (y1 : Int32) (σ : am_St) (r : (Int32 × Int32 × Int32 × Int32 × Int32 × Int32 × Int32 × am_St) ⊕ ((Int32 × Int32 × Int32 × Int32 × Int32 × am_St) ⊕ (Int32 × am_St))) (Q : am_AQ) (e : f_M_seeds_99 x1 x3 x5 x6 x7 x9 y0 y1 σ = some r) (hr : (Pl_M_seeds_76 G) r Q) : am_AW G M_M_seeds 99 [(9, .int x9), (7, .int x7), (6, .int x6), (5, .int x5), (3, .int x3), (1, .int x1), (0, .ref 66)] [.int y1, .int y0] σ Q :=
  (show am_Snd G M_M_seeds 99 (Pl_M_seeds_76 G) _ from (sn_iadd (pc := 99) dX12_seeds_99 (sn_istore (pc := 100) dX12_seeds_100 (Nat.le_of_ble_eq_true rfl) (sn_iinc (pc := 102) (v := 1) dX12_seeds_102 rfl (Nat.le_of_ble_eq_true rfl) (sn_goto (pc := 105) (tgt := 76) dX12_seeds_105 rfl (sn_lf (pc := 76) (ln_a (i := 0) (q := 66) (ln_i (i := 1) (fun z0 => (ln_i (i := 3) (fun z1 => (ln_i (i := 5) (fun z2 => (ln_i (i := 6) (fun z3 => (ln_i (i := 7) (fun z4 => (ln_i (i := 8) (fun z5 => (ln_i (i := 9) (fun z6 => (ln_end (o := fun τ => (some (.inl (z0, z1, z2, z3, z4, z5, z6, τ)) : Option ((Int32 × Int32 × Int32 × Int32 × Int32 × Int32 × Int32 × am_St) ⊕ ((Int32 × Int32 × Int32 × Int32 × Int32 × am_St) ⊕ (Int32 × am_St))))) (fun _ _ _ e h => by cases e; exact h))))))))))))))))))))))) _ _ _ _ _ ((eq_M_seeds_99 x1 x3 x5 x6 x7 x9 y0 y1 σ).symm.trans e) hr
noncomputable def g_M_seeds_121 (x1 : Int32) (x3 : Int32) (x6 : Int32) (x7 : Int32) (x8 : Int32) (y0 : Int32) (y1 : Int32) (σ : am_St) : Option ((Int32 × Int32 × Int32 × Int32 × Int32 × am_St) ⊕ (Int32 × am_St)) :=
  let v1 := y0 + y1
  let v2 := x6 + x8
  let v3 := x7 + 1
  some (.inl (x1, x3, v1, v2, v3, σ))
noncomputable def f_M_seeds_121 (x1 : Int32) (x3 : Int32) (x6 : Int32) (x7 : Int32) (x8 : Int32) (y0 : Int32) (y1 : Int32) (σ : am_St) : Option ((Int32 × Int32 × Int32 × Int32 × Int32 × am_St) ⊕ (Int32 × am_St)) := am_lk (g_M_seeds_121 x1 x3 x6 x7 x8 y0 y1 σ)
theorem eq_M_seeds_121 (x1 : Int32) (x3 : Int32) (x6 : Int32) (x7 : Int32) (x8 : Int32) (y0 : Int32) (y1 : Int32) (σ : am_St) : f_M_seeds_121 x1 x3 x6 x7 x8 y0 y1 σ = g_M_seeds_121 x1 x3 x6 x7 x8 y0 y1 σ := am_lk_eq _
set_option maxRecDepth 100000 in
set_option maxHeartbeats 4000000 in
theorem s_M_seeds_121 (G : am_G) (x1 : Int32) (x3 : Int32) (x6 : Int32) (x7 : Int32) (x8 : Int32) (y0 : Int32) (y1 : Int32) (σ : am_St) (r : (Int32 × Int32 × Int32 × Int32 × Int32 × am_St) ⊕ (Int32 × am_St)) (Q : am_AQ) (e : f_M_seeds_121 x1 x3 x6 x7 x8 y0 y1 σ = some r) (hr : (Pl_M_seeds_64 G) r Q) : am_AW G M_M_seeds 121 [(8, .int x8), (7, .int x7), (6, .int x6), (3, .int x3), (1, .int x1), (0, .ref 66)] [.int y1, .int y0] σ Q :=
  (show am_Snd G M_M_seeds 121 (Pl_M_seeds_64 G) _ from (sn_iadd (pc := 121) dX12_seeds_121 (sn_istore (pc := 122) dX12_seeds_122 (Nat.le_of_ble_eq_true rfl) (sn_iload (pc := 124) dX12_seeds_124 (sn_iload (pc := 126) dX12_seeds_126 (sn_iadd (pc := 128) dX12_seeds_128 (sn_istore (pc := 129) dX12_seeds_129 (Nat.le_of_ble_eq_true rfl) (sn_iinc (pc := 131) (v := 1) dX12_seeds_131 rfl (Nat.le_of_ble_eq_true rfl) (sn_goto (pc := 134) (tgt := 64) dX12_seeds_134 rfl (sn_lf (pc := 64) (ln_a (i := 0) (q := 66) (ln_i (i := 1) (fun z0 => (ln_i (i := 3) (fun z1 => (ln_i (i := 5) (fun z2 => (ln_i (i := 6) (fun z3 => (ln_i (i := 7) (fun z4 => (ln_end (o := fun τ => (some (.inl (z0, z1, z2, z3, z4, τ)) : Option ((Int32 × Int32 × Int32 × Int32 × Int32 × am_St) ⊕ (Int32 × am_St)))) (fun _ _ _ e h => by cases e; exact h))))))))))))))))))))))) _ _ _ _ _ ((eq_M_seeds_121 x1 x3 x6 x7 x8 y0 y1 σ).symm.trans e) hr
noncomputable def b_M_seeds_76 (x1 : Int32) (x3 : Int32) (x5 : Int32) (x6 : Int32) (x7 : Int32) (x8 : Int32) (x9 : Int32) (σ : am_St) : Option ((Int32 × Int32 × Int32 × Int32 × Int32 × Int32 × Int32 × am_St) ⊕ ((Int32 × Int32 × Int32 × Int32 × Int32 × am_St) ⊕ (Int32 × am_St))) :=
  if (σ.1 66 2) ≤ x9 then
    if x8 = 1 then
      (f_M_seeds_121 x1 x3 x6 x7 x8 x5 1 σ).map (fun r => .inr r)
    else
      (f_M_seeds_121 x1 x3 x6 x7 x8 x5 0 σ).map (fun r => .inr r)
  else
    (f_M_goesThere σ).bind (fun p1 =>
      if p1.1 = 0 then
        f_M_seeds_99 x1 x3 x5 x6 x7 x9 x8 0 p1.2
      else
        f_M_seeds_99 x1 x3 x5 x6 x7 x9 x8 1 p1.2)
noncomputable def f_M_seeds_76 (x1 : Int32) (x3 : Int32) (x5 : Int32) (x6 : Int32) (x7 : Int32) (x8 : Int32) (x9 : Int32) (σ : am_St) : Option ((Int32 × Int32 × Int32 × Int32 × Int32 × am_St) ⊕ (Int32 × am_St)) := am_lp (fun s : Int32 × Int32 × Int32 × Int32 × Int32 × Int32 × Int32 × am_St => b_M_seeds_76 s.1 s.2.1 s.2.2.1 s.2.2.2.1 s.2.2.2.2.1 s.2.2.2.2.2.1 s.2.2.2.2.2.2.1 s.2.2.2.2.2.2.2) (x1, x3, x5, x6, x7, x8, x9, σ)
set_option maxRecDepth 100000 in
set_option maxHeartbeats 4000000 in
theorem sb_M_seeds_76 (G : am_G) (x1 : Int32) (x3 : Int32) (x5 : Int32) (x6 : Int32) (x7 : Int32) (x8 : Int32) (x9 : Int32) (σ : am_St) (r : (Int32 × Int32 × Int32 × Int32 × Int32 × Int32 × Int32 × am_St) ⊕ ((Int32 × Int32 × Int32 × Int32 × Int32 × am_St) ⊕ (Int32 × am_St))) (Q : am_AQ) (e : b_M_seeds_76 x1 x3 x5 x6 x7 x8 x9 σ = some r) (hr : Pl_M_seeds_76 G r Q) : am_AW G M_M_seeds 76 [(9, .int x9), (8, .int x8), (7, .int x7), (6, .int x6), (5, .int x5), (3, .int x3), (1, .int x1), (0, .ref 66)] [] σ Q :=
  (show am_Snd G M_M_seeds 76 (Pl_M_seeds_76 G) _ from (sn_iload (pc := 76) dX12_seeds_76 (sn_aload_n (pc := 78) (i := 0) dX12_seeds_78 rfl (sn_gI (pc := 79) (h := 66) (f := 2) dX12_seeds_79 am_CL_11 sh_66 rfl (Nat.le_of_ble_eq_true rfl) tw_943 (sn_icmp_ge (pc := 82) (tgt := 108) dX12_seeds_82 rfl (sn_iload (pc := 108) dX12_seeds_108 (sn_iload (pc := 110) dX12_seeds_110 (sn_iconst (pc := 112) (v := 1) dX12_seeds_112 rfl (sn_icmp_ne (pc := 113) (tgt := 120) dX12_seeds_113 rfl (sn_iconst (pc := 120) (v := 0) dX12_seeds_120 rfl (sn_lf (pc := 121) (ln_a (i := 0) (q := 66) (ln_i (i := 1) (fun z0 => (ln_i (i := 3) (fun z1 => (ln_i (i := 6) (fun z2 => (ln_i (i := 7) (fun z3 => (ln_i (i := 8) (fun z4 => (ln_si (fun w1 => (ln_si (fun w0 => (ln_end (o := fun τ => ((f_M_seeds_121 z0 z1 z2 z3 z4 w0 w1 τ).map (fun r => .inr r) : Option ((Int32 × Int32 × Int32 × Int32 × Int32 × Int32 × Int32 × am_St) ⊕ ((Int32 × Int32 × Int32 × Int32 × Int32 × am_St) ⊕ (Int32 × am_St))))) (fun _ _ _ e h => by obtain ⟨r9, e9, rfl⟩ := am_map_some e; exact s_M_seeds_121 G z0 z1 z2 z3 z4 w0 w1 _ _ _ e9 h))))))))))))))))))) (sn_iconst (pc := 116) (v := 1) dX12_seeds_116 rfl (sn_goto (pc := 117) (tgt := 121) dX12_seeds_117 rfl (sn_lf (pc := 121) (ln_a (i := 0) (q := 66) (ln_i (i := 1) (fun z0 => (ln_i (i := 3) (fun z1 => (ln_i (i := 6) (fun z2 => (ln_i (i := 7) (fun z3 => (ln_i (i := 8) (fun z4 => (ln_si (fun w1 => (ln_si (fun w0 => (ln_end (o := fun τ => ((f_M_seeds_121 z0 z1 z2 z3 z4 w0 w1 τ).map (fun r => .inr r) : Option ((Int32 × Int32 × Int32 × Int32 × Int32 × Int32 × Int32 × am_St) ⊕ ((Int32 × Int32 × Int32 × Int32 × Int32 × am_St) ⊕ (Int32 × am_St))))) (fun _ _ _ e h => by obtain ⟨r9, e9, rfl⟩ := am_map_some e; exact s_M_seeds_121 G z0 z1 z2 z3 z4 w0 w1 _ _ _ e9 h)))))))))))))))))))))))) (sn_iload (pc := 85) dX12_seeds_85 (sn_aload_n (pc := 87) (i := 0) dX12_seeds_87 rfl (sn_callV (pc := 88) (N := M_M_goesThere) dX12_seeds_88 (cal_M_goesThere G) sh_66 rfl tw_1444 tw_1446 tp_70 tw_12 tw_1447 dsc_X12_goesThere rfl (sn_if_eq (pc := 91) (tgt := 98) dX12_seeds_91 rfl (sn_iconst (pc := 98) (v := 0) dX12_seeds_98 rfl (sn_lf (pc := 99) (ln_a (i := 0) (q := 66) (ln_i (i := 1) (fun z0 => (ln_i (i := 3) (fun z1 => (ln_i (i := 5) (fun z2 => (ln_i (i := 6) (fun z3 => (ln_i (i := 7) (fun z4 => (ln_i (i := 9) (fun z5 => (ln_si (fun w1 => (ln_si (fun w0 => (ln_end (o := fun τ => f_M_seeds_99 z0 z1 z2 z3 z4 z5 w0 w1 τ) (fun _ _ _ e h => s_M_seeds_99 G z0 z1 z2 z3 z4 z5 w0 w1 _ _ _ e h))))))))))))))))))))) (sn_iconst (pc := 94) (v := 1) dX12_seeds_94 rfl (sn_goto (pc := 95) (tgt := 99) dX12_seeds_95 rfl (sn_lf (pc := 99) (ln_a (i := 0) (q := 66) (ln_i (i := 1) (fun z0 => (ln_i (i := 3) (fun z1 => (ln_i (i := 5) (fun z2 => (ln_i (i := 6) (fun z3 => (ln_i (i := 7) (fun z4 => (ln_i (i := 9) (fun z5 => (ln_si (fun w1 => (ln_si (fun w0 => (ln_end (o := fun τ => f_M_seeds_99 z0 z1 z2 z3 z4 z5 w0 w1 τ) (fun _ _ _ e h => s_M_seeds_99 G z0 z1 z2 z3 z4 z5 w0 w1 _ _ _ e h))))))))))))))))))))))))))))))) _ _ _ _ _ e hr
theorem s_M_seeds_76 (G : am_G) (x1 : Int32) (x3 : Int32) (x5 : Int32) (x6 : Int32) (x7 : Int32) (x8 : Int32) (x9 : Int32) (σ : am_St) (r : (Int32 × Int32 × Int32 × Int32 × Int32 × am_St) ⊕ (Int32 × am_St)) (Q : am_AQ) (e : f_M_seeds_76 x1 x3 x5 x6 x7 x8 x9 σ = some r) (hr : (Pl_M_seeds_64 G) r Q) : am_AW G M_M_seeds 76 [(9, .int x9), (8, .int x8), (7, .int x7), (6, .int x6), (5, .int x5), (3, .int x3), (1, .int x1), (0, .ref 66)] [] σ Q :=
  am_loop (P := (Pl_M_seeds_64 G)) (L := fun s : Int32 × Int32 × Int32 × Int32 × Int32 × Int32 × Int32 × am_St => [(9, .int s.2.2.2.2.2.2.1), (8, .int s.2.2.2.2.2.1), (7, .int s.2.2.2.2.1), (6, .int s.2.2.2.1), (5, .int s.2.2.1), (3, .int s.2.1), (1, .int s.1), (0, .ref 66)]) (g := fun s => s.2.2.2.2.2.2.2) (fun s o Q e hr => sb_M_seeds_76 G s.1 s.2.1 s.2.2.1 s.2.2.2.1 s.2.2.2.2.1 s.2.2.2.2.2.1 s.2.2.2.2.2.2.1 s.2.2.2.2.2.2.2 o Q e hr) (x1, x3, x5, x6, x7, x8, x9, σ) r Q e hr
noncomputable def b_M_seeds_64 (x1 : Int32) (x3 : Int32) (x5 : Int32) (x6 : Int32) (x7 : Int32) (σ : am_St) : Option ((Int32 × Int32 × Int32 × Int32 × Int32 × am_St) ⊕ (Int32 × am_St)) :=
  if x1 ≤ x7 then
    if x3 = 0 then
      some (.inr ((x5, σ)))
    else
      some (.inr ((x6, σ)))
  else
    f_M_seeds_76 x1 x3 x5 x6 x7 0 0 σ
noncomputable def f_M_seeds_64 (x1 : Int32) (x3 : Int32) (x5 : Int32) (x6 : Int32) (x7 : Int32) (σ : am_St) : Option (Int32 × am_St) := am_lp (fun s : Int32 × Int32 × Int32 × Int32 × Int32 × am_St => b_M_seeds_64 s.1 s.2.1 s.2.2.1 s.2.2.2.1 s.2.2.2.2.1 s.2.2.2.2.2) (x1, x3, x5, x6, x7, σ)
set_option maxRecDepth 100000 in
set_option maxHeartbeats 4000000 in
theorem sb_M_seeds_64 (G : am_G) (x1 : Int32) (x3 : Int32) (x5 : Int32) (x6 : Int32) (x7 : Int32) (σ : am_St) (r : (Int32 × Int32 × Int32 × Int32 × Int32 × am_St) ⊕ (Int32 × am_St)) (Q : am_AQ) (e : b_M_seeds_64 x1 x3 x5 x6 x7 σ = some r) (hr : Pl_M_seeds_64 G r Q) : am_AW G M_M_seeds 64 [(7, .int x7), (6, .int x6), (5, .int x5), (3, .int x3), (1, .int x1), (0, .ref 66)] [] σ Q :=
  (show am_Snd G M_M_seeds 64 (Pl_M_seeds_64 G) _ from (sn_iload (pc := 64) dX12_seeds_64 (sn_iload_n (pc := 66) (i := 1) dX12_seeds_66 rfl (sn_icmp_ge (pc := 67) (tgt := 137) dX12_seeds_67 rfl (sn_iload_n (pc := 137) (i := 3) dX12_seeds_137 rfl (sn_if_ne (pc := 138) (tgt := 146) dX12_seeds_138 rfl (sn_iload (pc := 146) dX12_seeds_146 (sn_reti (pc := 148) (R := fun x τ => (some (.inr ((x, τ))) : Option ((Int32 × Int32 × Int32 × Int32 × Int32 × am_St) ⊕ (Int32 × am_St)))) dX12_seeds_148 rfl (fun _ _ _ _ e h => by cases e; exact h))) (sn_iload (pc := 141) dX12_seeds_141 (sn_goto (pc := 143) (tgt := 148) dX12_seeds_143 rfl (sn_reti (pc := 148) (R := fun x τ => (some (.inr ((x, τ))) : Option ((Int32 × Int32 × Int32 × Int32 × Int32 × am_St) ⊕ (Int32 × am_St)))) dX12_seeds_148 rfl (fun _ _ _ _ e h => by cases e; exact h)))))) (sn_iconst (pc := 70) (v := 0) dX12_seeds_70 rfl (sn_istore (pc := 71) dX12_seeds_71 (Nat.le_of_ble_eq_true rfl) (sn_iconst (pc := 73) (v := 0) dX12_seeds_73 rfl (sn_istore (pc := 74) dX12_seeds_74 (Nat.le_of_ble_eq_true rfl) (sn_lf (pc := 76) (ln_a (i := 0) (q := 66) (ln_i (i := 1) (fun z0 => (ln_i (i := 3) (fun z1 => (ln_i (i := 5) (fun z2 => (ln_i (i := 6) (fun z3 => (ln_i (i := 7) (fun z4 => (ln_i (i := 8) (fun z5 => (ln_i (i := 9) (fun z6 => (ln_end (o := fun τ => f_M_seeds_76 z0 z1 z2 z3 z4 z5 z6 τ) (fun _ _ _ e h => s_M_seeds_76 G z0 z1 z2 z3 z4 z5 z6 _ _ _ e h)))))))))))))))))))))))))) _ _ _ _ _ e hr
theorem s_M_seeds_64 (G : am_G) (x1 : Int32) (x3 : Int32) (x5 : Int32) (x6 : Int32) (x7 : Int32) (σ : am_St) (r : Int32 × am_St) (Q : am_AQ) (e : f_M_seeds_64 x1 x3 x5 x6 x7 σ = some r) (hr : am_Pi r Q) : am_AW G M_M_seeds 64 [(7, .int x7), (6, .int x6), (5, .int x5), (3, .int x3), (1, .int x1), (0, .ref 66)] [] σ Q :=
  am_loop (P := am_Pi) (L := fun s : Int32 × Int32 × Int32 × Int32 × Int32 × am_St => [(7, .int s.2.2.2.2.1), (6, .int s.2.2.2.1), (5, .int s.2.2.1), (3, .int s.2.1), (1, .int s.1), (0, .ref 66)]) (g := fun s => s.2.2.2.2.2) (fun s o Q e hr => sb_M_seeds_64 G s.1 s.2.1 s.2.2.1 s.2.2.2.1 s.2.2.2.2.1 s.2.2.2.2.2 o Q e hr) (x1, x3, x5, x6, x7, σ) r Q e hr
noncomputable def g_M_seeds_36 (x1 : Int32) (x2 : Int32) (x3 : Int32) (y0 : Int32) (σ : am_St) : Option (Int32 × am_St) :=
  if 0 ≤ y0 then
    let s1 := am_sI σ 66 47 x2
    f_M_seeds_64 x1 x3 0 0 0 s1
  else
    (f_M_refuse y0 σ).bind (fun p2 =>
      some ((p2.1, p2.2)))
noncomputable def f_M_seeds_36 (x1 : Int32) (x2 : Int32) (x3 : Int32) (y0 : Int32) (σ : am_St) : Option (Int32 × am_St) := am_lk (g_M_seeds_36 x1 x2 x3 y0 σ)
theorem eq_M_seeds_36 (x1 : Int32) (x2 : Int32) (x3 : Int32) (y0 : Int32) (σ : am_St) : f_M_seeds_36 x1 x2 x3 y0 σ = g_M_seeds_36 x1 x2 x3 y0 σ := am_lk_eq _
set_option maxRecDepth 100000 in
set_option maxHeartbeats 4000000 in
theorem s_M_seeds_36 (G : am_G) (x1 : Int32) (x2 : Int32) (x3 : Int32) (y0 : Int32) (σ : am_St) (r : Int32 × am_St) (Q : am_AQ) (e : f_M_seeds_36 x1 x2 x3 y0 σ = some r) (hr : am_Pi r Q) : am_AW G M_M_seeds 36 [(3, .int x3), (2, .int x2), (1, .int x1), (0, .ref 66)] [.int y0] σ Q :=
  (show am_Snd G M_M_seeds 36 am_Pi _ from (sn_istore (pc := 36) dX12_seeds_36 (Nat.le_of_ble_eq_true rfl) (sn_iload (pc := 38) dX12_seeds_38 (sn_if_ge (pc := 40) (tgt := 50) dX12_seeds_40 rfl (sn_aload_n (pc := 50) (i := 0) dX12_seeds_50 rfl (sn_iload_n (pc := 51) (i := 2) dX12_seeds_51 rfl (sn_pI (pc := 52) (h := 66) (f := 47) dX12_seeds_52 am_CL_11 sh_66 rfl (Nat.le_of_ble_eq_true rfl) tw_988 rfl rfl (sn_iconst (pc := 55) (v := 0) dX12_seeds_55 rfl (sn_istore (pc := 56) dX12_seeds_56 (Nat.le_of_ble_eq_true rfl) (sn_iconst (pc := 58) (v := 0) dX12_seeds_58 rfl (sn_istore (pc := 59) dX12_seeds_59 (Nat.le_of_ble_eq_true rfl) (sn_iconst (pc := 61) (v := 0) dX12_seeds_61 rfl (sn_istore (pc := 62) dX12_seeds_62 (Nat.le_of_ble_eq_true rfl) (sn_lf (pc := 64) (ln_a (i := 0) (q := 66) (ln_i (i := 1) (fun z0 => (ln_i (i := 3) (fun z1 => (ln_i (i := 5) (fun z2 => (ln_i (i := 6) (fun z3 => (ln_i (i := 7) (fun z4 => (ln_end (o := fun τ => f_M_seeds_64 z0 z1 z2 z3 z4 τ) (fun _ _ _ e h => s_M_seeds_64 G z0 z1 z2 z3 z4 _ _ _ e h))))))))))))))))))))))) (sn_aload_n (pc := 43) (i := 0) dX12_seeds_43 rfl (sn_iload (pc := 44) dX12_seeds_44 (sn_callV (pc := 46) (N := M_M_refuse) dX12_seeds_46 (cal_M_refuse G) sh_66 rfl tw_1090 tw_1092 tp_23 tw_12 tw_1093 dsc_X12_refuse rfl (sn_reti (pc := 49) (R := fun x τ => (some ((x, τ)))) dX12_seeds_49 rfl (fun _ _ _ _ e h => by cases e; exact h))))))))) _ _ _ _ _ ((eq_M_seeds_36 x1 x2 x3 y0 σ).symm.trans e) hr
noncomputable def g_M_seeds_29 (x1 : Int32) (x2 : Int32) (x3 : Int32) (σ : am_St) : Option (Int32 × am_St) :=
  f_M_seeds_36 x1 x2 x3 ((-2)) σ
noncomputable def f_M_seeds_29 (x1 : Int32) (x2 : Int32) (x3 : Int32) (σ : am_St) : Option (Int32 × am_St) := am_lk (g_M_seeds_29 x1 x2 x3 σ)
theorem eq_M_seeds_29 (x1 : Int32) (x2 : Int32) (x3 : Int32) (σ : am_St) : f_M_seeds_29 x1 x2 x3 σ = g_M_seeds_29 x1 x2 x3 σ := am_lk_eq _
set_option maxRecDepth 100000 in
set_option maxHeartbeats 4000000 in
theorem s_M_seeds_29 (G : am_G) (x1 : Int32) (x2 : Int32) (x3 : Int32) (σ : am_St) (r : Int32 × am_St) (Q : am_AQ) (e : f_M_seeds_29 x1 x2 x3 σ = some r) (hr : am_Pi r Q) : am_AW G M_M_seeds 29 [(3, .int x3), (2, .int x2), (1, .int x1), (0, .ref 66)] [] σ Q :=
  (show am_Snd G M_M_seeds 29 am_Pi _ from (sn_bipush (pc := 29) (v := (-2)) dX12_seeds_29 (show (Int8.ofInt (-2)).toInt32 = (-2) by decide) (sn_goto (pc := 31) (tgt := 36) dX12_seeds_31 rfl (sn_lf (pc := 36) (ln_a (i := 0) (q := 66) (ln_i (i := 1) (fun z0 => (ln_i (i := 2) (fun z1 => (ln_i (i := 3) (fun z2 => (ln_si (fun w0 => (ln_end (o := fun τ => f_M_seeds_36 z0 z1 z2 w0 τ) (fun _ _ _ e h => s_M_seeds_36 G z0 z1 z2 w0 _ _ _ e h))))))))))))))) _ _ _ _ _ ((eq_M_seeds_29 x1 x2 x3 σ).symm.trans e) hr
noncomputable def g_M_seeds_34 (x1 : Int32) (x2 : Int32) (x3 : Int32) (x4 : Int32) (σ : am_St) : Option (Int32 × am_St) :=
  f_M_seeds_36 x1 x2 x3 x4 σ
noncomputable def f_M_seeds_34 (x1 : Int32) (x2 : Int32) (x3 : Int32) (x4 : Int32) (σ : am_St) : Option (Int32 × am_St) := am_lk (g_M_seeds_34 x1 x2 x3 x4 σ)
theorem eq_M_seeds_34 (x1 : Int32) (x2 : Int32) (x3 : Int32) (x4 : Int32) (σ : am_St) : f_M_seeds_34 x1 x2 x3 x4 σ = g_M_seeds_34 x1 x2 x3 x4 σ := am_lk_eq _
set_option maxRecDepth 100000 in
set_option maxHeartbeats 4000000 in
theorem s_M_seeds_34 (G : am_G) (x1 : Int32) (x2 : Int32) (x3 : Int32) (x4 : Int32) (σ : am_St) (r : Int32 × am_St) (Q : am_AQ) (e : f_M_seeds_34 x1 x2 x3 x4 σ = some r) (hr : am_Pi r Q) : am_AW G M_M_seeds 34 [(4, .int x4), (3, .int x3), (2, .int x2), (1, .int x1), (0, .ref 66)] [] σ Q :=
  (show am_Snd G M_M_seeds 34 am_Pi _ from (sn_iload (pc := 34) dX12_seeds_34 (sn_lf (pc := 36) (ln_a (i := 0) (q := 66) (ln_i (i := 1) (fun z0 => (ln_i (i := 2) (fun z1 => (ln_i (i := 3) (fun z2 => (ln_si (fun w0 => (ln_end (o := fun τ => f_M_seeds_36 z0 z1 z2 w0 τ) (fun _ _ _ e h => s_M_seeds_36 G z0 z1 z2 w0 _ _ _ e h)))))))))))))) _ _ _ _ _ ((eq_M_seeds_34 x1 x2 x3 x4 σ).symm.trans e) hr
noncomputable def g_M_seeds (x1 : Int32) (x2 : Int32) (x3 : Int32) (σ : am_St) : Option (Int32 × am_St) :=
  let s1 := am_sI σ 66 22 0
  (f_M_wrongNumber x1 1 20 s1).bind (fun p2 =>
    if p2.1 = 0 then
      (f_M_in x3.toInt64 0 1 p2.2).bind (fun p3 =>
        if p3.1 = 0 then
          f_M_seeds_29 x1 x2 x3 p3.2
        else
          f_M_seeds_34 x1 x2 x3 p2.1 p3.2)
    else
      f_M_seeds_34 x1 x2 x3 p2.1 p2.2)
noncomputable def f_M_seeds (x1 : Int32) (x2 : Int32) (x3 : Int32) (σ : am_St) : Option (Int32 × am_St) := am_lk (g_M_seeds x1 x2 x3 σ)
theorem eq_M_seeds (x1 : Int32) (x2 : Int32) (x3 : Int32) (σ : am_St) : f_M_seeds x1 x2 x3 σ = g_M_seeds x1 x2 x3 σ := am_lk_eq _
set_option maxRecDepth 100000 in
set_option maxHeartbeats 4000000 in
theorem s_M_seeds (G : am_G) (x1 : Int32) (x2 : Int32) (x3 : Int32) (σ : am_St) (r : Int32 × am_St) (Q : am_AQ) (e : f_M_seeds x1 x2 x3 σ = some r) (hr : am_Pi r Q) : am_AW G M_M_seeds 0 [(0, .ref 66), (1, .int x1), (2, .int x2), (3, .int x3)] [] σ Q :=
  (show am_Snd G M_M_seeds 0 am_Pi _ from (sn_aload_n (pc := 0) (i := 0) dX12_seeds_0 rfl (sn_iconst (pc := 1) (v := 0) dX12_seeds_1 rfl (sn_pI (pc := 2) (h := 66) (f := 22) dX12_seeds_2 am_CL_11 sh_66 rfl (Nat.le_of_ble_eq_true rfl) tw_963 rfl rfl (sn_iload_n (pc := 5) (i := 1) dX12_seeds_5 rfl (sn_iconst (pc := 6) (v := 1) dX12_seeds_6 rfl (sn_bipush (pc := 7) (v := 20) dX12_seeds_7 rfl (sn_callS (pc := 9) (N := M_M_wrongNumber) dX12_seeds_9 (cal_M_wrongNumber G) tw_1250 tw_1251 tw_12 tw_1252 dsc_X12_wrongNumber rfl (sn_istore (pc := 12) dX12_seeds_12 (Nat.le_of_ble_eq_true rfl) (sn_iload (pc := 14) dX12_seeds_14 (sn_if_ne (pc := 16) (tgt := 34) dX12_seeds_16 rfl (sn_lf (pc := 34) (ln_a (i := 0) (q := 66) (ln_i (i := 1) (fun z0 => (ln_i (i := 2) (fun z1 => (ln_i (i := 3) (fun z2 => (ln_i (i := 4) (fun z3 => (ln_end (o := fun τ => f_M_seeds_34 z0 z1 z2 z3 τ) (fun _ _ _ e h => s_M_seeds_34 G z0 z1 z2 z3 _ _ _ e h)))))))))))) (sn_iload_n (pc := 19) (i := 3) dX12_seeds_19 rfl (sn_i2l (pc := 20) dX12_seeds_20 (sn_lconst (pc := 21) (v := 0) dX12_seeds_21 rfl (sn_lconst (pc := 22) (v := 1) dX12_seeds_22 rfl (sn_callS (pc := 23) (N := M_M_in) dX12_seeds_23 (cal_M_in G) tw_1116 tw_1117 tw_12 tw_1118 dsc_X12_in rfl (sn_if_ne (pc := 26) (tgt := 34) dX12_seeds_26 rfl (sn_lf (pc := 34) (ln_a (i := 0) (q := 66) (ln_i (i := 1) (fun z0 => (ln_i (i := 2) (fun z1 => (ln_i (i := 3) (fun z2 => (ln_i (i := 4) (fun z3 => (ln_end (o := fun τ => f_M_seeds_34 z0 z1 z2 z3 τ) (fun _ _ _ e h => s_M_seeds_34 G z0 z1 z2 z3 _ _ _ e h)))))))))))) (sn_lf (pc := 29) (ln_a (i := 0) (q := 66) (ln_i (i := 1) (fun z0 => (ln_i (i := 2) (fun z1 => (ln_i (i := 3) (fun z2 => (ln_end (o := fun τ => f_M_seeds_29 z0 z1 z2 τ) (fun _ _ _ e h => s_M_seeds_29 G z0 z1 z2 _ _ _ e h))))))))))))))))))))))))))) _ _ _ _ _ ((eq_M_seeds x1 x2 x3 σ).symm.trans e) hr
noncomputable def cF_M_seeds : am_Fn := fun _ args σ K => match args with
  | [.ref q0, .int z1, .int z2, .int z3] => match Nat.beq q0 66 with
    | true => (f_M_seeds z1 z2 z3 σ).bind (fun p => K (some (.int p.1)) p.2)
    | _ => none
  | _ => none
theorem cal_M_seeds (G : am_G) : am_Cal G M_M_seeds cF_M_seeds := by
  intro ρ args σ K r e
  unfold cF_M_seeds at e
  split at e
  · split at e
    · rename_i hq0
      obtain ⟨p, h1, h2⟩ := am_bind_some e
      rw [Nat.eq_of_beq_eq_true hq0]
      exact ⟨some (.int p.1), p.2, am_Met.of rfl (Nat.le_of_ble_eq_true rfl) (s_M_seeds G _ _ _ σ p _ h1 ⟨rfl, rfl⟩), h2⟩
    · cases e
  · cases e
abbrev M_M_count : am_MD := (yX12_count, cX12_count, 5, (some .int), 1, 25)
theorem dX12_count_0 : decode cX12_count 0 = .ok (.aload_n 0, 1) := by decide +kernel
theorem dX12_count_1 : decode cX12_count 1 = .ok (.iconst 0, 1) := by decide +kernel
theorem dX12_count_2 : decode cX12_count 2 = .ok (.putfield 102, 3) := by decide +kernel
theorem dX12_count_5 : decode cX12_count 5 = .ok (.iconst 0, 1) := by decide +kernel
theorem dX12_count_6 : decode cX12_count 6 = .ok (.istore_n 2, 1) := by decide +kernel
theorem dX12_count_7 : decode cX12_count 7 = .ok (.iconst 0, 1) := by decide +kernel
theorem dX12_count_8 : decode cX12_count 8 = .ok (.istore_n 3, 1) := by decide +kernel
theorem dX12_count_9 : decode cX12_count 9 = .ok (.iconst 0, 1) := by decide +kernel
theorem dX12_count_10 : decode cX12_count 10 = .ok (.istore 4, 2) := by decide +kernel
theorem dX12_count_12 : decode cX12_count 12 = .ok (.iload 4, 2) := by decide +kernel
theorem dX12_count_14 : decode cX12_count 14 = .ok (.iconst 4, 1) := by decide +kernel
theorem dX12_count_15 : decode cX12_count 15 = .ok (.if_icmp .ge 45, 3) := by decide +kernel
theorem dX12_count_18 : decode cX12_count 18 = .ok (.iload_n 2, 1) := by decide +kernel
theorem dX12_count_19 : decode cX12_count 19 = .ok (.aload_n 0, 1) := by decide +kernel
theorem dX12_count_20 : decode cX12_count 20 = .ok (.getfield 16, 3) := by decide +kernel
theorem dX12_count_23 : decode cX12_count 23 = .ok (.iload 4, 2) := by decide +kernel
theorem dX12_count_25 : decode cX12_count 25 = .ok (.iaload, 1) := by decide +kernel
theorem dX12_count_26 : decode cX12_count 26 = .ok (.invokestatic 297, 3) := by decide +kernel
theorem dX12_count_29 : decode cX12_count 29 = .ok (.iadd, 1) := by decide +kernel
theorem dX12_count_30 : decode cX12_count 30 = .ok (.istore_n 2, 1) := by decide +kernel
theorem dX12_count_31 : decode cX12_count 31 = .ok (.iload_n 3, 1) := by decide +kernel
theorem dX12_count_32 : decode cX12_count 32 = .ok (.iload 4, 2) := by decide +kernel
theorem dX12_count_34 : decode cX12_count 34 = .ok (.aload_n 0, 1) := by decide +kernel
theorem dX12_count_35 : decode cX12_count 35 = .ok (.getfield 105, 3) := by decide +kernel
theorem dX12_count_38 : decode cX12_count 38 = .ok (.if_icmp .ge 13, 3) := by decide +kernel
theorem dX12_count_41 : decode cX12_count 41 = .ok (.aload_n 0, 1) := by decide +kernel
theorem dX12_count_42 : decode cX12_count 42 = .ok (.getfield 29, 3) := by decide +kernel
theorem dX12_count_45 : decode cX12_count 45 = .ok (.iload 4, 2) := by decide +kernel
theorem dX12_count_47 : decode cX12_count 47 = .ok (.iaload, 1) := by decide +kernel
theorem dX12_count_48 : decode cX12_count 48 = .ok (.goto 4, 3) := by decide +kernel
theorem dX12_count_51 : decode cX12_count 51 = .ok (.iconst 0, 1) := by decide +kernel
theorem dX12_count_52 : decode cX12_count 52 = .ok (.iadd, 1) := by decide +kernel
theorem dX12_count_53 : decode cX12_count 53 = .ok (.istore_n 3, 1) := by decide +kernel
theorem dX12_count_54 : decode cX12_count 54 = .ok (.iinc 4 1, 3) := by decide +kernel
theorem dX12_count_57 : decode cX12_count 57 = .ok (.goto (-45), 3) := by decide +kernel
theorem dX12_count_60 : decode cX12_count 60 = .ok (.iload_n 1, 1) := by decide +kernel
theorem dX12_count_61 : decode cX12_count 61 = .ok (.tableswitch 109 0 9 #[55, 60, 65, 70, 74, 79, 84, 97, 102, 107], 55) := by decide +kernel
theorem dX12_count_116 : decode cX12_count 116 = .ok (.aload_n 0, 1) := by decide +kernel
theorem dX12_count_117 : decode cX12_count 117 = .ok (.getfield 7, 3) := by decide +kernel
theorem dX12_count_120 : decode cX12_count 120 = .ok (.ireturn, 1) := by decide +kernel
theorem dX12_count_121 : decode cX12_count 121 = .ok (.aload_n 0, 1) := by decide +kernel
theorem dX12_count_122 : decode cX12_count 122 = .ok (.getfield 13, 3) := by decide +kernel
theorem dX12_count_125 : decode cX12_count 125 = .ok (.ireturn, 1) := by decide +kernel
theorem dX12_count_126 : decode cX12_count 126 = .ok (.aload_n 0, 1) := by decide +kernel
theorem dX12_count_127 : decode cX12_count 127 = .ok (.getfield 105, 3) := by decide +kernel
theorem dX12_count_130 : decode cX12_count 130 = .ok (.ireturn, 1) := by decide +kernel
theorem dX12_count_131 : decode cX12_count 131 = .ok (.iload_n 2, 1) := by decide +kernel
theorem dX12_count_132 : decode cX12_count 132 = .ok (.iconst 2, 1) := by decide +kernel
theorem dX12_count_133 : decode cX12_count 133 = .ok (.idiv, 1) := by decide +kernel
theorem dX12_count_134 : decode cX12_count 134 = .ok (.ireturn, 1) := by decide +kernel
theorem dX12_count_135 : decode cX12_count 135 = .ok (.aload_n 0, 1) := by decide +kernel
theorem dX12_count_136 : decode cX12_count 136 = .ok (.getfield 112, 3) := by decide +kernel
theorem dX12_count_139 : decode cX12_count 139 = .ok (.ireturn, 1) := by decide +kernel
theorem dX12_count_140 : decode cX12_count 140 = .ok (.aload_n 0, 1) := by decide +kernel
theorem dX12_count_141 : decode cX12_count 141 = .ok (.getfield 239, 3) := by decide +kernel
theorem dX12_count_144 : decode cX12_count 144 = .ok (.ireturn, 1) := by decide +kernel
theorem dX12_count_145 : decode cX12_count 145 = .ok (.bipush 10, 2) := by decide +kernel
theorem dX12_count_147 : decode cX12_count 147 = .ok (.aload_n 0, 1) := by decide +kernel
theorem dX12_count_148 : decode cX12_count 148 = .ok (.getfield 130, 3) := by decide +kernel
theorem dX12_count_151 : decode cX12_count 151 = .ok (.imul, 1) := by decide +kernel
theorem dX12_count_152 : decode cX12_count 152 = .ok (.aload_n 0, 1) := by decide +kernel
theorem dX12_count_153 : decode cX12_count 153 = .ok (.getfield 127, 3) := by decide +kernel
theorem dX12_count_156 : decode cX12_count 156 = .ok (.iadd, 1) := by decide +kernel
theorem dX12_count_157 : decode cX12_count 157 = .ok (.ireturn, 1) := by decide +kernel
theorem dX12_count_158 : decode cX12_count 158 = .ok (.aload_n 0, 1) := by decide +kernel
theorem dX12_count_159 : decode cX12_count 159 = .ok (.getfield 157, 3) := by decide +kernel
theorem dX12_count_162 : decode cX12_count 162 = .ok (.ireturn, 1) := by decide +kernel
theorem dX12_count_163 : decode cX12_count 163 = .ok (.aload_n 0, 1) := by decide +kernel
theorem dX12_count_164 : decode cX12_count 164 = .ok (.getfield 346, 3) := by decide +kernel
theorem dX12_count_167 : decode cX12_count 167 = .ok (.ireturn, 1) := by decide +kernel
theorem dX12_count_168 : decode cX12_count 168 = .ok (.iload_n 3, 1) := by decide +kernel
theorem dX12_count_169 : decode cX12_count 169 = .ok (.ireturn, 1) := by decide +kernel
theorem dX12_count_170 : decode cX12_count 170 = .ok (.iload_n 1, 1) := by decide +kernel
theorem dX12_count_171 : decode cX12_count 171 = .ok (.i2l, 1) := by decide +kernel
theorem dX12_count_172 : decode cX12_count 172 = .ok (.ldc2_w 364, 3) := by decide +kernel
theorem dX12_count_175 : decode cX12_count 175 = .ok (.ldc2_w 366, 3) := by decide +kernel
theorem dX12_count_178 : decode cX12_count 178 = .ok (.invokestatic 108, 3) := by decide +kernel
theorem dX12_count_181 : decode cX12_count 181 = .ok (.ifCond .eq 15, 3) := by decide +kernel
theorem dX12_count_184 : decode cX12_count 184 = .ok (.aload_n 0, 1) := by decide +kernel
theorem dX12_count_185 : decode cX12_count 185 = .ok (.getfield 62, 3) := by decide +kernel
theorem dX12_count_188 : decode cX12_count 188 = .ok (.iload_n 1, 1) := by decide +kernel
theorem dX12_count_189 : decode cX12_count 189 = .ok (.bipush 10, 2) := by decide +kernel
theorem dX12_count_191 : decode cX12_count 191 = .ok (.isub, 1) := by decide +kernel
theorem dX12_count_192 : decode cX12_count 192 = .ok (.iaload, 1) := by decide +kernel
theorem dX12_count_193 : decode cX12_count 193 = .ok (.goto 5, 3) := by decide +kernel
theorem dX12_count_196 : decode cX12_count 196 = .ok (.bipush (-9), 2) := by decide +kernel
theorem dX12_count_198 : decode cX12_count 198 = .ok (.ireturn, 1) := by decide +kernel
abbrev Pl_M_count_12 (G : am_G) : ((Int32 × Int32 × Int32 × Int32 × am_St) ⊕ (Int32 × am_St)) → am_AQ → Prop := am_PL G M_M_count 12 (fun s : Int32 × Int32 × Int32 × Int32 × am_St => [(4, .int s.2.2.2.1), (3, .int s.2.2.1), (2, .int s.2.1), (1, .int s.1), (0, .ref 66)]) (fun s => s.2.2.2.2) am_Pi
noncomputable def g_M_count_52 (x1 : Int32) (x2 : Int32) (x4 : Int32) (y0 : Int32) (y1 : Int32) (σ : am_St) : Option ((Int32 × Int32 × Int32 × Int32 × am_St) ⊕ (Int32 × am_St)) :=
  let v1 := y0 + y1
  let v2 := x4 + 1
  some (.inl (x1, x2, v1, v2, σ))
noncomputable def f_M_count_52 (x1 : Int32) (x2 : Int32) (x4 : Int32) (y0 : Int32) (y1 : Int32) (σ : am_St) : Option ((Int32 × Int32 × Int32 × Int32 × am_St) ⊕ (Int32 × am_St)) := am_lk (g_M_count_52 x1 x2 x4 y0 y1 σ)
theorem eq_M_count_52 (x1 : Int32) (x2 : Int32) (x4 : Int32) (y0 : Int32) (y1 : Int32) (σ : am_St) : f_M_count_52 x1 x2 x4 y0 y1 σ = g_M_count_52 x1 x2 x4 y0 y1 σ := am_lk_eq _
set_option maxRecDepth 100000 in
set_option maxHeartbeats 4000000 in
theorem s_M_count_52 (G : am_G) (x1 : Int32) (x2 : Int32) (x4 : Int32) (y0 : Int32) (y1 : Int32) (σ : am_St) (r : (Int32 × Int32 × Int32 × Int32 × am_St) ⊕ (Int32 × am_St)) (Q : am_AQ) (e : f_M_count_52 x1 x2 x4 y0 y1 σ = some r) (hr : (Pl_M_count_12 G) r Q) : am_AW G M_M_count 52 [(4, .int x4), (2, .int x2), (1, .int x1), (0, .ref 66)] [.int y1, .int y0] σ Q :=
  (show am_Snd G M_M_count 52 (Pl_M_count_12 G) _ from (sn_iadd (pc := 52) dX12_count_52 (sn_istore_n (pc := 53) (i := 3) dX12_count_53 rfl (Nat.le_of_ble_eq_true rfl) (sn_iinc (pc := 54) (v := 1) dX12_count_54 rfl (Nat.le_of_ble_eq_true rfl) (sn_goto (pc := 57) (tgt := 12) dX12_count_57 rfl (sn_lf (pc := 12) (ln_a (i := 0) (q := 66) (ln_i (i := 1) (fun z0 => (ln_i (i := 2) (fun z1 => (ln_i (i := 3) (fun z2 => (ln_i (i := 4) (fun z3 => (ln_end (o := fun τ => (some (.inl (z0, z1, z2, z3, τ)) : Option ((Int32 × Int32 × Int32 × Int32 × am_St) ⊕ (Int32 × am_St)))) (fun _ _ _ e h => by cases e; exact h))))))))))))))))) _ _ _ _ _ ((eq_M_count_52 x1 x2 x4 y0 y1 σ).symm.trans e) hr
noncomputable def b_M_count_12 (x1 : Int32) (x2 : Int32) (x3 : Int32) (x4 : Int32) (σ : am_St) : Option ((Int32 × Int32 × Int32 × Int32 × am_St) ⊕ (Int32 × am_St)) :=
  if 4 ≤ x4 then
    if x1 = 0 then
      some (.inr ((σ.1 66 0, σ)))
    else
    if x1 = 1 then
      some (.inr ((σ.1 66 1, σ)))
    else
    if x1 = 2 then
      some (.inr ((σ.1 66 2, σ)))
    else
    if x1 = 3 then
      some (.inr ((x2 / 2, σ)))
    else
    if x1 = 4 then
      some (.inr ((σ.1 66 3, σ)))
    else
    if x1 = 5 then
      some (.inr ((σ.1 66 4, σ)))
    else
    if x1 = 6 then
      some (.inr (((10 * (σ.1 66 5)) + (σ.1 66 6), σ)))
    else
    if x1 = 7 then
      some (.inr ((σ.1 66 28, σ)))
    else
    if x1 = 8 then
      some (.inr ((σ.1 66 46, σ)))
    else
    if x1 = 9 then
      some (.inr ((x3, σ)))
    else
    (f_M_in x1.toInt64 11 16 σ).bind (fun p1 =>
      if p1.1 = 0 then
        some (.inr (((-9), p1.2)))
      else
        if am_ix (x1 - 10) 7 = true then
          some (.inr ((p1.2.1 82 (x1 - 10).toNatClampNeg, p1.2)))
        else none)
  else
    if am_ix x4 4 = true then
      (f_M_ones (σ.1 67 x4.toNatClampNeg) σ).bind (fun p2 =>
        let v3 := x2 + p2.1
        if (p2.2.1 66 2) ≤ x4 then
          f_M_count_52 x1 v3 x4 x3 0 p2.2
        else
          if am_ix x4 4 = true then
            f_M_count_52 x1 v3 x4 x3 (p2.2.1 71 x4.toNatClampNeg) p2.2
          else none)
    else none
noncomputable def f_M_count_12 (x1 : Int32) (x2 : Int32) (x3 : Int32) (x4 : Int32) (σ : am_St) : Option (Int32 × am_St) := am_lp (fun s : Int32 × Int32 × Int32 × Int32 × am_St => b_M_count_12 s.1 s.2.1 s.2.2.1 s.2.2.2.1 s.2.2.2.2) (x1, x2, x3, x4, σ)
set_option maxRecDepth 100000 in
set_option maxHeartbeats 4000000 in
theorem sb_M_count_12 (G : am_G) (x1 : Int32) (x2 : Int32) (x3 : Int32) (x4 : Int32) (σ : am_St) (r : (Int32 × Int32 × Int32 × Int32 × am_St) ⊕ (Int32 × am_St)) (Q : am_AQ) (e : b_M_count_12 x1 x2 x3 x4 σ = some r) (hr : Pl_M_count_12 G r Q) : am_AW G M_M_count 12 [(4, .int x4), (3, .int x3), (2, .int x2), (1, .int x1), (0, .ref 66)] [] σ Q :=
  (show am_Snd G M_M_count 12 (Pl_M_count_12 G) _ from (sn_iload (pc := 12) dX12_count_12 (sn_iconst (pc := 14) (v := 4) dX12_count_14 rfl (sn_icmp_ge (pc := 15) (tgt := 60) dX12_count_15 rfl (sn_iload_n (pc := 60) (i := 1) dX12_count_60 rfl (sn_tsw (pc := 61) (dt := 170) (vs := [0, 1, 2, 3, 4, 5, 6, 7, 8, 9]) (ts := [116, 121, 126, 131, 135, 140, 145, 158, 163, 168]) dX12_count_61 (by decide +kernel) (sn_iload_n (pc := 170) (i := 1) dX12_count_170 rfl (sn_i2l (pc := 171) dX12_count_171 (sn_ldc2 (pc := 172) dX12_count_172 tw_1463 (sn_ldc2 (pc := 175) dX12_count_175 tw_1464 (sn_callS (pc := 178) (N := M_M_in) dX12_count_178 (cal_M_in G) tw_1116 tw_1117 tw_12 tw_1118 dsc_X12_in rfl (sn_if_eq (pc := 181) (tgt := 196) dX12_count_181 rfl (sn_bipush (pc := 196) (v := (-9)) dX12_count_196 (show (Int8.ofInt (-9)).toInt32 = (-9) by decide) (sn_reti (pc := 198) (R := fun x τ => (some (.inr ((x, τ))) : Option ((Int32 × Int32 × Int32 × Int32 × am_St) ⊕ (Int32 × am_St)))) dX12_count_198 rfl (fun _ _ _ _ e h => by cases e; exact h))) (sn_aload_n (pc := 184) (i := 0) dX12_count_184 rfl (sn_gR (r0 := 82) (pc := 185) (h := 66) (f := 23) dX12_count_185 am_CL_11 sh_66 rfl (Nat.le_of_ble_eq_true rfl) tw_964 (sn_iload_n (pc := 188) (i := 1) dX12_count_188 rfl (sn_bipush (pc := 189) (v := 10) dX12_count_189 rfl (sn_isub (pc := 191) dX12_count_191 (sn_aI (pc := 192) (h := 82) dX12_count_192 sh_82 (sn_goto (pc := 193) (tgt := 198) dX12_count_193 rfl (sn_reti (pc := 198) (R := fun x τ => (some (.inr ((x, τ))) : Option ((Int32 × Int32 × Int32 × Int32 × am_St) ⊕ (Int32 × am_St)))) dX12_count_198 rfl (fun _ _ _ _ e h => by cases e; exact h))))))))))))))) (am_all_cons (sn_aload_n (pc := 116) (i := 0) dX12_count_116 rfl (sn_gI (pc := 117) (h := 66) (f := 0) dX12_count_117 am_CL_11 sh_66 rfl (Nat.le_of_ble_eq_true rfl) tw_941 (sn_reti (pc := 120) (R := fun x τ => (some (.inr ((x, τ))) : Option ((Int32 × Int32 × Int32 × Int32 × am_St) ⊕ (Int32 × am_St)))) dX12_count_120 rfl (fun _ _ _ _ e h => by cases e; exact h)))) (am_all_cons (sn_aload_n (pc := 121) (i := 0) dX12_count_121 rfl (sn_gI (pc := 122) (h := 66) (f := 1) dX12_count_122 am_CL_11 sh_66 rfl (Nat.le_of_ble_eq_true rfl) tw_942 (sn_reti (pc := 125) (R := fun x τ => (some (.inr ((x, τ))) : Option ((Int32 × Int32 × Int32 × Int32 × am_St) ⊕ (Int32 × am_St)))) dX12_count_125 rfl (fun _ _ _ _ e h => by cases e; exact h)))) (am_all_cons (sn_aload_n (pc := 126) (i := 0) dX12_count_126 rfl (sn_gI (pc := 127) (h := 66) (f := 2) dX12_count_127 am_CL_11 sh_66 rfl (Nat.le_of_ble_eq_true rfl) tw_943 (sn_reti (pc := 130) (R := fun x τ => (some (.inr ((x, τ))) : Option ((Int32 × Int32 × Int32 × Int32 × am_St) ⊕ (Int32 × am_St)))) dX12_count_130 rfl (fun _ _ _ _ e h => by cases e; exact h)))) (am_all_cons (sn_iload_n (pc := 131) (i := 2) dX12_count_131 rfl (sn_iconst (pc := 132) (v := 2) dX12_count_132 rfl (sn_idiv (pc := 133) dX12_count_133 (sn_reti (pc := 134) (R := fun x τ => (some (.inr ((x, τ))) : Option ((Int32 × Int32 × Int32 × Int32 × am_St) ⊕ (Int32 × am_St)))) dX12_count_134 rfl (fun _ _ _ _ e h => by cases e; exact h))))) (am_all_cons (sn_aload_n (pc := 135) (i := 0) dX12_count_135 rfl (sn_gI (pc := 136) (h := 66) (f := 3) dX12_count_136 am_CL_11 sh_66 rfl (Nat.le_of_ble_eq_true rfl) tw_944 (sn_reti (pc := 139) (R := fun x τ => (some (.inr ((x, τ))) : Option ((Int32 × Int32 × Int32 × Int32 × am_St) ⊕ (Int32 × am_St)))) dX12_count_139 rfl (fun _ _ _ _ e h => by cases e; exact h)))) (am_all_cons (sn_aload_n (pc := 140) (i := 0) dX12_count_140 rfl (sn_gI (pc := 141) (h := 66) (f := 4) dX12_count_141 am_CL_11 sh_66 rfl (Nat.le_of_ble_eq_true rfl) tw_945 (sn_reti (pc := 144) (R := fun x τ => (some (.inr ((x, τ))) : Option ((Int32 × Int32 × Int32 × Int32 × am_St) ⊕ (Int32 × am_St)))) dX12_count_144 rfl (fun _ _ _ _ e h => by cases e; exact h)))) (am_all_cons (sn_bipush (pc := 145) (v := 10) dX12_count_145 rfl (sn_aload_n (pc := 147) (i := 0) dX12_count_147 rfl (sn_gI (pc := 148) (h := 66) (f := 5) dX12_count_148 am_CL_11 sh_66 rfl (Nat.le_of_ble_eq_true rfl) tw_946 (sn_imul (pc := 151) dX12_count_151 (sn_aload_n (pc := 152) (i := 0) dX12_count_152 rfl (sn_gI (pc := 153) (h := 66) (f := 6) dX12_count_153 am_CL_11 sh_66 rfl (Nat.le_of_ble_eq_true rfl) tw_947 (sn_iadd (pc := 156) dX12_count_156 (sn_reti (pc := 157) (R := fun x τ => (some (.inr ((x, τ))) : Option ((Int32 × Int32 × Int32 × Int32 × am_St) ⊕ (Int32 × am_St)))) dX12_count_157 rfl (fun _ _ _ _ e h => by cases e; exact h))))))))) (am_all_cons (sn_aload_n (pc := 158) (i := 0) dX12_count_158 rfl (sn_gI (pc := 159) (h := 66) (f := 28) dX12_count_159 am_CL_11 sh_66 rfl (Nat.le_of_ble_eq_true rfl) tw_969 (sn_reti (pc := 162) (R := fun x τ => (some (.inr ((x, τ))) : Option ((Int32 × Int32 × Int32 × Int32 × am_St) ⊕ (Int32 × am_St)))) dX12_count_162 rfl (fun _ _ _ _ e h => by cases e; exact h)))) (am_all_cons (sn_aload_n (pc := 163) (i := 0) dX12_count_163 rfl (sn_gI (pc := 164) (h := 66) (f := 46) dX12_count_164 am_CL_11 sh_66 rfl (Nat.le_of_ble_eq_true rfl) tw_987 (sn_reti (pc := 167) (R := fun x τ => (some (.inr ((x, τ))) : Option ((Int32 × Int32 × Int32 × Int32 × am_St) ⊕ (Int32 × am_St)))) dX12_count_167 rfl (fun _ _ _ _ e h => by cases e; exact h)))) (am_all_cons (sn_iload_n (pc := 168) (i := 3) dX12_count_168 rfl (sn_reti (pc := 169) (R := fun x τ => (some (.inr ((x, τ))) : Option ((Int32 × Int32 × Int32 × Int32 × am_St) ⊕ (Int32 × am_St)))) dX12_count_169 rfl (fun _ _ _ _ e h => by cases e; exact h))) am_all_nil)))))))))))) (sn_iload_n (pc := 18) (i := 2) dX12_count_18 rfl (sn_aload_n (pc := 19) (i := 0) dX12_count_19 rfl (sn_gR (r0 := 67) (pc := 20) (h := 66) (f := 7) dX12_count_20 am_CL_11 sh_66 rfl (Nat.le_of_ble_eq_true rfl) tw_948 (sn_iload (pc := 23) dX12_count_23 (sn_aI (pc := 25) (h := 67) dX12_count_25 sh_67 (sn_callS (pc := 26) (N := M_M_ones) dX12_count_26 (cal_M_ones G) tw_1325 tw_1326 tw_12 tw_1327 dsc_X12_ones rfl (sn_iadd (pc := 29) dX12_count_29 (sn_istore_n (pc := 30) (i := 2) dX12_count_30 rfl (Nat.le_of_ble_eq_true rfl) (sn_iload_n (pc := 31) (i := 3) dX12_count_31 rfl (sn_iload (pc := 32) dX12_count_32 (sn_aload_n (pc := 34) (i := 0) dX12_count_34 rfl (sn_gI (pc := 35) (h := 66) (f := 2) dX12_count_35 am_CL_11 sh_66 rfl (Nat.le_of_ble_eq_true rfl) tw_943 (sn_icmp_ge (pc := 38) (tgt := 51) dX12_count_38 rfl (sn_iconst (pc := 51) (v := 0) dX12_count_51 rfl (sn_lf (pc := 52) (ln_a (i := 0) (q := 66) (ln_i (i := 1) (fun z0 => (ln_i (i := 2) (fun z1 => (ln_i (i := 4) (fun z2 => (ln_si (fun w1 => (ln_si (fun w0 => (ln_end (o := fun τ => f_M_count_52 z0 z1 z2 w0 w1 τ) (fun _ _ _ e h => s_M_count_52 G z0 z1 z2 w0 w1 _ _ _ e h))))))))))))))) (sn_aload_n (pc := 41) (i := 0) dX12_count_41 rfl (sn_gR (r0 := 71) (pc := 42) (h := 66) (f := 11) dX12_count_42 am_CL_11 sh_66 rfl (Nat.le_of_ble_eq_true rfl) tw_952 (sn_iload (pc := 45) dX12_count_45 (sn_aI (pc := 47) (h := 71) dX12_count_47 sh_71 (sn_goto (pc := 48) (tgt := 52) dX12_count_48 rfl (sn_lf (pc := 52) (ln_a (i := 0) (q := 66) (ln_i (i := 1) (fun z0 => (ln_i (i := 2) (fun z1 => (ln_i (i := 4) (fun z2 => (ln_si (fun w1 => (ln_si (fun w0 => (ln_end (o := fun τ => f_M_count_52 z0 z1 z2 w0 w1 τ) (fun _ _ _ e h => s_M_count_52 G z0 z1 z2 w0 w1 _ _ _ e h)))))))))))))))))))))))))))))))))))) _ _ _ _ _ e hr
theorem s_M_count_12 (G : am_G) (x1 : Int32) (x2 : Int32) (x3 : Int32) (x4 : Int32) (σ : am_St) (r : Int32 × am_St) (Q : am_AQ) (e : f_M_count_12 x1 x2 x3 x4 σ = some r) (hr : am_Pi r Q) : am_AW G M_M_count 12 [(4, .int x4), (3, .int x3), (2, .int x2), (1, .int x1), (0, .ref 66)] [] σ Q :=
  am_loop (P := am_Pi) (L := fun s : Int32 × Int32 × Int32 × Int32 × am_St => [(4, .int s.2.2.2.1), (3, .int s.2.2.1), (2, .int s.2.1), (1, .int s.1), (0, .ref 66)]) (g := fun s => s.2.2.2.2) (fun s o Q e hr => sb_M_count_12 G s.1 s.2.1 s.2.2.1 s.2.2.2.1 s.2.2.2.2 o Q e hr) (x1, x2, x3, x4, σ) r Q e hr
noncomputable def g_M_count (x1 : Int32) (σ : am_St) : Option (Int32 × am_St) :=
  let s1 := am_sI σ 66 22 0
  f_M_count_12 x1 0 0 0 s1
noncomputable def f_M_count (x1 : Int32) (σ : am_St) : Option (Int32 × am_St) := am_lk (g_M_count x1 σ)
theorem eq_M_count (x1 : Int32) (σ : am_St) : f_M_count x1 σ = g_M_count x1 σ := am_lk_eq _
set_option maxRecDepth 100000 in
set_option maxHeartbeats 4000000 in
theorem s_M_count (G : am_G) (x1 : Int32) (σ : am_St) (r : Int32 × am_St) (Q : am_AQ) (e : f_M_count x1 σ = some r) (hr : am_Pi r Q) : am_AW G M_M_count 0 [(0, .ref 66), (1, .int x1)] [] σ Q :=
  (show am_Snd G M_M_count 0 am_Pi _ from (sn_aload_n (pc := 0) (i := 0) dX12_count_0 rfl (sn_iconst (pc := 1) (v := 0) dX12_count_1 rfl (sn_pI (pc := 2) (h := 66) (f := 22) dX12_count_2 am_CL_11 sh_66 rfl (Nat.le_of_ble_eq_true rfl) tw_963 rfl rfl (sn_iconst (pc := 5) (v := 0) dX12_count_5 rfl (sn_istore_n (pc := 6) (i := 2) dX12_count_6 rfl (Nat.le_of_ble_eq_true rfl) (sn_iconst (pc := 7) (v := 0) dX12_count_7 rfl (sn_istore_n (pc := 8) (i := 3) dX12_count_8 rfl (Nat.le_of_ble_eq_true rfl) (sn_iconst (pc := 9) (v := 0) dX12_count_9 rfl (sn_istore (pc := 10) dX12_count_10 (Nat.le_of_ble_eq_true rfl) (sn_lf (pc := 12) (ln_a (i := 0) (q := 66) (ln_i (i := 1) (fun z0 => (ln_i (i := 2) (fun z1 => (ln_i (i := 3) (fun z2 => (ln_i (i := 4) (fun z3 => (ln_end (o := fun τ => f_M_count_12 z0 z1 z2 z3 τ) (fun _ _ _ e h => s_M_count_12 G z0 z1 z2 z3 _ _ _ e h)))))))))))))))))))))) _ _ _ _ _ ((eq_M_count x1 σ).symm.trans e) hr
noncomputable def cF_M_count : am_Fn := fun _ args σ K => match args with
  | [.ref q0, .int z1] => match Nat.beq q0 66 with
    | true => (f_M_count z1 σ).bind (fun p => K (some (.int p.1)) p.2)
    | _ => none
  | _ => none
theorem cal_M_count (G : am_G) : am_Cal G M_M_count cF_M_count := by
  intro ρ args σ K r e
  unfold cF_M_count at e
  split at e
  · split at e
    · rename_i hq0
      obtain ⟨p, h1, h2⟩ := am_bind_some e
      rw [Nat.eq_of_beq_eq_true hq0]
      exact ⟨some (.int p.1), p.2, am_Met.of rfl (Nat.le_of_ble_eq_true rfl) (s_M_count G _ σ p _ h1 ⟨rfl, rfl⟩), h2⟩
    · cases e
  · cases e
