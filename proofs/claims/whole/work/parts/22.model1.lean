abbrev M_M_carryAll : am_MD := (yX12_carryAll, cX12_carryAll, 4, none, 2, 42)
theorem dX12_carryAll_0 : decode cX12_carryAll 0 = .ok (.aload_n 0, 1) := by decide +kernel
theorem dX12_carryAll_1 : decode cX12_carryAll 1 = .ok (.aload_n 1, 1) := by decide +kernel
theorem dX12_carryAll_2 : decode cX12_carryAll 2 = .ok (.putfield 245, 3) := by decide +kernel
theorem dX12_carryAll_5 : decode cX12_carryAll 5 = .ok (.aload_n 0, 1) := by decide +kernel
theorem dX12_carryAll_6 : decode cX12_carryAll 6 = .ok (.iload_n 2, 1) := by decide +kernel
theorem dX12_carryAll_7 : decode cX12_carryAll 7 = .ok (.putfield 242, 3) := by decide +kernel
theorem dX12_carryAll_10 : decode cX12_carryAll 10 = .ok (.aload_n 0, 1) := by decide +kernel
theorem dX12_carryAll_11 : decode cX12_carryAll 11 = .ok (.iconst 0, 1) := by decide +kernel
theorem dX12_carryAll_12 : decode cX12_carryAll 12 = .ok (.putfield 248, 3) := by decide +kernel
theorem dX12_carryAll_15 : decode cX12_carryAll 15 = .ok (.aload_n 0, 1) := by decide +kernel
theorem dX12_carryAll_16 : decode cX12_carryAll 16 = .ok (.aload_n 0, 1) := by decide +kernel
theorem dX12_carryAll_17 : decode cX12_carryAll 17 = .ok (.aload_n 0, 1) := by decide +kernel
theorem dX12_carryAll_18 : decode cX12_carryAll 18 = .ok (.getfield 7, 3) := by decide +kernel
theorem dX12_carryAll_21 : decode cX12_carryAll 21 = .ok (.invokevirtual 251, 3) := by decide +kernel
theorem dX12_carryAll_24 : decode cX12_carryAll 24 = .ok (.putfield 7, 3) := by decide +kernel
theorem dX12_carryAll_27 : decode cX12_carryAll 27 = .ok (.aload_n 0, 1) := by decide +kernel
theorem dX12_carryAll_28 : decode cX12_carryAll 28 = .ok (.aload_n 0, 1) := by decide +kernel
theorem dX12_carryAll_29 : decode cX12_carryAll 29 = .ok (.aload_n 0, 1) := by decide +kernel
theorem dX12_carryAll_30 : decode cX12_carryAll 30 = .ok (.getfield 13, 3) := by decide +kernel
theorem dX12_carryAll_33 : decode cX12_carryAll 33 = .ok (.invokevirtual 251, 3) := by decide +kernel
theorem dX12_carryAll_36 : decode cX12_carryAll 36 = .ok (.putfield 13, 3) := by decide +kernel
theorem dX12_carryAll_39 : decode cX12_carryAll 39 = .ok (.aload_n 0, 1) := by decide +kernel
theorem dX12_carryAll_40 : decode cX12_carryAll 40 = .ok (.aload_n 0, 1) := by decide +kernel
theorem dX12_carryAll_41 : decode cX12_carryAll 41 = .ok (.aload_n 0, 1) := by decide +kernel
theorem dX12_carryAll_42 : decode cX12_carryAll 42 = .ok (.getfield 105, 3) := by decide +kernel
theorem dX12_carryAll_45 : decode cX12_carryAll 45 = .ok (.invokevirtual 251, 3) := by decide +kernel
theorem dX12_carryAll_48 : decode cX12_carryAll 48 = .ok (.putfield 105, 3) := by decide +kernel
theorem dX12_carryAll_51 : decode cX12_carryAll 51 = .ok (.aload_n 0, 1) := by decide +kernel
theorem dX12_carryAll_52 : decode cX12_carryAll 52 = .ok (.aload_n 0, 1) := by decide +kernel
theorem dX12_carryAll_53 : decode cX12_carryAll 53 = .ok (.aload_n 0, 1) := by decide +kernel
theorem dX12_carryAll_54 : decode cX12_carryAll 54 = .ok (.getfield 112, 3) := by decide +kernel
theorem dX12_carryAll_57 : decode cX12_carryAll 57 = .ok (.invokevirtual 251, 3) := by decide +kernel
theorem dX12_carryAll_60 : decode cX12_carryAll 60 = .ok (.putfield 112, 3) := by decide +kernel
theorem dX12_carryAll_63 : decode cX12_carryAll 63 = .ok (.aload_n 0, 1) := by decide +kernel
theorem dX12_carryAll_64 : decode cX12_carryAll 64 = .ok (.aload_n 0, 1) := by decide +kernel
theorem dX12_carryAll_65 : decode cX12_carryAll 65 = .ok (.aload_n 0, 1) := by decide +kernel
theorem dX12_carryAll_66 : decode cX12_carryAll 66 = .ok (.getfield 239, 3) := by decide +kernel
theorem dX12_carryAll_69 : decode cX12_carryAll 69 = .ok (.invokevirtual 251, 3) := by decide +kernel
theorem dX12_carryAll_72 : decode cX12_carryAll 72 = .ok (.putfield 239, 3) := by decide +kernel
theorem dX12_carryAll_75 : decode cX12_carryAll 75 = .ok (.aload_n 0, 1) := by decide +kernel
theorem dX12_carryAll_76 : decode cX12_carryAll 76 = .ok (.aload_n 0, 1) := by decide +kernel
theorem dX12_carryAll_77 : decode cX12_carryAll 77 = .ok (.aload_n 0, 1) := by decide +kernel
theorem dX12_carryAll_78 : decode cX12_carryAll 78 = .ok (.getfield 130, 3) := by decide +kernel
theorem dX12_carryAll_81 : decode cX12_carryAll 81 = .ok (.invokevirtual 251, 3) := by decide +kernel
theorem dX12_carryAll_84 : decode cX12_carryAll 84 = .ok (.putfield 130, 3) := by decide +kernel
theorem dX12_carryAll_87 : decode cX12_carryAll 87 = .ok (.aload_n 0, 1) := by decide +kernel
theorem dX12_carryAll_88 : decode cX12_carryAll 88 = .ok (.aload_n 0, 1) := by decide +kernel
theorem dX12_carryAll_89 : decode cX12_carryAll 89 = .ok (.aload_n 0, 1) := by decide +kernel
theorem dX12_carryAll_90 : decode cX12_carryAll 90 = .ok (.getfield 127, 3) := by decide +kernel
theorem dX12_carryAll_93 : decode cX12_carryAll 93 = .ok (.invokevirtual 251, 3) := by decide +kernel
theorem dX12_carryAll_96 : decode cX12_carryAll 96 = .ok (.putfield 127, 3) := by decide +kernel
theorem dX12_carryAll_99 : decode cX12_carryAll 99 = .ok (.iconst 0, 1) := by decide +kernel
theorem dX12_carryAll_100 : decode cX12_carryAll 100 = .ok (.istore_n 3, 1) := by decide +kernel
theorem dX12_carryAll_101 : decode cX12_carryAll 101 = .ok (.iload_n 3, 1) := by decide +kernel
theorem dX12_carryAll_102 : decode cX12_carryAll 102 = .ok (.iconst 4, 1) := by decide +kernel
theorem dX12_carryAll_103 : decode cX12_carryAll 103 = .ok (.if_icmp .ge 89, 3) := by decide +kernel
theorem dX12_carryAll_106 : decode cX12_carryAll 106 = .ok (.aload_n 0, 1) := by decide +kernel
theorem dX12_carryAll_107 : decode cX12_carryAll 107 = .ok (.getfield 16, 3) := by decide +kernel
theorem dX12_carryAll_110 : decode cX12_carryAll 110 = .ok (.iload_n 3, 1) := by decide +kernel
theorem dX12_carryAll_111 : decode cX12_carryAll 111 = .ok (.aload_n 0, 1) := by decide +kernel
theorem dX12_carryAll_112 : decode cX12_carryAll 112 = .ok (.aload_n 0, 1) := by decide +kernel
theorem dX12_carryAll_113 : decode cX12_carryAll 113 = .ok (.getfield 16, 3) := by decide +kernel
theorem dX12_carryAll_116 : decode cX12_carryAll 116 = .ok (.iload_n 3, 1) := by decide +kernel
theorem dX12_carryAll_117 : decode cX12_carryAll 117 = .ok (.iaload, 1) := by decide +kernel
theorem dX12_carryAll_118 : decode cX12_carryAll 118 = .ok (.invokevirtual 251, 3) := by decide +kernel
theorem dX12_carryAll_121 : decode cX12_carryAll 121 = .ok (.iastore, 1) := by decide +kernel
theorem dX12_carryAll_122 : decode cX12_carryAll 122 = .ok (.aload_n 0, 1) := by decide +kernel
theorem dX12_carryAll_123 : decode cX12_carryAll 123 = .ok (.getfield 20, 3) := by decide +kernel
theorem dX12_carryAll_126 : decode cX12_carryAll 126 = .ok (.iload_n 3, 1) := by decide +kernel
theorem dX12_carryAll_127 : decode cX12_carryAll 127 = .ok (.aload_n 0, 1) := by decide +kernel
theorem dX12_carryAll_128 : decode cX12_carryAll 128 = .ok (.aload_n 0, 1) := by decide +kernel
theorem dX12_carryAll_129 : decode cX12_carryAll 129 = .ok (.getfield 20, 3) := by decide +kernel
theorem dX12_carryAll_132 : decode cX12_carryAll 132 = .ok (.iload_n 3, 1) := by decide +kernel
theorem dX12_carryAll_133 : decode cX12_carryAll 133 = .ok (.iaload, 1) := by decide +kernel
theorem dX12_carryAll_134 : decode cX12_carryAll 134 = .ok (.invokevirtual 251, 3) := by decide +kernel
theorem dX12_carryAll_137 : decode cX12_carryAll 137 = .ok (.iastore, 1) := by decide +kernel
theorem dX12_carryAll_138 : decode cX12_carryAll 138 = .ok (.aload_n 0, 1) := by decide +kernel
theorem dX12_carryAll_139 : decode cX12_carryAll 139 = .ok (.getfield 23, 3) := by decide +kernel
theorem dX12_carryAll_142 : decode cX12_carryAll 142 = .ok (.iload_n 3, 1) := by decide +kernel
theorem dX12_carryAll_143 : decode cX12_carryAll 143 = .ok (.aload_n 0, 1) := by decide +kernel
theorem dX12_carryAll_144 : decode cX12_carryAll 144 = .ok (.aload_n 0, 1) := by decide +kernel
theorem dX12_carryAll_145 : decode cX12_carryAll 145 = .ok (.getfield 23, 3) := by decide +kernel
theorem dX12_carryAll_148 : decode cX12_carryAll 148 = .ok (.iload_n 3, 1) := by decide +kernel
theorem dX12_carryAll_149 : decode cX12_carryAll 149 = .ok (.iaload, 1) := by decide +kernel
theorem dX12_carryAll_150 : decode cX12_carryAll 150 = .ok (.invokevirtual 251, 3) := by decide +kernel
theorem dX12_carryAll_153 : decode cX12_carryAll 153 = .ok (.iastore, 1) := by decide +kernel
theorem dX12_carryAll_154 : decode cX12_carryAll 154 = .ok (.aload_n 0, 1) := by decide +kernel
theorem dX12_carryAll_155 : decode cX12_carryAll 155 = .ok (.getfield 26, 3) := by decide +kernel
theorem dX12_carryAll_158 : decode cX12_carryAll 158 = .ok (.iload_n 3, 1) := by decide +kernel
theorem dX12_carryAll_159 : decode cX12_carryAll 159 = .ok (.aload_n 0, 1) := by decide +kernel
theorem dX12_carryAll_160 : decode cX12_carryAll 160 = .ok (.aload_n 0, 1) := by decide +kernel
theorem dX12_carryAll_161 : decode cX12_carryAll 161 = .ok (.getfield 26, 3) := by decide +kernel
theorem dX12_carryAll_164 : decode cX12_carryAll 164 = .ok (.iload_n 3, 1) := by decide +kernel
theorem dX12_carryAll_165 : decode cX12_carryAll 165 = .ok (.iaload, 1) := by decide +kernel
theorem dX12_carryAll_166 : decode cX12_carryAll 166 = .ok (.invokevirtual 251, 3) := by decide +kernel
theorem dX12_carryAll_169 : decode cX12_carryAll 169 = .ok (.iastore, 1) := by decide +kernel
theorem dX12_carryAll_170 : decode cX12_carryAll 170 = .ok (.aload_n 0, 1) := by decide +kernel
theorem dX12_carryAll_171 : decode cX12_carryAll 171 = .ok (.getfield 29, 3) := by decide +kernel
theorem dX12_carryAll_174 : decode cX12_carryAll 174 = .ok (.iload_n 3, 1) := by decide +kernel
theorem dX12_carryAll_175 : decode cX12_carryAll 175 = .ok (.aload_n 0, 1) := by decide +kernel
theorem dX12_carryAll_176 : decode cX12_carryAll 176 = .ok (.aload_n 0, 1) := by decide +kernel
theorem dX12_carryAll_177 : decode cX12_carryAll 177 = .ok (.getfield 29, 3) := by decide +kernel
theorem dX12_carryAll_180 : decode cX12_carryAll 180 = .ok (.iload_n 3, 1) := by decide +kernel
theorem dX12_carryAll_181 : decode cX12_carryAll 181 = .ok (.iaload, 1) := by decide +kernel
theorem dX12_carryAll_182 : decode cX12_carryAll 182 = .ok (.invokevirtual 251, 3) := by decide +kernel
theorem dX12_carryAll_185 : decode cX12_carryAll 185 = .ok (.iastore, 1) := by decide +kernel
theorem dX12_carryAll_186 : decode cX12_carryAll 186 = .ok (.iinc 3 1, 3) := by decide +kernel
theorem dX12_carryAll_189 : decode cX12_carryAll 189 = .ok (.goto (-88), 3) := by decide +kernel
theorem dX12_carryAll_192 : decode cX12_carryAll 192 = .ok (.iconst 0, 1) := by decide +kernel
theorem dX12_carryAll_193 : decode cX12_carryAll 193 = .ok (.istore_n 3, 1) := by decide +kernel
theorem dX12_carryAll_194 : decode cX12_carryAll 194 = .ok (.iload_n 3, 1) := by decide +kernel
theorem dX12_carryAll_195 : decode cX12_carryAll 195 = .ok (.bipush 24, 2) := by decide +kernel
theorem dX12_carryAll_197 : decode cX12_carryAll 197 = .ok (.if_icmp .ge 25, 3) := by decide +kernel
theorem dX12_carryAll_200 : decode cX12_carryAll 200 = .ok (.aload_n 0, 1) := by decide +kernel
theorem dX12_carryAll_201 : decode cX12_carryAll 201 = .ok (.getfield 32, 3) := by decide +kernel
theorem dX12_carryAll_204 : decode cX12_carryAll 204 = .ok (.iload_n 3, 1) := by decide +kernel
theorem dX12_carryAll_205 : decode cX12_carryAll 205 = .ok (.aload_n 0, 1) := by decide +kernel
theorem dX12_carryAll_206 : decode cX12_carryAll 206 = .ok (.aload_n 0, 1) := by decide +kernel
theorem dX12_carryAll_207 : decode cX12_carryAll 207 = .ok (.getfield 32, 3) := by decide +kernel
theorem dX12_carryAll_210 : decode cX12_carryAll 210 = .ok (.iload_n 3, 1) := by decide +kernel
theorem dX12_carryAll_211 : decode cX12_carryAll 211 = .ok (.iaload, 1) := by decide +kernel
theorem dX12_carryAll_212 : decode cX12_carryAll 212 = .ok (.invokevirtual 251, 3) := by decide +kernel
theorem dX12_carryAll_215 : decode cX12_carryAll 215 = .ok (.iastore, 1) := by decide +kernel
theorem dX12_carryAll_216 : decode cX12_carryAll 216 = .ok (.iinc 3 1, 3) := by decide +kernel
theorem dX12_carryAll_219 : decode cX12_carryAll 219 = .ok (.goto (-25), 3) := by decide +kernel
theorem dX12_carryAll_222 : decode cX12_carryAll 222 = .ok (.iconst 0, 1) := by decide +kernel
theorem dX12_carryAll_223 : decode cX12_carryAll 223 = .ok (.istore_n 3, 1) := by decide +kernel
theorem dX12_carryAll_224 : decode cX12_carryAll 224 = .ok (.iload_n 3, 1) := by decide +kernel
theorem dX12_carryAll_225 : decode cX12_carryAll 225 = .ok (.iconst 3, 1) := by decide +kernel
theorem dX12_carryAll_226 : decode cX12_carryAll 226 = .ok (.if_icmp .ge 25, 3) := by decide +kernel
theorem dX12_carryAll_229 : decode cX12_carryAll 229 = .ok (.aload_n 0, 1) := by decide +kernel
theorem dX12_carryAll_230 : decode cX12_carryAll 230 = .ok (.getfield 47, 3) := by decide +kernel
theorem dX12_carryAll_233 : decode cX12_carryAll 233 = .ok (.iload_n 3, 1) := by decide +kernel
theorem dX12_carryAll_234 : decode cX12_carryAll 234 = .ok (.aload_n 0, 1) := by decide +kernel
theorem dX12_carryAll_235 : decode cX12_carryAll 235 = .ok (.aload_n 0, 1) := by decide +kernel
theorem dX12_carryAll_236 : decode cX12_carryAll 236 = .ok (.getfield 47, 3) := by decide +kernel
theorem dX12_carryAll_239 : decode cX12_carryAll 239 = .ok (.iload_n 3, 1) := by decide +kernel
theorem dX12_carryAll_240 : decode cX12_carryAll 240 = .ok (.iaload, 1) := by decide +kernel
theorem dX12_carryAll_241 : decode cX12_carryAll 241 = .ok (.invokevirtual 251, 3) := by decide +kernel
theorem dX12_carryAll_244 : decode cX12_carryAll 244 = .ok (.iastore, 1) := by decide +kernel
theorem dX12_carryAll_245 : decode cX12_carryAll 245 = .ok (.iinc 3 1, 3) := by decide +kernel
theorem dX12_carryAll_248 : decode cX12_carryAll 248 = .ok (.goto (-24), 3) := by decide +kernel
theorem dX12_carryAll_251 : decode cX12_carryAll 251 = .ok (.aload_n 0, 1) := by decide +kernel
theorem dX12_carryAll_252 : decode cX12_carryAll 252 = .ok (.invokevirtual 254, 3) := by decide +kernel
theorem dX12_carryAll_255 : decode cX12_carryAll 255 = .ok (.return_, 1) := by decide +kernel
abbrev Pl_M_carryAll_90_224 (G : am_G) : ((Int32 × am_St) ⊕ (am_St)) → am_AQ → Prop := am_PL G M_M_carryAll 224 (fun s : Int32 × am_St => [(3, .int s.1), (0, .ref 66)]) (fun s => s.2) am_Pv
abbrev Pl_M_carryAll_90_194 (G : am_G) : ((Int32 × am_St) ⊕ (am_St)) → am_AQ → Prop := am_PL G M_M_carryAll 194 (fun s : Int32 × am_St => [(3, .int s.1), (0, .ref 66)]) (fun s => s.2) am_Pv
abbrev Pl_M_carryAll_90_101 (G : am_G) : ((Int32 × am_St) ⊕ (am_St)) → am_AQ → Prop := am_PL G M_M_carryAll 101 (fun s : Int32 × am_St => [(3, .int s.1), (0, .ref 66)]) (fun s => s.2) am_Pv
noncomputable def g_M_carryAll_90_170 (x3 : Int32) (σ : am_St) : Option ((Int32 × am_St) ⊕ (am_St)) :=
  if am_ix x3 4 = true then
    (f_M_carry (σ.1 71 x3.toNatClampNeg) σ).bind (fun p1 =>
      if am_ix x3 4 = true then
        let s2 := am_sI p1.2 71 x3.toNatClampNeg p1.1
        let v3 := x3 + 1
        some (.inl (v3, s2))
      else none)
  else none
noncomputable def f_M_carryAll_90_170 (x3 : Int32) (σ : am_St) : Option ((Int32 × am_St) ⊕ (am_St)) := am_lk (g_M_carryAll_90_170 x3 σ)
theorem eq_M_carryAll_90_170 (x3 : Int32) (σ : am_St) : f_M_carryAll_90_170 x3 σ = g_M_carryAll_90_170 x3 σ := am_lk_eq _
set_option maxRecDepth 100000 in
set_option maxHeartbeats 4000000 in
theorem s_M_carryAll_90_170 (G : am_G) (x3 : Int32) (σ : am_St) (r : (Int32 × am_St) ⊕ (am_St)) (Q : am_AQ) (e : f_M_carryAll_90_170 x3 σ = some r) (hr : (Pl_M_carryAll_90_101 G) r Q) : am_AW G M_M_carryAll 170 [(3, .int x3), (0, .ref 66)] [] σ Q :=
  (show am_Snd G M_M_carryAll 170 (Pl_M_carryAll_90_101 G) _ from (sn_aload_n (pc := 170) (i := 0) dX12_carryAll_170 rfl (sn_gR (r0 := 71) (pc := 171) (h := 66) (f := 11) dX12_carryAll_171 am_CL_11 sh_66 rfl (Nat.le_of_ble_eq_true rfl) tw_952 (sn_iload_n (pc := 174) (i := 3) dX12_carryAll_174 rfl (sn_aload_n (pc := 175) (i := 0) dX12_carryAll_175 rfl (sn_aload_n (pc := 176) (i := 0) dX12_carryAll_176 rfl (sn_gR (r0 := 71) (pc := 177) (h := 66) (f := 11) dX12_carryAll_177 am_CL_11 sh_66 rfl (Nat.le_of_ble_eq_true rfl) tw_952 (sn_iload_n (pc := 180) (i := 3) dX12_carryAll_180 rfl (sn_aI (pc := 181) (h := 71) dX12_carryAll_181 sh_71 (sn_callV (pc := 182) (N := M_M_carry) dX12_carryAll_182 (cal_M_carry G) sh_66 rfl tw_1130 tw_1132 tp_30 tw_12 tw_1133 dsc_X12_carry rfl (sn_sI (pc := 185) (h := 71) dX12_carryAll_185 sh_71 (sn_iinc (pc := 186) (v := 1) dX12_carryAll_186 rfl (Nat.le_of_ble_eq_true rfl) (sn_goto (pc := 189) (tgt := 101) dX12_carryAll_189 rfl (sn_lf (pc := 101) (ln_a (i := 0) (q := 66) (ln_i (i := 3) (fun z0 => (ln_end (o := fun τ => (some (.inl (z0, τ)) : Option ((Int32 × am_St) ⊕ (am_St)))) (fun _ _ _ e h => by cases e; exact h))))))))))))))))))) _ _ _ _ _ ((eq_M_carryAll_90_170 x3 σ).symm.trans e) hr
noncomputable def g_M_carryAll_90_138 (x3 : Int32) (σ : am_St) : Option ((Int32 × am_St) ⊕ (am_St)) :=
  if am_ix x3 4 = true then
    (f_M_carry (σ.1 69 x3.toNatClampNeg) σ).bind (fun p1 =>
      if am_ix x3 4 = true then
        let s2 := am_sI p1.2 69 x3.toNatClampNeg p1.1
        if am_ix x3 4 = true then
          (f_M_carry (s2.1 70 x3.toNatClampNeg) s2).bind (fun p3 =>
            if am_ix x3 4 = true then
              let s4 := am_sI p3.2 70 x3.toNatClampNeg p3.1
              f_M_carryAll_90_170 x3 s4
            else none)
        else none
      else none)
  else none
noncomputable def f_M_carryAll_90_138 (x3 : Int32) (σ : am_St) : Option ((Int32 × am_St) ⊕ (am_St)) := am_lk (g_M_carryAll_90_138 x3 σ)
theorem eq_M_carryAll_90_138 (x3 : Int32) (σ : am_St) : f_M_carryAll_90_138 x3 σ = g_M_carryAll_90_138 x3 σ := am_lk_eq _
set_option maxRecDepth 100000 in
set_option maxHeartbeats 4000000 in
theorem s_M_carryAll_90_138 (G : am_G) (x3 : Int32) (σ : am_St) (r : (Int32 × am_St) ⊕ (am_St)) (Q : am_AQ) (e : f_M_carryAll_90_138 x3 σ = some r) (hr : (Pl_M_carryAll_90_101 G) r Q) : am_AW G M_M_carryAll 138 [(3, .int x3), (0, .ref 66)] [] σ Q :=
  (show am_Snd G M_M_carryAll 138 (Pl_M_carryAll_90_101 G) _ from (sn_aload_n (pc := 138) (i := 0) dX12_carryAll_138 rfl (sn_gR (r0 := 69) (pc := 139) (h := 66) (f := 9) dX12_carryAll_139 am_CL_11 sh_66 rfl (Nat.le_of_ble_eq_true rfl) tw_950 (sn_iload_n (pc := 142) (i := 3) dX12_carryAll_142 rfl (sn_aload_n (pc := 143) (i := 0) dX12_carryAll_143 rfl (sn_aload_n (pc := 144) (i := 0) dX12_carryAll_144 rfl (sn_gR (r0 := 69) (pc := 145) (h := 66) (f := 9) dX12_carryAll_145 am_CL_11 sh_66 rfl (Nat.le_of_ble_eq_true rfl) tw_950 (sn_iload_n (pc := 148) (i := 3) dX12_carryAll_148 rfl (sn_aI (pc := 149) (h := 69) dX12_carryAll_149 sh_69 (sn_callV (pc := 150) (N := M_M_carry) dX12_carryAll_150 (cal_M_carry G) sh_66 rfl tw_1130 tw_1132 tp_30 tw_12 tw_1133 dsc_X12_carry rfl (sn_sI (pc := 153) (h := 69) dX12_carryAll_153 sh_69 (sn_aload_n (pc := 154) (i := 0) dX12_carryAll_154 rfl (sn_gR (r0 := 70) (pc := 155) (h := 66) (f := 10) dX12_carryAll_155 am_CL_11 sh_66 rfl (Nat.le_of_ble_eq_true rfl) tw_951 (sn_iload_n (pc := 158) (i := 3) dX12_carryAll_158 rfl (sn_aload_n (pc := 159) (i := 0) dX12_carryAll_159 rfl (sn_aload_n (pc := 160) (i := 0) dX12_carryAll_160 rfl (sn_gR (r0 := 70) (pc := 161) (h := 66) (f := 10) dX12_carryAll_161 am_CL_11 sh_66 rfl (Nat.le_of_ble_eq_true rfl) tw_951 (sn_iload_n (pc := 164) (i := 3) dX12_carryAll_164 rfl (sn_aI (pc := 165) (h := 70) dX12_carryAll_165 sh_70 (sn_callV (pc := 166) (N := M_M_carry) dX12_carryAll_166 (cal_M_carry G) sh_66 rfl tw_1130 tw_1132 tp_30 tw_12 tw_1133 dsc_X12_carry rfl (sn_sI (pc := 169) (h := 70) dX12_carryAll_169 sh_70 (sn_lf (pc := 170) (ln_a (i := 0) (q := 66) (ln_i (i := 3) (fun z0 => (ln_end (o := fun τ => f_M_carryAll_90_170 z0 τ) (fun _ _ _ e h => s_M_carryAll_90_170 G z0 _ _ _ e h))))))))))))))))))))))))))) _ _ _ _ _ ((eq_M_carryAll_90_138 x3 σ).symm.trans e) hr
noncomputable def b_M_carryAll_90_224 (x3 : Int32) (σ : am_St) : Option ((Int32 × am_St) ⊕ (am_St)) :=
  if 3 ≤ x3 then
    (f_M_carrySays σ).bind (fun p1 =>
      some (.inr (p1)))
  else
    if am_ix x3 3 = true then
      (f_M_carry (σ.1 77 x3.toNatClampNeg) σ).bind (fun p2 =>
        if am_ix x3 3 = true then
          let s3 := am_sI p2.2 77 x3.toNatClampNeg p2.1
          let v4 := x3 + 1
          some (.inl (v4, s3))
        else none)
    else none
noncomputable def f_M_carryAll_90_224 (x3 : Int32) (σ : am_St) : Option (am_St) := am_lp (fun s : Int32 × am_St => b_M_carryAll_90_224 s.1 s.2) (x3, σ)
set_option maxRecDepth 100000 in
set_option maxHeartbeats 4000000 in
theorem sb_M_carryAll_90_224 (G : am_G) (x3 : Int32) (σ : am_St) (r : (Int32 × am_St) ⊕ (am_St)) (Q : am_AQ) (e : b_M_carryAll_90_224 x3 σ = some r) (hr : Pl_M_carryAll_90_224 G r Q) : am_AW G M_M_carryAll 224 [(3, .int x3), (0, .ref 66)] [] σ Q :=
  (show am_Snd G M_M_carryAll 224 (Pl_M_carryAll_90_224 G) _ from (sn_iload_n (pc := 224) (i := 3) dX12_carryAll_224 rfl (sn_iconst (pc := 225) (v := 3) dX12_carryAll_225 rfl (sn_icmp_ge (pc := 226) (tgt := 251) dX12_carryAll_226 rfl (sn_aload_n (pc := 251) (i := 0) dX12_carryAll_251 rfl (sn_callV (pc := 252) (N := M_M_carrySays) dX12_carryAll_252 (cal_M_carrySays G) sh_66 rfl tw_1134 tw_1136 tp_31 tw_12 tw_1137 dsc_X12_carrySays rfl (sn_retv (pc := 255) (R := fun τ => (some (.inr (τ)) : Option ((Int32 × am_St) ⊕ (am_St)))) dX12_carryAll_255 rfl (fun _ _ _ e h => by cases e; exact h)))) (sn_aload_n (pc := 229) (i := 0) dX12_carryAll_229 rfl (sn_gR (r0 := 77) (pc := 230) (h := 66) (f := 17) dX12_carryAll_230 am_CL_11 sh_66 rfl (Nat.le_of_ble_eq_true rfl) tw_958 (sn_iload_n (pc := 233) (i := 3) dX12_carryAll_233 rfl (sn_aload_n (pc := 234) (i := 0) dX12_carryAll_234 rfl (sn_aload_n (pc := 235) (i := 0) dX12_carryAll_235 rfl (sn_gR (r0 := 77) (pc := 236) (h := 66) (f := 17) dX12_carryAll_236 am_CL_11 sh_66 rfl (Nat.le_of_ble_eq_true rfl) tw_958 (sn_iload_n (pc := 239) (i := 3) dX12_carryAll_239 rfl (sn_aI (pc := 240) (h := 77) dX12_carryAll_240 sh_77 (sn_callV (pc := 241) (N := M_M_carry) dX12_carryAll_241 (cal_M_carry G) sh_66 rfl tw_1130 tw_1132 tp_30 tw_12 tw_1133 dsc_X12_carry rfl (sn_sI (pc := 244) (h := 77) dX12_carryAll_244 sh_77 (sn_iinc (pc := 245) (v := 1) dX12_carryAll_245 rfl (Nat.le_of_ble_eq_true rfl) (sn_goto (pc := 248) (tgt := 224) dX12_carryAll_248 rfl (sn_lf (pc := 224) (ln_a (i := 0) (q := 66) (ln_i (i := 3) (fun z0 => (ln_end (o := fun τ => (some (.inl (z0, τ)) : Option ((Int32 × am_St) ⊕ (am_St)))) (fun _ _ _ e h => by cases e; exact h)))))))))))))))))))))) _ _ _ _ _ e hr
theorem s_M_carryAll_90_224 (G : am_G) (x3 : Int32) (σ : am_St) (r : am_St) (Q : am_AQ) (e : f_M_carryAll_90_224 x3 σ = some r) (hr : am_Pv r Q) : am_AW G M_M_carryAll 224 [(3, .int x3), (0, .ref 66)] [] σ Q :=
  am_loop (P := am_Pv) (L := fun s : Int32 × am_St => [(3, .int s.1), (0, .ref 66)]) (g := fun s => s.2) (fun s o Q e hr => sb_M_carryAll_90_224 G s.1 s.2 o Q e hr) (x3, σ) r Q e hr
noncomputable def b_M_carryAll_90_194 (x3 : Int32) (σ : am_St) : Option ((Int32 × am_St) ⊕ (am_St)) :=
  if 24 ≤ x3 then
    (f_M_carryAll_90_224 0 σ).map (fun r => .inr r)
  else
    if am_ix x3 24 = true then
      (f_M_carry (σ.1 72 x3.toNatClampNeg) σ).bind (fun p1 =>
        if am_ix x3 24 = true then
          let s2 := am_sI p1.2 72 x3.toNatClampNeg p1.1
          let v3 := x3 + 1
          some (.inl (v3, s2))
        else none)
    else none
noncomputable def f_M_carryAll_90_194 (x3 : Int32) (σ : am_St) : Option (am_St) := am_lp (fun s : Int32 × am_St => b_M_carryAll_90_194 s.1 s.2) (x3, σ)
set_option maxRecDepth 100000 in
set_option maxHeartbeats 4000000 in
theorem sb_M_carryAll_90_194 (G : am_G) (x3 : Int32) (σ : am_St) (r : (Int32 × am_St) ⊕ (am_St)) (Q : am_AQ) (e : b_M_carryAll_90_194 x3 σ = some r) (hr : Pl_M_carryAll_90_194 G r Q) : am_AW G M_M_carryAll 194 [(3, .int x3), (0, .ref 66)] [] σ Q :=
  (show am_Snd G M_M_carryAll 194 (Pl_M_carryAll_90_194 G) _ from (sn_iload_n (pc := 194) (i := 3) dX12_carryAll_194 rfl (sn_bipush (pc := 195) (v := 24) dX12_carryAll_195 rfl (sn_icmp_ge (pc := 197) (tgt := 222) dX12_carryAll_197 rfl (sn_iconst (pc := 222) (v := 0) dX12_carryAll_222 rfl (sn_istore_n (pc := 223) (i := 3) dX12_carryAll_223 rfl (Nat.le_of_ble_eq_true rfl) (sn_lf (pc := 224) (ln_a (i := 0) (q := 66) (ln_i (i := 3) (fun z0 => (ln_end (o := fun τ => ((f_M_carryAll_90_224 z0 τ).map (fun r => .inr r) : Option ((Int32 × am_St) ⊕ (am_St)))) (fun _ _ _ e h => by obtain ⟨r9, e9, rfl⟩ := am_map_some e; exact s_M_carryAll_90_224 G z0 _ _ _ e9 h)))))))) (sn_aload_n (pc := 200) (i := 0) dX12_carryAll_200 rfl (sn_gR (r0 := 72) (pc := 201) (h := 66) (f := 12) dX12_carryAll_201 am_CL_11 sh_66 rfl (Nat.le_of_ble_eq_true rfl) tw_953 (sn_iload_n (pc := 204) (i := 3) dX12_carryAll_204 rfl (sn_aload_n (pc := 205) (i := 0) dX12_carryAll_205 rfl (sn_aload_n (pc := 206) (i := 0) dX12_carryAll_206 rfl (sn_gR (r0 := 72) (pc := 207) (h := 66) (f := 12) dX12_carryAll_207 am_CL_11 sh_66 rfl (Nat.le_of_ble_eq_true rfl) tw_953 (sn_iload_n (pc := 210) (i := 3) dX12_carryAll_210 rfl (sn_aI (pc := 211) (h := 72) dX12_carryAll_211 sh_72 (sn_callV (pc := 212) (N := M_M_carry) dX12_carryAll_212 (cal_M_carry G) sh_66 rfl tw_1130 tw_1132 tp_30 tw_12 tw_1133 dsc_X12_carry rfl (sn_sI (pc := 215) (h := 72) dX12_carryAll_215 sh_72 (sn_iinc (pc := 216) (v := 1) dX12_carryAll_216 rfl (Nat.le_of_ble_eq_true rfl) (sn_goto (pc := 219) (tgt := 194) dX12_carryAll_219 rfl (sn_lf (pc := 194) (ln_a (i := 0) (q := 66) (ln_i (i := 3) (fun z0 => (ln_end (o := fun τ => (some (.inl (z0, τ)) : Option ((Int32 × am_St) ⊕ (am_St)))) (fun _ _ _ e h => by cases e; exact h)))))))))))))))))))))) _ _ _ _ _ e hr
theorem s_M_carryAll_90_194 (G : am_G) (x3 : Int32) (σ : am_St) (r : am_St) (Q : am_AQ) (e : f_M_carryAll_90_194 x3 σ = some r) (hr : am_Pv r Q) : am_AW G M_M_carryAll 194 [(3, .int x3), (0, .ref 66)] [] σ Q :=
  am_loop (P := am_Pv) (L := fun s : Int32 × am_St => [(3, .int s.1), (0, .ref 66)]) (g := fun s => s.2) (fun s o Q e hr => sb_M_carryAll_90_194 G s.1 s.2 o Q e hr) (x3, σ) r Q e hr
noncomputable def b_M_carryAll_90_101 (x3 : Int32) (σ : am_St) : Option ((Int32 × am_St) ⊕ (am_St)) :=
  if 4 ≤ x3 then
    (f_M_carryAll_90_194 0 σ).map (fun r => .inr r)
  else
    if am_ix x3 4 = true then
      (f_M_carry (σ.1 67 x3.toNatClampNeg) σ).bind (fun p1 =>
        if am_ix x3 4 = true then
          let s2 := am_sI p1.2 67 x3.toNatClampNeg p1.1
          if am_ix x3 4 = true then
            (f_M_carry (s2.1 68 x3.toNatClampNeg) s2).bind (fun p3 =>
              if am_ix x3 4 = true then
                let s4 := am_sI p3.2 68 x3.toNatClampNeg p3.1
                f_M_carryAll_90_138 x3 s4
              else none)
          else none
        else none)
    else none
noncomputable def f_M_carryAll_90_101 (x3 : Int32) (σ : am_St) : Option (am_St) := am_lp (fun s : Int32 × am_St => b_M_carryAll_90_101 s.1 s.2) (x3, σ)
set_option maxRecDepth 100000 in
set_option maxHeartbeats 4000000 in
theorem sb_M_carryAll_90_101 (G : am_G) (x3 : Int32) (σ : am_St) (r : (Int32 × am_St) ⊕ (am_St)) (Q : am_AQ) (e : b_M_carryAll_90_101 x3 σ = some r) (hr : Pl_M_carryAll_90_101 G r Q) : am_AW G M_M_carryAll 101 [(3, .int x3), (0, .ref 66)] [] σ Q :=
  (show am_Snd G M_M_carryAll 101 (Pl_M_carryAll_90_101 G) _ from (sn_iload_n (pc := 101) (i := 3) dX12_carryAll_101 rfl (sn_iconst (pc := 102) (v := 4) dX12_carryAll_102 rfl (sn_icmp_ge (pc := 103) (tgt := 192) dX12_carryAll_103 rfl (sn_iconst (pc := 192) (v := 0) dX12_carryAll_192 rfl (sn_istore_n (pc := 193) (i := 3) dX12_carryAll_193 rfl (Nat.le_of_ble_eq_true rfl) (sn_lf (pc := 194) (ln_a (i := 0) (q := 66) (ln_i (i := 3) (fun z0 => (ln_end (o := fun τ => ((f_M_carryAll_90_194 z0 τ).map (fun r => .inr r) : Option ((Int32 × am_St) ⊕ (am_St)))) (fun _ _ _ e h => by obtain ⟨r9, e9, rfl⟩ := am_map_some e; exact s_M_carryAll_90_194 G z0 _ _ _ e9 h)))))))) (sn_aload_n (pc := 106) (i := 0) dX12_carryAll_106 rfl (sn_gR (r0 := 67) (pc := 107) (h := 66) (f := 7) dX12_carryAll_107 am_CL_11 sh_66 rfl (Nat.le_of_ble_eq_true rfl) tw_948 (sn_iload_n (pc := 110) (i := 3) dX12_carryAll_110 rfl (sn_aload_n (pc := 111) (i := 0) dX12_carryAll_111 rfl (sn_aload_n (pc := 112) (i := 0) dX12_carryAll_112 rfl (sn_gR (r0 := 67) (pc := 113) (h := 66) (f := 7) dX12_carryAll_113 am_CL_11 sh_66 rfl (Nat.le_of_ble_eq_true rfl) tw_948 (sn_iload_n (pc := 116) (i := 3) dX12_carryAll_116 rfl (sn_aI (pc := 117) (h := 67) dX12_carryAll_117 sh_67 (sn_callV (pc := 118) (N := M_M_carry) dX12_carryAll_118 (cal_M_carry G) sh_66 rfl tw_1130 tw_1132 tp_30 tw_12 tw_1133 dsc_X12_carry rfl (sn_sI (pc := 121) (h := 67) dX12_carryAll_121 sh_67 (sn_aload_n (pc := 122) (i := 0) dX12_carryAll_122 rfl (sn_gR (r0 := 68) (pc := 123) (h := 66) (f := 8) dX12_carryAll_123 am_CL_11 sh_66 rfl (Nat.le_of_ble_eq_true rfl) tw_949 (sn_iload_n (pc := 126) (i := 3) dX12_carryAll_126 rfl (sn_aload_n (pc := 127) (i := 0) dX12_carryAll_127 rfl (sn_aload_n (pc := 128) (i := 0) dX12_carryAll_128 rfl (sn_gR (r0 := 68) (pc := 129) (h := 66) (f := 8) dX12_carryAll_129 am_CL_11 sh_66 rfl (Nat.le_of_ble_eq_true rfl) tw_949 (sn_iload_n (pc := 132) (i := 3) dX12_carryAll_132 rfl (sn_aI (pc := 133) (h := 68) dX12_carryAll_133 sh_68 (sn_callV (pc := 134) (N := M_M_carry) dX12_carryAll_134 (cal_M_carry G) sh_66 rfl tw_1130 tw_1132 tp_30 tw_12 tw_1133 dsc_X12_carry rfl (sn_sI (pc := 137) (h := 68) dX12_carryAll_137 sh_68 (sn_lf (pc := 138) (ln_a (i := 0) (q := 66) (ln_i (i := 3) (fun z0 => (ln_end (o := fun τ => f_M_carryAll_90_138 z0 τ) (fun _ _ _ e h => s_M_carryAll_90_138 G z0 _ _ _ e h)))))))))))))))))))))))))))))) _ _ _ _ _ e hr
theorem s_M_carryAll_90_101 (G : am_G) (x3 : Int32) (σ : am_St) (r : am_St) (Q : am_AQ) (e : f_M_carryAll_90_101 x3 σ = some r) (hr : am_Pv r Q) : am_AW G M_M_carryAll 101 [(3, .int x3), (0, .ref 66)] [] σ Q :=
  am_loop (P := am_Pv) (L := fun s : Int32 × am_St => [(3, .int s.1), (0, .ref 66)]) (g := fun s => s.2) (fun s o Q e hr => sb_M_carryAll_90_101 G s.1 s.2 o Q e hr) (x3, σ) r Q e hr
noncomputable def g_M_carryAll_90_99 (σ : am_St) : Option (am_St) :=
  f_M_carryAll_90_101 0 σ
noncomputable def f_M_carryAll_90_99 (σ : am_St) : Option (am_St) := am_lk (g_M_carryAll_90_99  σ)
theorem eq_M_carryAll_90_99 (σ : am_St) : f_M_carryAll_90_99  σ = g_M_carryAll_90_99  σ := am_lk_eq _
set_option maxRecDepth 100000 in
set_option maxHeartbeats 4000000 in
theorem s_M_carryAll_90_99 (G : am_G) (σ : am_St) (r : am_St) (Q : am_AQ) (e : f_M_carryAll_90_99  σ = some r) (hr : am_Pv r Q) : am_AW G M_M_carryAll 99 [(0, .ref 66)] [] σ Q :=
  (show am_Snd G M_M_carryAll 99 am_Pv _ from (sn_iconst (pc := 99) (v := 0) dX12_carryAll_99 rfl (sn_istore_n (pc := 100) (i := 3) dX12_carryAll_100 rfl (Nat.le_of_ble_eq_true rfl) (sn_lf (pc := 101) (ln_a (i := 0) (q := 66) (ln_i (i := 3) (fun z0 => (ln_end (o := fun τ => f_M_carryAll_90_101 z0 τ) (fun _ _ _ e h => s_M_carryAll_90_101 G z0 _ _ _ e h))))))))) _ _ _ _ _ ((eq_M_carryAll_90_99  σ).symm.trans e) hr
noncomputable def g_M_carryAll_90_75 (σ : am_St) : Option (am_St) :=
  (f_M_carry (σ.1 66 5) σ).bind (fun p1 =>
    let s2 := am_sI p1.2 66 5 p1.1
    (f_M_carry (s2.1 66 6) s2).bind (fun p3 =>
      let s4 := am_sI p3.2 66 6 p3.1
      f_M_carryAll_90_99 s4))
noncomputable def f_M_carryAll_90_75 (σ : am_St) : Option (am_St) := am_lk (g_M_carryAll_90_75  σ)
theorem eq_M_carryAll_90_75 (σ : am_St) : f_M_carryAll_90_75  σ = g_M_carryAll_90_75  σ := am_lk_eq _
set_option maxRecDepth 100000 in
set_option maxHeartbeats 4000000 in
theorem s_M_carryAll_90_75 (G : am_G) (σ : am_St) (r : am_St) (Q : am_AQ) (e : f_M_carryAll_90_75  σ = some r) (hr : am_Pv r Q) : am_AW G M_M_carryAll 75 [(0, .ref 66)] [] σ Q :=
  (show am_Snd G M_M_carryAll 75 am_Pv _ from (sn_aload_n (pc := 75) (i := 0) dX12_carryAll_75 rfl (sn_aload_n (pc := 76) (i := 0) dX12_carryAll_76 rfl (sn_aload_n (pc := 77) (i := 0) dX12_carryAll_77 rfl (sn_gI (pc := 78) (h := 66) (f := 5) dX12_carryAll_78 am_CL_11 sh_66 rfl (Nat.le_of_ble_eq_true rfl) tw_946 (sn_callV (pc := 81) (N := M_M_carry) dX12_carryAll_81 (cal_M_carry G) sh_66 rfl tw_1130 tw_1132 tp_30 tw_12 tw_1133 dsc_X12_carry rfl (sn_pI (pc := 84) (h := 66) (f := 5) dX12_carryAll_84 am_CL_11 sh_66 rfl (Nat.le_of_ble_eq_true rfl) tw_946 rfl rfl (sn_aload_n (pc := 87) (i := 0) dX12_carryAll_87 rfl (sn_aload_n (pc := 88) (i := 0) dX12_carryAll_88 rfl (sn_aload_n (pc := 89) (i := 0) dX12_carryAll_89 rfl (sn_gI (pc := 90) (h := 66) (f := 6) dX12_carryAll_90 am_CL_11 sh_66 rfl (Nat.le_of_ble_eq_true rfl) tw_947 (sn_callV (pc := 93) (N := M_M_carry) dX12_carryAll_93 (cal_M_carry G) sh_66 rfl tw_1130 tw_1132 tp_30 tw_12 tw_1133 dsc_X12_carry rfl (sn_pI (pc := 96) (h := 66) (f := 6) dX12_carryAll_96 am_CL_11 sh_66 rfl (Nat.le_of_ble_eq_true rfl) tw_947 rfl rfl (sn_lf (pc := 99) (ln_a (i := 0) (q := 66) (ln_end (o := fun τ => f_M_carryAll_90_99 τ) (fun _ _ _ e h => s_M_carryAll_90_99 G  _ _ _ e h))))))))))))))))) _ _ _ _ _ ((eq_M_carryAll_90_75  σ).symm.trans e) hr
noncomputable def g_M_carryAll_90_51 (σ : am_St) : Option (am_St) :=
  (f_M_carry (σ.1 66 3) σ).bind (fun p1 =>
    let s2 := am_sI p1.2 66 3 p1.1
    (f_M_carry (s2.1 66 4) s2).bind (fun p3 =>
      let s4 := am_sI p3.2 66 4 p3.1
      f_M_carryAll_90_75 s4))
noncomputable def f_M_carryAll_90_51 (σ : am_St) : Option (am_St) := am_lk (g_M_carryAll_90_51  σ)
theorem eq_M_carryAll_90_51 (σ : am_St) : f_M_carryAll_90_51  σ = g_M_carryAll_90_51  σ := am_lk_eq _
set_option maxRecDepth 100000 in
set_option maxHeartbeats 4000000 in
theorem s_M_carryAll_90_51 (G : am_G) (σ : am_St) (r : am_St) (Q : am_AQ) (e : f_M_carryAll_90_51  σ = some r) (hr : am_Pv r Q) : am_AW G M_M_carryAll 51 [(0, .ref 66)] [] σ Q :=
  (show am_Snd G M_M_carryAll 51 am_Pv _ from (sn_aload_n (pc := 51) (i := 0) dX12_carryAll_51 rfl (sn_aload_n (pc := 52) (i := 0) dX12_carryAll_52 rfl (sn_aload_n (pc := 53) (i := 0) dX12_carryAll_53 rfl (sn_gI (pc := 54) (h := 66) (f := 3) dX12_carryAll_54 am_CL_11 sh_66 rfl (Nat.le_of_ble_eq_true rfl) tw_944 (sn_callV (pc := 57) (N := M_M_carry) dX12_carryAll_57 (cal_M_carry G) sh_66 rfl tw_1130 tw_1132 tp_30 tw_12 tw_1133 dsc_X12_carry rfl (sn_pI (pc := 60) (h := 66) (f := 3) dX12_carryAll_60 am_CL_11 sh_66 rfl (Nat.le_of_ble_eq_true rfl) tw_944 rfl rfl (sn_aload_n (pc := 63) (i := 0) dX12_carryAll_63 rfl (sn_aload_n (pc := 64) (i := 0) dX12_carryAll_64 rfl (sn_aload_n (pc := 65) (i := 0) dX12_carryAll_65 rfl (sn_gI (pc := 66) (h := 66) (f := 4) dX12_carryAll_66 am_CL_11 sh_66 rfl (Nat.le_of_ble_eq_true rfl) tw_945 (sn_callV (pc := 69) (N := M_M_carry) dX12_carryAll_69 (cal_M_carry G) sh_66 rfl tw_1130 tw_1132 tp_30 tw_12 tw_1133 dsc_X12_carry rfl (sn_pI (pc := 72) (h := 66) (f := 4) dX12_carryAll_72 am_CL_11 sh_66 rfl (Nat.le_of_ble_eq_true rfl) tw_945 rfl rfl (sn_lf (pc := 75) (ln_a (i := 0) (q := 66) (ln_end (o := fun τ => f_M_carryAll_90_75 τ) (fun _ _ _ e h => s_M_carryAll_90_75 G  _ _ _ e h))))))))))))))))) _ _ _ _ _ ((eq_M_carryAll_90_51  σ).symm.trans e) hr
noncomputable def g_M_carryAll_90_27 (σ : am_St) : Option (am_St) :=
  (f_M_carry (σ.1 66 1) σ).bind (fun p1 =>
    let s2 := am_sI p1.2 66 1 p1.1
    (f_M_carry (s2.1 66 2) s2).bind (fun p3 =>
      let s4 := am_sI p3.2 66 2 p3.1
      f_M_carryAll_90_51 s4))
noncomputable def f_M_carryAll_90_27 (σ : am_St) : Option (am_St) := am_lk (g_M_carryAll_90_27  σ)
theorem eq_M_carryAll_90_27 (σ : am_St) : f_M_carryAll_90_27  σ = g_M_carryAll_90_27  σ := am_lk_eq _
set_option maxRecDepth 100000 in
set_option maxHeartbeats 4000000 in
theorem s_M_carryAll_90_27 (G : am_G) (σ : am_St) (r : am_St) (Q : am_AQ) (e : f_M_carryAll_90_27  σ = some r) (hr : am_Pv r Q) : am_AW G M_M_carryAll 27 [(0, .ref 66)] [] σ Q :=
  (show am_Snd G M_M_carryAll 27 am_Pv _ from (sn_aload_n (pc := 27) (i := 0) dX12_carryAll_27 rfl (sn_aload_n (pc := 28) (i := 0) dX12_carryAll_28 rfl (sn_aload_n (pc := 29) (i := 0) dX12_carryAll_29 rfl (sn_gI (pc := 30) (h := 66) (f := 1) dX12_carryAll_30 am_CL_11 sh_66 rfl (Nat.le_of_ble_eq_true rfl) tw_942 (sn_callV (pc := 33) (N := M_M_carry) dX12_carryAll_33 (cal_M_carry G) sh_66 rfl tw_1130 tw_1132 tp_30 tw_12 tw_1133 dsc_X12_carry rfl (sn_pI (pc := 36) (h := 66) (f := 1) dX12_carryAll_36 am_CL_11 sh_66 rfl (Nat.le_of_ble_eq_true rfl) tw_942 rfl rfl (sn_aload_n (pc := 39) (i := 0) dX12_carryAll_39 rfl (sn_aload_n (pc := 40) (i := 0) dX12_carryAll_40 rfl (sn_aload_n (pc := 41) (i := 0) dX12_carryAll_41 rfl (sn_gI (pc := 42) (h := 66) (f := 2) dX12_carryAll_42 am_CL_11 sh_66 rfl (Nat.le_of_ble_eq_true rfl) tw_943 (sn_callV (pc := 45) (N := M_M_carry) dX12_carryAll_45 (cal_M_carry G) sh_66 rfl tw_1130 tw_1132 tp_30 tw_12 tw_1133 dsc_X12_carry rfl (sn_pI (pc := 48) (h := 66) (f := 2) dX12_carryAll_48 am_CL_11 sh_66 rfl (Nat.le_of_ble_eq_true rfl) tw_943 rfl rfl (sn_lf (pc := 51) (ln_a (i := 0) (q := 66) (ln_end (o := fun τ => f_M_carryAll_90_51 τ) (fun _ _ _ e h => s_M_carryAll_90_51 G  _ _ _ e h))))))))))))))))) _ _ _ _ _ ((eq_M_carryAll_90_27  σ).symm.trans e) hr
noncomputable def g_M_carryAll_90 (x2 : Int32) (σ : am_St) : Option (am_St) :=
  let s1 := am_sK σ (some 90)
  if x2 &&& 1 = x2 then
    let s2 := am_sI s1 66 40 x2
    let s3 := am_sI s2 66 39 0
    (f_M_carry (s3.1 66 0) s3).bind (fun p4 =>
      let s5 := am_sI p4.2 66 0 p4.1
      f_M_carryAll_90_27 s5)
  else none
noncomputable def f_M_carryAll_90 (x2 : Int32) (σ : am_St) : Option (am_St) := am_lk (g_M_carryAll_90 x2 σ)
theorem eq_M_carryAll_90 (x2 : Int32) (σ : am_St) : f_M_carryAll_90 x2 σ = g_M_carryAll_90 x2 σ := am_lk_eq _
set_option maxRecDepth 100000 in
set_option maxHeartbeats 4000000 in
theorem s_M_carryAll_90 (G : am_G) (x2 : Int32) (σ : am_St) (r : am_St) (Q : am_AQ) (e : f_M_carryAll_90 x2 σ = some r) (hr : am_Pv r Q) : am_AW G M_M_carryAll 0 [(0, .ref 66), (1, .ref 90), (2, .int x2)] [] σ Q :=
  (show am_Snd G M_M_carryAll 0 am_Pv _ from (sn_aload_n (pc := 0) (i := 0) dX12_carryAll_0 rfl (sn_aload_n (pc := 1) (i := 1) dX12_carryAll_1 rfl (sn_pK (pc := 2) (h := 66) (f := 41) dX12_carryAll_2 am_CL_11 sh_66 rfl (Nat.le_of_ble_eq_true rfl) tw_982 rfl rfl rfl sh_66_one (sn_aload_n (pc := 5) (i := 0) dX12_carryAll_5 rfl (sn_iload_n (pc := 6) (i := 2) dX12_carryAll_6 rfl (sn_pZ (pc := 7) (h := 66) (f := 40) dX12_carryAll_7 am_CL_11 sh_66 rfl (Nat.le_of_ble_eq_true rfl) tw_981 rfl rfl (sn_aload_n (pc := 10) (i := 0) dX12_carryAll_10 rfl (sn_iconst (pc := 11) (v := 0) dX12_carryAll_11 rfl (sn_pI (pc := 12) (h := 66) (f := 39) dX12_carryAll_12 am_CL_11 sh_66 rfl (Nat.le_of_ble_eq_true rfl) tw_980 rfl rfl (sn_aload_n (pc := 15) (i := 0) dX12_carryAll_15 rfl (sn_aload_n (pc := 16) (i := 0) dX12_carryAll_16 rfl (sn_aload_n (pc := 17) (i := 0) dX12_carryAll_17 rfl (sn_gI (pc := 18) (h := 66) (f := 0) dX12_carryAll_18 am_CL_11 sh_66 rfl (Nat.le_of_ble_eq_true rfl) tw_941 (sn_callV (pc := 21) (N := M_M_carry) dX12_carryAll_21 (cal_M_carry G) sh_66 rfl tw_1130 tw_1132 tp_30 tw_12 tw_1133 dsc_X12_carry rfl (sn_pI (pc := 24) (h := 66) (f := 0) dX12_carryAll_24 am_CL_11 sh_66 rfl (Nat.le_of_ble_eq_true rfl) tw_941 rfl rfl (sn_lf (pc := 27) (ln_a (i := 0) (q := 66) (ln_end (o := fun τ => f_M_carryAll_90_27 τ) (fun _ _ _ e h => s_M_carryAll_90_27 G  _ _ _ e h)))))))))))))))))))) _ _ _ _ _ ((eq_M_carryAll_90 x2 σ).symm.trans e) hr
noncomputable def cF_M_carryAll_90 : am_Fn := fun _ args σ K => match args with
  | [.ref q0, .ref q1, .int z2] => match Nat.beq q0 66, Nat.beq q1 90 with
    | true, true => (f_M_carryAll_90 z2 σ).bind (fun p => K none p)
    | _, _ => none
  | _ => none
theorem cal_M_carryAll_90 (G : am_G) : am_Cal G M_M_carryAll cF_M_carryAll_90 := by
  intro ρ args σ K r e
  unfold cF_M_carryAll_90 at e
  split at e
  · split at e
    · rename_i hq0 hq1
      obtain ⟨p, h1, h2⟩ := am_bind_some e
      rw [Nat.eq_of_beq_eq_true hq0]
      rw [Nat.eq_of_beq_eq_true hq1]
      exact ⟨none, p, am_Met.of rfl (Nat.le_of_ble_eq_true rfl) (s_M_carryAll_90 G _ σ p _ h1 ⟨rfl, rfl⟩), h2⟩
    · cases e
  · cases e
abbrev M_M_isRoom : am_MD := (yX12_isRoom, cX12_isRoom, 2, (some .boolean), 1, 25)
theorem dX12_isRoom_0 : decode cX12_isRoom 0 = .ok (.iload_n 1, 1) := by decide +kernel
theorem dX12_isRoom_1 : decode cX12_isRoom 1 = .ok (.i2l, 1) := by decide +kernel
theorem dX12_isRoom_2 : decode cX12_isRoom 2 = .ok (.lconst 0, 1) := by decide +kernel
theorem dX12_isRoom_3 : decode cX12_isRoom 3 = .ok (.aload_n 0, 1) := by decide +kernel
theorem dX12_isRoom_4 : decode cX12_isRoom 4 = .ok (.getfield 7, 3) := by decide +kernel
theorem dX12_isRoom_7 : decode cX12_isRoom 7 = .ok (.iconst 1, 1) := by decide +kernel
theorem dX12_isRoom_8 : decode cX12_isRoom 8 = .ok (.isub, 1) := by decide +kernel
theorem dX12_isRoom_9 : decode cX12_isRoom 9 = .ok (.i2l, 1) := by decide +kernel
theorem dX12_isRoom_10 : decode cX12_isRoom 10 = .ok (.invokestatic 108, 3) := by decide +kernel
theorem dX12_isRoom_13 : decode cX12_isRoom 13 = .ok (.ireturn, 1) := by decide +kernel
noncomputable def g_M_isRoom (x1 : Int32) (σ : am_St) : Option (Int32 × am_St) :=
  (f_M_in x1.toInt64 0 (((σ.1 66 0) - 1).toInt64) σ).bind (fun p1 =>
    if p1.1 &&& 1 = p1.1 then some ((p1.1, p1.2)) else none)
noncomputable def f_M_isRoom (x1 : Int32) (σ : am_St) : Option (Int32 × am_St) := am_lk (g_M_isRoom x1 σ)
theorem eq_M_isRoom (x1 : Int32) (σ : am_St) : f_M_isRoom x1 σ = g_M_isRoom x1 σ := am_lk_eq _
set_option maxRecDepth 100000 in
set_option maxHeartbeats 4000000 in
theorem s_M_isRoom (G : am_G) (x1 : Int32) (σ : am_St) (r : Int32 × am_St) (Q : am_AQ) (e : f_M_isRoom x1 σ = some r) (hr : am_Pi r Q) : am_AW G M_M_isRoom 0 [(0, .ref 66), (1, .int x1)] [] σ Q :=
  (show am_Snd G M_M_isRoom 0 am_Pi _ from (sn_iload_n (pc := 0) (i := 1) dX12_isRoom_0 rfl (sn_i2l (pc := 1) dX12_isRoom_1 (sn_lconst (pc := 2) (v := 0) dX12_isRoom_2 rfl (sn_aload_n (pc := 3) (i := 0) dX12_isRoom_3 rfl (sn_gI (pc := 4) (h := 66) (f := 0) dX12_isRoom_4 am_CL_11 sh_66 rfl (Nat.le_of_ble_eq_true rfl) tw_941 (sn_iconst (pc := 7) (v := 1) dX12_isRoom_7 rfl (sn_isub (pc := 8) dX12_isRoom_8 (sn_i2l (pc := 9) dX12_isRoom_9 (sn_callS (pc := 10) (N := M_M_in) dX12_isRoom_10 (cal_M_in G) tw_1116 tw_1117 tw_12 tw_1118 dsc_X12_in rfl (sn_retz (pc := 13) (R := fun x τ => (some ((x, τ)))) dX12_isRoom_13 rfl (fun _ _ _ _ e h => by cases e; exact h)))))))))))) _ _ _ _ _ ((eq_M_isRoom x1 σ).symm.trans e) hr
noncomputable def cF_M_isRoom : am_Fn := fun _ args σ K => match args with
  | [.ref q0, .int z1] => match Nat.beq q0 66 with
    | true => (f_M_isRoom z1 σ).bind (fun p => K (some (.int p.1)) p.2)
    | _ => none
  | _ => none
theorem cal_M_isRoom (G : am_G) : am_Cal G M_M_isRoom cF_M_isRoom := by
  intro ρ args σ K r e
  unfold cF_M_isRoom at e
  split at e
  · split at e
    · rename_i hq0
      obtain ⟨p, h1, h2⟩ := am_bind_some e
      rw [Nat.eq_of_beq_eq_true hq0]
      exact ⟨some (.int p.1), p.2, am_Met.of rfl (Nat.le_of_ble_eq_true rfl) (s_M_isRoom G _ σ p _ h1 ⟨rfl, rfl⟩), h2⟩
    · cases e
  · cases e
abbrev M_M_isMinute : am_MD := (yX12_isMinute, cX12_isMinute, 2, (some .boolean), 1, 25)
theorem dX12_isMinute_0 : decode cX12_isMinute 0 = .ok (.iload_n 1, 1) := by decide +kernel
theorem dX12_isMinute_1 : decode cX12_isMinute 1 = .ok (.i2l, 1) := by decide +kernel
theorem dX12_isMinute_2 : decode cX12_isMinute 2 = .ok (.lconst 0, 1) := by decide +kernel
theorem dX12_isMinute_3 : decode cX12_isMinute 3 = .ok (.aload_n 0, 1) := by decide +kernel
theorem dX12_isMinute_4 : decode cX12_isMinute 4 = .ok (.getfield 13, 3) := by decide +kernel
theorem dX12_isMinute_7 : decode cX12_isMinute 7 = .ok (.iconst 1, 1) := by decide +kernel
theorem dX12_isMinute_8 : decode cX12_isMinute 8 = .ok (.isub, 1) := by decide +kernel
theorem dX12_isMinute_9 : decode cX12_isMinute 9 = .ok (.i2l, 1) := by decide +kernel
theorem dX12_isMinute_10 : decode cX12_isMinute 10 = .ok (.invokestatic 108, 3) := by decide +kernel
theorem dX12_isMinute_13 : decode cX12_isMinute 13 = .ok (.ireturn, 1) := by decide +kernel
noncomputable def g_M_isMinute (x1 : Int32) (σ : am_St) : Option (Int32 × am_St) :=
  (f_M_in x1.toInt64 0 (((σ.1 66 1) - 1).toInt64) σ).bind (fun p1 =>
    if p1.1 &&& 1 = p1.1 then some ((p1.1, p1.2)) else none)
noncomputable def f_M_isMinute (x1 : Int32) (σ : am_St) : Option (Int32 × am_St) := am_lk (g_M_isMinute x1 σ)
theorem eq_M_isMinute (x1 : Int32) (σ : am_St) : f_M_isMinute x1 σ = g_M_isMinute x1 σ := am_lk_eq _
set_option maxRecDepth 100000 in
set_option maxHeartbeats 4000000 in
theorem s_M_isMinute (G : am_G) (x1 : Int32) (σ : am_St) (r : Int32 × am_St) (Q : am_AQ) (e : f_M_isMinute x1 σ = some r) (hr : am_Pi r Q) : am_AW G M_M_isMinute 0 [(0, .ref 66), (1, .int x1)] [] σ Q :=
  (show am_Snd G M_M_isMinute 0 am_Pi _ from (sn_iload_n (pc := 0) (i := 1) dX12_isMinute_0 rfl (sn_i2l (pc := 1) dX12_isMinute_1 (sn_lconst (pc := 2) (v := 0) dX12_isMinute_2 rfl (sn_aload_n (pc := 3) (i := 0) dX12_isMinute_3 rfl (sn_gI (pc := 4) (h := 66) (f := 1) dX12_isMinute_4 am_CL_11 sh_66 rfl (Nat.le_of_ble_eq_true rfl) tw_942 (sn_iconst (pc := 7) (v := 1) dX12_isMinute_7 rfl (sn_isub (pc := 8) dX12_isMinute_8 (sn_i2l (pc := 9) dX12_isMinute_9 (sn_callS (pc := 10) (N := M_M_in) dX12_isMinute_10 (cal_M_in G) tw_1116 tw_1117 tw_12 tw_1118 dsc_X12_in rfl (sn_retz (pc := 13) (R := fun x τ => (some ((x, τ)))) dX12_isMinute_13 rfl (fun _ _ _ _ e h => by cases e; exact h)))))))))))) _ _ _ _ _ ((eq_M_isMinute x1 σ).symm.trans e) hr
noncomputable def cF_M_isMinute : am_Fn := fun _ args σ K => match args with
  | [.ref q0, .int z1] => match Nat.beq q0 66 with
    | true => (f_M_isMinute z1 σ).bind (fun p => K (some (.int p.1)) p.2)
    | _ => none
  | _ => none
theorem cal_M_isMinute (G : am_G) : am_Cal G M_M_isMinute cF_M_isMinute := by
  intro ρ args σ K r e
  unfold cF_M_isMinute at e
  split at e
  · split at e
    · rename_i hq0
      obtain ⟨p, h1, h2⟩ := am_bind_some e
      rw [Nat.eq_of_beq_eq_true hq0]
      exact ⟨some (.int p.1), p.2, am_Met.of rfl (Nat.le_of_ble_eq_true rfl) (s_M_isMinute G _ σ p _ h1 ⟨rfl, rfl⟩), h2⟩
    · cases e
  · cases e
abbrev M_M_deedComes : am_MD := (yX12_deedComes, cX12_deedComes, 4, (some .boolean), 2, 46)
theorem dX12_deedComes_0 : decode cX12_deedComes 0 = .ok (.aload_n 0, 1) := by decide +kernel
theorem dX12_deedComes_1 : decode cX12_deedComes 1 = .ok (.iload_n 1, 1) := by decide +kernel
theorem dX12_deedComes_2 : decode cX12_deedComes 2 = .ok (.invokevirtual 195, 3) := by decide +kernel
theorem dX12_deedComes_5 : decode cX12_deedComes 5 = .ok (.ifCond .eq 15, 3) := by decide +kernel
theorem dX12_deedComes_8 : decode cX12_deedComes 8 = .ok (.aload_n 0, 1) := by decide +kernel
theorem dX12_deedComes_9 : decode cX12_deedComes 9 = .ok (.iload_n 2, 1) := by decide +kernel
theorem dX12_deedComes_10 : decode cX12_deedComes 10 = .ok (.invokevirtual 206, 3) := by decide +kernel
theorem dX12_deedComes_13 : decode cX12_deedComes 13 = .ok (.ifCond .eq 7, 3) := by decide +kernel
theorem dX12_deedComes_16 : decode cX12_deedComes 16 = .ok (.iconst 1, 1) := by decide +kernel
theorem dX12_deedComes_17 : decode cX12_deedComes 17 = .ok (.goto 4, 3) := by decide +kernel
theorem dX12_deedComes_20 : decode cX12_deedComes 20 = .ok (.iconst 0, 1) := by decide +kernel
theorem dX12_deedComes_21 : decode cX12_deedComes 21 = .ok (.istore_n 3, 1) := by decide +kernel
theorem dX12_deedComes_22 : decode cX12_deedComes 22 = .ok (.iload_n 3, 1) := by decide +kernel
theorem dX12_deedComes_23 : decode cX12_deedComes 23 = .ok (.ifCond .eq 13, 3) := by decide +kernel
theorem dX12_deedComes_26 : decode cX12_deedComes 26 = .ok (.aload_n 0, 1) := by decide +kernel
theorem dX12_deedComes_27 : decode cX12_deedComes 27 = .ok (.iload_n 1, 1) := by decide +kernel
theorem dX12_deedComes_28 : decode cX12_deedComes 28 = .ok (.putfield 130, 3) := by decide +kernel
theorem dX12_deedComes_31 : decode cX12_deedComes 31 = .ok (.aload_n 0, 1) := by decide +kernel
theorem dX12_deedComes_32 : decode cX12_deedComes 32 = .ok (.iload_n 2, 1) := by decide +kernel
theorem dX12_deedComes_33 : decode cX12_deedComes 33 = .ok (.putfield 127, 3) := by decide +kernel
theorem dX12_deedComes_36 : decode cX12_deedComes 36 = .ok (.iload_n 3, 1) := by decide +kernel
theorem dX12_deedComes_37 : decode cX12_deedComes 37 = .ok (.ireturn, 1) := by decide +kernel
noncomputable def g_M_deedComes_21 (x1 : Int32) (x2 : Int32) (y0 : Int32) (σ : am_St) : Option (Int32 × am_St) :=
  if y0 = 0 then
    if y0 &&& 1 = y0 then some ((y0, σ)) else none
  else
    let s1 := am_sI σ 66 5 x1
    let s2 := am_sI s1 66 6 x2
    if y0 &&& 1 = y0 then some ((y0, s2)) else none
noncomputable def f_M_deedComes_21 (x1 : Int32) (x2 : Int32) (y0 : Int32) (σ : am_St) : Option (Int32 × am_St) := am_lk (g_M_deedComes_21 x1 x2 y0 σ)
theorem eq_M_deedComes_21 (x1 : Int32) (x2 : Int32) (y0 : Int32) (σ : am_St) : f_M_deedComes_21 x1 x2 y0 σ = g_M_deedComes_21 x1 x2 y0 σ := am_lk_eq _
set_option maxRecDepth 100000 in
set_option maxHeartbeats 4000000 in
theorem s_M_deedComes_21 (G : am_G) (x1 : Int32) (x2 : Int32) (y0 : Int32) (σ : am_St) (r : Int32 × am_St) (Q : am_AQ) (e : f_M_deedComes_21 x1 x2 y0 σ = some r) (hr : am_Pi r Q) : am_AW G M_M_deedComes 21 [(2, .int x2), (1, .int x1), (0, .ref 66)] [.int y0] σ Q :=
  (show am_Snd G M_M_deedComes 21 am_Pi _ from (sn_istore_n (pc := 21) (i := 3) dX12_deedComes_21 rfl (Nat.le_of_ble_eq_true rfl) (sn_iload_n (pc := 22) (i := 3) dX12_deedComes_22 rfl (sn_if_eq (pc := 23) (tgt := 36) dX12_deedComes_23 rfl (sn_iload_n (pc := 36) (i := 3) dX12_deedComes_36 rfl (sn_retz (pc := 37) (R := fun x τ => (some ((x, τ)))) dX12_deedComes_37 rfl (fun _ _ _ _ e h => by cases e; exact h))) (sn_aload_n (pc := 26) (i := 0) dX12_deedComes_26 rfl (sn_iload_n (pc := 27) (i := 1) dX12_deedComes_27 rfl (sn_pI (pc := 28) (h := 66) (f := 5) dX12_deedComes_28 am_CL_11 sh_66 rfl (Nat.le_of_ble_eq_true rfl) tw_946 rfl rfl (sn_aload_n (pc := 31) (i := 0) dX12_deedComes_31 rfl (sn_iload_n (pc := 32) (i := 2) dX12_deedComes_32 rfl (sn_pI (pc := 33) (h := 66) (f := 6) dX12_deedComes_33 am_CL_11 sh_66 rfl (Nat.le_of_ble_eq_true rfl) tw_947 rfl rfl (sn_iload_n (pc := 36) (i := 3) dX12_deedComes_36 rfl (sn_retz (pc := 37) (R := fun x τ => (some ((x, τ)))) dX12_deedComes_37 rfl (fun _ _ _ _ e h => by cases e; exact h))))))))))))) _ _ _ _ _ ((eq_M_deedComes_21 x1 x2 y0 σ).symm.trans e) hr
noncomputable def g_M_deedComes_20 (x1 : Int32) (x2 : Int32) (σ : am_St) : Option (Int32 × am_St) :=
  f_M_deedComes_21 x1 x2 0 σ
noncomputable def f_M_deedComes_20 (x1 : Int32) (x2 : Int32) (σ : am_St) : Option (Int32 × am_St) := am_lk (g_M_deedComes_20 x1 x2 σ)
theorem eq_M_deedComes_20 (x1 : Int32) (x2 : Int32) (σ : am_St) : f_M_deedComes_20 x1 x2 σ = g_M_deedComes_20 x1 x2 σ := am_lk_eq _
set_option maxRecDepth 100000 in
set_option maxHeartbeats 4000000 in
theorem s_M_deedComes_20 (G : am_G) (x1 : Int32) (x2 : Int32) (σ : am_St) (r : Int32 × am_St) (Q : am_AQ) (e : f_M_deedComes_20 x1 x2 σ = some r) (hr : am_Pi r Q) : am_AW G M_M_deedComes 20 [(2, .int x2), (1, .int x1), (0, .ref 66)] [] σ Q :=
  (show am_Snd G M_M_deedComes 20 am_Pi _ from (sn_iconst (pc := 20) (v := 0) dX12_deedComes_20 rfl (sn_lf (pc := 21) (ln_a (i := 0) (q := 66) (ln_i (i := 1) (fun z0 => (ln_i (i := 2) (fun z1 => (ln_si (fun w0 => (ln_end (o := fun τ => f_M_deedComes_21 z0 z1 w0 τ) (fun _ _ _ e h => s_M_deedComes_21 G z0 z1 w0 _ _ _ e h)))))))))))) _ _ _ _ _ ((eq_M_deedComes_20 x1 x2 σ).symm.trans e) hr
noncomputable def g_M_deedComes (x1 : Int32) (x2 : Int32) (σ : am_St) : Option (Int32 × am_St) :=
  (f_M_isRoom x1 σ).bind (fun p1 =>
    if p1.1 = 0 then
      f_M_deedComes_20 x1 x2 p1.2
    else
      (f_M_isMinute x2 p1.2).bind (fun p2 =>
        if p2.1 = 0 then
          f_M_deedComes_20 x1 x2 p2.2
        else
          f_M_deedComes_21 x1 x2 1 p2.2))
noncomputable def f_M_deedComes (x1 : Int32) (x2 : Int32) (σ : am_St) : Option (Int32 × am_St) := am_lk (g_M_deedComes x1 x2 σ)
theorem eq_M_deedComes (x1 : Int32) (x2 : Int32) (σ : am_St) : f_M_deedComes x1 x2 σ = g_M_deedComes x1 x2 σ := am_lk_eq _
set_option maxRecDepth 100000 in
set_option maxHeartbeats 4000000 in
theorem s_M_deedComes (G : am_G) (x1 : Int32) (x2 : Int32) (σ : am_St) (r : Int32 × am_St) (Q : am_AQ) (e : f_M_deedComes x1 x2 σ = some r) (hr : am_Pi r Q) : am_AW G M_M_deedComes 0 [(0, .ref 66), (1, .int x1), (2, .int x2)] [] σ Q :=
  (show am_Snd G M_M_deedComes 0 am_Pi _ from (sn_aload_n (pc := 0) (i := 0) dX12_deedComes_0 rfl (sn_iload_n (pc := 1) (i := 1) dX12_deedComes_1 rfl (sn_callV (pc := 2) (N := M_M_isRoom) dX12_deedComes_2 (cal_M_isRoom G) sh_66 rfl tw_1150 tw_1152 tp_35 tw_12 tw_1153 dsc_X12_isRoom rfl (sn_if_eq (pc := 5) (tgt := 20) dX12_deedComes_5 rfl (sn_lf (pc := 20) (ln_a (i := 0) (q := 66) (ln_i (i := 1) (fun z0 => (ln_i (i := 2) (fun z1 => (ln_end (o := fun τ => f_M_deedComes_20 z0 z1 τ) (fun _ _ _ e h => s_M_deedComes_20 G z0 z1 _ _ _ e h)))))))) (sn_aload_n (pc := 8) (i := 0) dX12_deedComes_8 rfl (sn_iload_n (pc := 9) (i := 2) dX12_deedComes_9 rfl (sn_callV (pc := 10) (N := M_M_isMinute) dX12_deedComes_10 (cal_M_isMinute G) sh_66 rfl tw_1189 tw_1191 tp_44 tw_12 tw_1192 dsc_X12_isMinute rfl (sn_if_eq (pc := 13) (tgt := 20) dX12_deedComes_13 rfl (sn_lf (pc := 20) (ln_a (i := 0) (q := 66) (ln_i (i := 1) (fun z0 => (ln_i (i := 2) (fun z1 => (ln_end (o := fun τ => f_M_deedComes_20 z0 z1 τ) (fun _ _ _ e h => s_M_deedComes_20 G z0 z1 _ _ _ e h)))))))) (sn_iconst (pc := 16) (v := 1) dX12_deedComes_16 rfl (sn_goto (pc := 17) (tgt := 21) dX12_deedComes_17 rfl (sn_lf (pc := 21) (ln_a (i := 0) (q := 66) (ln_i (i := 1) (fun z0 => (ln_i (i := 2) (fun z1 => (ln_si (fun w0 => (ln_end (o := fun τ => f_M_deedComes_21 z0 z1 w0 τ) (fun _ _ _ e h => s_M_deedComes_21 G z0 z1 w0 _ _ _ e h))))))))))))))))))))) _ _ _ _ _ ((eq_M_deedComes x1 x2 σ).symm.trans e) hr
noncomputable def cF_M_deedComes : am_Fn := fun _ args σ K => match args with
  | [.ref q0, .int z1, .int z2] => match Nat.beq q0 66 with
    | true => (f_M_deedComes z1 z2 σ).bind (fun p => K (some (.int p.1)) p.2)
    | _ => none
  | _ => none
theorem cal_M_deedComes (G : am_G) : am_Cal G M_M_deedComes cF_M_deedComes := by
  intro ρ args σ K r e
  unfold cF_M_deedComes at e
  split at e
  · split at e
    · rename_i hq0
      obtain ⟨p, h1, h2⟩ := am_bind_some e
      rw [Nat.eq_of_beq_eq_true hq0]
      exact ⟨some (.int p.1), p.2, am_Met.of rfl (Nat.le_of_ble_eq_true rfl) (s_M_deedComes G _ _ σ p _ h1 ⟨rfl, rfl⟩), h2⟩
    · cases e
  · cases e
abbrev M_M_childComes : am_MD := (yX12_childComes, cX12_childComes, 5, (some .boolean), 0, 0)
theorem dX12_childComes_0 : decode cX12_childComes 0 = .ok (.iload_n 1, 1) := by decide +kernel
theorem dX12_childComes_1 : decode cX12_childComes 1 = .ok (.iconst 5, 1) := by decide +kernel
theorem dX12_childComes_2 : decode cX12_childComes 2 = .ok (.if_icmp .gt 16, 3) := by decide +kernel
theorem dX12_childComes_5 : decode cX12_childComes 5 = .ok (.iload_n 3, 1) := by decide +kernel
theorem dX12_childComes_6 : decode cX12_childComes 6 = .ok (.iconst 3, 1) := by decide +kernel
theorem dX12_childComes_7 : decode cX12_childComes 7 = .ok (.if_icmp .gt 11, 3) := by decide +kernel
theorem dX12_childComes_10 : decode cX12_childComes 10 = .ok (.aload_n 0, 1) := by decide +kernel
theorem dX12_childComes_11 : decode cX12_childComes 11 = .ok (.getfield 105, 3) := by decide +kernel
theorem dX12_childComes_14 : decode cX12_childComes 14 = .ok (.iconst 4, 1) := by decide +kernel
theorem dX12_childComes_15 : decode cX12_childComes 15 = .ok (.if_icmp .ne 5, 3) := by decide +kernel
theorem dX12_childComes_18 : decode cX12_childComes 18 = .ok (.iconst 0, 1) := by decide +kernel
theorem dX12_childComes_19 : decode cX12_childComes 19 = .ok (.ireturn, 1) := by decide +kernel
theorem dX12_childComes_20 : decode cX12_childComes 20 = .ok (.aload_n 0, 1) := by decide +kernel
theorem dX12_childComes_21 : decode cX12_childComes 21 = .ok (.getfield 20, 3) := by decide +kernel
theorem dX12_childComes_24 : decode cX12_childComes 24 = .ok (.aload_n 0, 1) := by decide +kernel
theorem dX12_childComes_25 : decode cX12_childComes 25 = .ok (.getfield 105, 3) := by decide +kernel
theorem dX12_childComes_28 : decode cX12_childComes 28 = .ok (.iload_n 1, 1) := by decide +kernel
theorem dX12_childComes_29 : decode cX12_childComes 29 = .ok (.iastore, 1) := by decide +kernel
theorem dX12_childComes_30 : decode cX12_childComes 30 = .ok (.aload_n 0, 1) := by decide +kernel
theorem dX12_childComes_31 : decode cX12_childComes 31 = .ok (.getfield 23, 3) := by decide +kernel
theorem dX12_childComes_34 : decode cX12_childComes 34 = .ok (.aload_n 0, 1) := by decide +kernel
theorem dX12_childComes_35 : decode cX12_childComes 35 = .ok (.getfield 105, 3) := by decide +kernel
theorem dX12_childComes_38 : decode cX12_childComes 38 = .ok (.iload_n 2, 1) := by decide +kernel
theorem dX12_childComes_39 : decode cX12_childComes 39 = .ok (.iastore, 1) := by decide +kernel
theorem dX12_childComes_40 : decode cX12_childComes 40 = .ok (.aload_n 0, 1) := by decide +kernel
theorem dX12_childComes_41 : decode cX12_childComes 41 = .ok (.getfield 26, 3) := by decide +kernel
theorem dX12_childComes_44 : decode cX12_childComes 44 = .ok (.aload_n 0, 1) := by decide +kernel
theorem dX12_childComes_45 : decode cX12_childComes 45 = .ok (.getfield 105, 3) := by decide +kernel
theorem dX12_childComes_48 : decode cX12_childComes 48 = .ok (.iload_n 3, 1) := by decide +kernel
theorem dX12_childComes_49 : decode cX12_childComes 49 = .ok (.iastore, 1) := by decide +kernel
theorem dX12_childComes_50 : decode cX12_childComes 50 = .ok (.aload_n 0, 1) := by decide +kernel
theorem dX12_childComes_51 : decode cX12_childComes 51 = .ok (.getfield 29, 3) := by decide +kernel
theorem dX12_childComes_54 : decode cX12_childComes 54 = .ok (.aload_n 0, 1) := by decide +kernel
theorem dX12_childComes_55 : decode cX12_childComes 55 = .ok (.getfield 105, 3) := by decide +kernel
theorem dX12_childComes_58 : decode cX12_childComes 58 = .ok (.iconst 0, 1) := by decide +kernel
theorem dX12_childComes_59 : decode cX12_childComes 59 = .ok (.iastore, 1) := by decide +kernel
theorem dX12_childComes_60 : decode cX12_childComes 60 = .ok (.iconst 0, 1) := by decide +kernel
theorem dX12_childComes_61 : decode cX12_childComes 61 = .ok (.istore 4, 2) := by decide +kernel
theorem dX12_childComes_63 : decode cX12_childComes 63 = .ok (.iload 4, 2) := by decide +kernel
theorem dX12_childComes_65 : decode cX12_childComes 65 = .ok (.bipush 6, 2) := by decide +kernel
theorem dX12_childComes_67 : decode cX12_childComes 67 = .ok (.if_icmp .ge 25, 3) := by decide +kernel
theorem dX12_childComes_70 : decode cX12_childComes 70 = .ok (.aload_n 0, 1) := by decide +kernel
theorem dX12_childComes_71 : decode cX12_childComes 71 = .ok (.getfield 32, 3) := by decide +kernel
theorem dX12_childComes_74 : decode cX12_childComes 74 = .ok (.bipush 6, 2) := by decide +kernel
theorem dX12_childComes_76 : decode cX12_childComes 76 = .ok (.aload_n 0, 1) := by decide +kernel
theorem dX12_childComes_77 : decode cX12_childComes 77 = .ok (.getfield 105, 3) := by decide +kernel
theorem dX12_childComes_80 : decode cX12_childComes 80 = .ok (.imul, 1) := by decide +kernel
theorem dX12_childComes_81 : decode cX12_childComes 81 = .ok (.iload 4, 2) := by decide +kernel
theorem dX12_childComes_83 : decode cX12_childComes 83 = .ok (.iadd, 1) := by decide +kernel
theorem dX12_childComes_84 : decode cX12_childComes 84 = .ok (.iconst 0, 1) := by decide +kernel
theorem dX12_childComes_85 : decode cX12_childComes 85 = .ok (.iastore, 1) := by decide +kernel
theorem dX12_childComes_86 : decode cX12_childComes 86 = .ok (.iinc 4 1, 3) := by decide +kernel
theorem dX12_childComes_89 : decode cX12_childComes 89 = .ok (.goto (-26), 3) := by decide +kernel
theorem dX12_childComes_92 : decode cX12_childComes 92 = .ok (.aload_n 0, 1) := by decide +kernel
theorem dX12_childComes_93 : decode cX12_childComes 93 = .ok (.dup, 1) := by decide +kernel
theorem dX12_childComes_94 : decode cX12_childComes 94 = .ok (.getfield 105, 3) := by decide +kernel
theorem dX12_childComes_97 : decode cX12_childComes 97 = .ok (.iconst 1, 1) := by decide +kernel
theorem dX12_childComes_98 : decode cX12_childComes 98 = .ok (.iadd, 1) := by decide +kernel
theorem dX12_childComes_99 : decode cX12_childComes 99 = .ok (.putfield 105, 3) := by decide +kernel
theorem dX12_childComes_102 : decode cX12_childComes 102 = .ok (.iconst 1, 1) := by decide +kernel
theorem dX12_childComes_103 : decode cX12_childComes 103 = .ok (.ireturn, 1) := by decide +kernel
abbrev Pl_M_childComes_63 (G : am_G) : ((Int32 × am_St) ⊕ (Int32 × am_St)) → am_AQ → Prop := am_PL G M_M_childComes 63 (fun s : Int32 × am_St => [(4, .int s.1), (0, .ref 66)]) (fun s => s.2) am_Pi
noncomputable def b_M_childComes_63 (x4 : Int32) (σ : am_St) : Option ((Int32 × am_St) ⊕ (Int32 × am_St)) :=
  if 6 ≤ x4 then
    let s1 := am_sI σ 66 2 ((σ.1 66 2) + 1)
    some (.inr ((1, s1)))
  else
    if am_ix ((6 * (σ.1 66 2)) + x4) 24 = true then
      let s2 := am_sI σ 72 ((6 * (σ.1 66 2)) + x4).toNatClampNeg 0
      let v3 := x4 + 1
      some (.inl (v3, s2))
    else none
noncomputable def f_M_childComes_63 (x4 : Int32) (σ : am_St) : Option (Int32 × am_St) := am_lp (fun s : Int32 × am_St => b_M_childComes_63 s.1 s.2) (x4, σ)
set_option maxRecDepth 100000 in
set_option maxHeartbeats 4000000 in
theorem sb_M_childComes_63 (G : am_G) (x4 : Int32) (σ : am_St) (r : (Int32 × am_St) ⊕ (Int32 × am_St)) (Q : am_AQ) (e : b_M_childComes_63 x4 σ = some r) (hr : Pl_M_childComes_63 G r Q) : am_AW G M_M_childComes 63 [(4, .int x4), (0, .ref 66)] [] σ Q :=
  (show am_Snd G M_M_childComes 63 (Pl_M_childComes_63 G) _ from (sn_iload (pc := 63) dX12_childComes_63 (sn_bipush (pc := 65) (v := 6) dX12_childComes_65 rfl (sn_icmp_ge (pc := 67) (tgt := 92) dX12_childComes_67 rfl (sn_aload_n (pc := 92) (i := 0) dX12_childComes_92 rfl (sn_dup (pc := 93) dX12_childComes_93 (sn_gI (pc := 94) (h := 66) (f := 2) dX12_childComes_94 am_CL_11 sh_66 rfl (Nat.le_of_ble_eq_true rfl) tw_943 (sn_iconst (pc := 97) (v := 1) dX12_childComes_97 rfl (sn_iadd (pc := 98) dX12_childComes_98 (sn_pI (pc := 99) (h := 66) (f := 2) dX12_childComes_99 am_CL_11 sh_66 rfl (Nat.le_of_ble_eq_true rfl) tw_943 rfl rfl (sn_iconst (pc := 102) (v := 1) dX12_childComes_102 rfl (sn_retz (pc := 103) (R := fun x τ => (some (.inr ((x, τ))) : Option ((Int32 × am_St) ⊕ (Int32 × am_St)))) dX12_childComes_103 rfl (fun _ _ _ _ e h => by cases e; exact h))))))))) (sn_aload_n (pc := 70) (i := 0) dX12_childComes_70 rfl (sn_gR (r0 := 72) (pc := 71) (h := 66) (f := 12) dX12_childComes_71 am_CL_11 sh_66 rfl (Nat.le_of_ble_eq_true rfl) tw_953 (sn_bipush (pc := 74) (v := 6) dX12_childComes_74 rfl (sn_aload_n (pc := 76) (i := 0) dX12_childComes_76 rfl (sn_gI (pc := 77) (h := 66) (f := 2) dX12_childComes_77 am_CL_11 sh_66 rfl (Nat.le_of_ble_eq_true rfl) tw_943 (sn_imul (pc := 80) dX12_childComes_80 (sn_iload (pc := 81) dX12_childComes_81 (sn_iadd (pc := 83) dX12_childComes_83 (sn_iconst (pc := 84) (v := 0) dX12_childComes_84 rfl (sn_sI (pc := 85) (h := 72) dX12_childComes_85 sh_72 (sn_iinc (pc := 86) (v := 1) dX12_childComes_86 rfl (Nat.le_of_ble_eq_true rfl) (sn_goto (pc := 89) (tgt := 63) dX12_childComes_89 rfl (sn_lf (pc := 63) (ln_a (i := 0) (q := 66) (ln_i (i := 4) (fun z0 => (ln_end (o := fun τ => (some (.inl (z0, τ)) : Option ((Int32 × am_St) ⊕ (Int32 × am_St)))) (fun _ _ _ e h => by cases e; exact h)))))))))))))))))))))) _ _ _ _ _ e hr
theorem s_M_childComes_63 (G : am_G) (x4 : Int32) (σ : am_St) (r : Int32 × am_St) (Q : am_AQ) (e : f_M_childComes_63 x4 σ = some r) (hr : am_Pi r Q) : am_AW G M_M_childComes 63 [(4, .int x4), (0, .ref 66)] [] σ Q :=
  am_loop (P := am_Pi) (L := fun s : Int32 × am_St => [(4, .int s.1), (0, .ref 66)]) (g := fun s => s.2) (fun s o Q e hr => sb_M_childComes_63 G s.1 s.2 o Q e hr) (x4, σ) r Q e hr
noncomputable def g_M_childComes_50 (σ : am_St) : Option (Int32 × am_St) :=
  if am_ix (σ.1 66 2) 4 = true then
    let s1 := am_sI σ 71 (σ.1 66 2).toNatClampNeg 0
    f_M_childComes_63 0 s1
  else none
noncomputable def f_M_childComes_50 (σ : am_St) : Option (Int32 × am_St) := am_lk (g_M_childComes_50  σ)
theorem eq_M_childComes_50 (σ : am_St) : f_M_childComes_50  σ = g_M_childComes_50  σ := am_lk_eq _
set_option maxRecDepth 100000 in
set_option maxHeartbeats 4000000 in
theorem s_M_childComes_50 (G : am_G) (σ : am_St) (r : Int32 × am_St) (Q : am_AQ) (e : f_M_childComes_50  σ = some r) (hr : am_Pi r Q) : am_AW G M_M_childComes 50 [(0, .ref 66)] [] σ Q :=
  (show am_Snd G M_M_childComes 50 am_Pi _ from (sn_aload_n (pc := 50) (i := 0) dX12_childComes_50 rfl (sn_gR (r0 := 71) (pc := 51) (h := 66) (f := 11) dX12_childComes_51 am_CL_11 sh_66 rfl (Nat.le_of_ble_eq_true rfl) tw_952 (sn_aload_n (pc := 54) (i := 0) dX12_childComes_54 rfl (sn_gI (pc := 55) (h := 66) (f := 2) dX12_childComes_55 am_CL_11 sh_66 rfl (Nat.le_of_ble_eq_true rfl) tw_943 (sn_iconst (pc := 58) (v := 0) dX12_childComes_58 rfl (sn_sI (pc := 59) (h := 71) dX12_childComes_59 sh_71 (sn_iconst (pc := 60) (v := 0) dX12_childComes_60 rfl (sn_istore (pc := 61) dX12_childComes_61 (Nat.le_of_ble_eq_true rfl) (sn_lf (pc := 63) (ln_a (i := 0) (q := 66) (ln_i (i := 4) (fun z0 => (ln_end (o := fun τ => f_M_childComes_63 z0 τ) (fun _ _ _ e h => s_M_childComes_63 G z0 _ _ _ e h))))))))))))))) _ _ _ _ _ ((eq_M_childComes_50  σ).symm.trans e) hr
noncomputable def g_M_childComes (x1 : Int32) (x2 : Int32) (x3 : Int32) (σ : am_St) : Option (Int32 × am_St) :=
  if 5 < x1 then
    some ((0, σ))
  else
    if 3 < x3 then
      some ((0, σ))
    else
      if (σ.1 66 2) = 4 then
        some ((0, σ))
      else
        if am_ix (σ.1 66 2) 4 = true then
          let s1 := am_sI σ 68 (σ.1 66 2).toNatClampNeg x1
          if am_ix (s1.1 66 2) 4 = true then
            let s2 := am_sI s1 69 (s1.1 66 2).toNatClampNeg x2
            if am_ix (s2.1 66 2) 4 = true then
              let s3 := am_sI s2 70 (s2.1 66 2).toNatClampNeg x3
              f_M_childComes_50 s3
            else none
          else none
        else none
noncomputable def f_M_childComes (x1 : Int32) (x2 : Int32) (x3 : Int32) (σ : am_St) : Option (Int32 × am_St) := am_lk (g_M_childComes x1 x2 x3 σ)
theorem eq_M_childComes (x1 : Int32) (x2 : Int32) (x3 : Int32) (σ : am_St) : f_M_childComes x1 x2 x3 σ = g_M_childComes x1 x2 x3 σ := am_lk_eq _
set_option maxRecDepth 100000 in
set_option maxHeartbeats 4000000 in
theorem s_M_childComes (G : am_G) (x1 : Int32) (x2 : Int32) (x3 : Int32) (σ : am_St) (r : Int32 × am_St) (Q : am_AQ) (e : f_M_childComes x1 x2 x3 σ = some r) (hr : am_Pi r Q) : am_AW G M_M_childComes 0 [(0, .ref 66), (1, .int x1), (2, .int x2), (3, .int x3)] [] σ Q :=
  (show am_Snd G M_M_childComes 0 am_Pi _ from (sn_iload_n (pc := 0) (i := 1) dX12_childComes_0 rfl (sn_iconst (pc := 1) (v := 5) dX12_childComes_1 rfl (sn_icmp_gt (pc := 2) (tgt := 18) dX12_childComes_2 rfl (sn_iconst (pc := 18) (v := 0) dX12_childComes_18 rfl (sn_retz (pc := 19) (R := fun x τ => (some ((x, τ)))) dX12_childComes_19 rfl (fun _ _ _ _ e h => by cases e; exact h))) (sn_iload_n (pc := 5) (i := 3) dX12_childComes_5 rfl (sn_iconst (pc := 6) (v := 3) dX12_childComes_6 rfl (sn_icmp_gt (pc := 7) (tgt := 18) dX12_childComes_7 rfl (sn_iconst (pc := 18) (v := 0) dX12_childComes_18 rfl (sn_retz (pc := 19) (R := fun x τ => (some ((x, τ)))) dX12_childComes_19 rfl (fun _ _ _ _ e h => by cases e; exact h))) (sn_aload_n (pc := 10) (i := 0) dX12_childComes_10 rfl (sn_gI (pc := 11) (h := 66) (f := 2) dX12_childComes_11 am_CL_11 sh_66 rfl (Nat.le_of_ble_eq_true rfl) tw_943 (sn_iconst (pc := 14) (v := 4) dX12_childComes_14 rfl (sn_icmp_ne (pc := 15) (tgt := 20) dX12_childComes_15 rfl (sn_aload_n (pc := 20) (i := 0) dX12_childComes_20 rfl (sn_gR (r0 := 68) (pc := 21) (h := 66) (f := 8) dX12_childComes_21 am_CL_11 sh_66 rfl (Nat.le_of_ble_eq_true rfl) tw_949 (sn_aload_n (pc := 24) (i := 0) dX12_childComes_24 rfl (sn_gI (pc := 25) (h := 66) (f := 2) dX12_childComes_25 am_CL_11 sh_66 rfl (Nat.le_of_ble_eq_true rfl) tw_943 (sn_iload_n (pc := 28) (i := 1) dX12_childComes_28 rfl (sn_sI (pc := 29) (h := 68) dX12_childComes_29 sh_68 (sn_aload_n (pc := 30) (i := 0) dX12_childComes_30 rfl (sn_gR (r0 := 69) (pc := 31) (h := 66) (f := 9) dX12_childComes_31 am_CL_11 sh_66 rfl (Nat.le_of_ble_eq_true rfl) tw_950 (sn_aload_n (pc := 34) (i := 0) dX12_childComes_34 rfl (sn_gI (pc := 35) (h := 66) (f := 2) dX12_childComes_35 am_CL_11 sh_66 rfl (Nat.le_of_ble_eq_true rfl) tw_943 (sn_iload_n (pc := 38) (i := 2) dX12_childComes_38 rfl (sn_sI (pc := 39) (h := 69) dX12_childComes_39 sh_69 (sn_aload_n (pc := 40) (i := 0) dX12_childComes_40 rfl (sn_gR (r0 := 70) (pc := 41) (h := 66) (f := 10) dX12_childComes_41 am_CL_11 sh_66 rfl (Nat.le_of_ble_eq_true rfl) tw_951 (sn_aload_n (pc := 44) (i := 0) dX12_childComes_44 rfl (sn_gI (pc := 45) (h := 66) (f := 2) dX12_childComes_45 am_CL_11 sh_66 rfl (Nat.le_of_ble_eq_true rfl) tw_943 (sn_iload_n (pc := 48) (i := 3) dX12_childComes_48 rfl (sn_sI (pc := 49) (h := 70) dX12_childComes_49 sh_70 (sn_lf (pc := 50) (ln_a (i := 0) (q := 66) (ln_end (o := fun τ => f_M_childComes_50 τ) (fun _ _ _ e h => s_M_childComes_50 G  _ _ _ e h)))))))))))))))))))))) (sn_iconst (pc := 18) (v := 0) dX12_childComes_18 rfl (sn_retz (pc := 19) (R := fun x τ => (some ((x, τ)))) dX12_childComes_19 rfl (fun _ _ _ _ e h => by cases e; exact h)))))))))))))) _ _ _ _ _ ((eq_M_childComes x1 x2 x3 σ).symm.trans e) hr
noncomputable def cF_M_childComes : am_Fn := fun _ args σ K => match args with
  | [.ref q0, .int z1, .int z2, .int z3] => match Nat.beq q0 66 with
    | true => (f_M_childComes z1 z2 z3 σ).bind (fun p => K (some (.int p.1)) p.2)
    | _ => none
  | _ => none
theorem cal_M_childComes (G : am_G) : am_Cal G M_M_childComes cF_M_childComes := by
  intro ρ args σ K r e
  unfold cF_M_childComes at e
  split at e
  · split at e
    · rename_i hq0
      obtain ⟨p, h1, h2⟩ := am_bind_some e
      rw [Nat.eq_of_beq_eq_true hq0]
      exact ⟨some (.int p.1), p.2, am_Met.of rfl (Nat.le_of_ble_eq_true rfl) (s_M_childComes G _ _ _ σ p _ h1 ⟨rfl, rfl⟩), h2⟩
    · cases e
  · cases e
abbrev M_M_layMay : am_MD := (yX12_layMay, cX12_layMay, 4, none, 0, 0)
theorem dX12_layMay_0 : decode cX12_layMay 0 = .ok (.iconst 0, 1) := by decide +kernel
theorem dX12_layMay_1 : decode cX12_layMay 1 = .ok (.istore_n 2, 1) := by decide +kernel
theorem dX12_layMay_2 : decode cX12_layMay 2 = .ok (.iload_n 2, 1) := by decide +kernel
theorem dX12_layMay_3 : decode cX12_layMay 3 = .ok (.bipush 6, 2) := by decide +kernel
theorem dX12_layMay_5 : decode cX12_layMay 5 = .ok (.if_icmp .ge 23, 3) := by decide +kernel
theorem dX12_layMay_8 : decode cX12_layMay 8 = .ok (.aload_n 0, 1) := by decide +kernel
theorem dX12_layMay_9 : decode cX12_layMay 9 = .ok (.getfield 65, 3) := by decide +kernel
theorem dX12_layMay_12 : decode cX12_layMay 12 = .ok (.iload_n 2, 1) := by decide +kernel
theorem dX12_layMay_13 : decode cX12_layMay 13 = .ok (.iconst 1, 1) := by decide +kernel
theorem dX12_layMay_14 : decode cX12_layMay 14 = .ok (.aload_n 0, 1) := by decide +kernel
theorem dX12_layMay_15 : decode cX12_layMay 15 = .ok (.getfield 7, 3) := by decide +kernel
theorem dX12_layMay_18 : decode cX12_layMay 18 = .ok (.ishl, 1) := by decide +kernel
theorem dX12_layMay_19 : decode cX12_layMay 19 = .ok (.iconst 1, 1) := by decide +kernel
theorem dX12_layMay_20 : decode cX12_layMay 20 = .ok (.isub, 1) := by decide +kernel
theorem dX12_layMay_21 : decode cX12_layMay 21 = .ok (.iastore, 1) := by decide +kernel
theorem dX12_layMay_22 : decode cX12_layMay 22 = .ok (.iinc 2 1, 3) := by decide +kernel
theorem dX12_layMay_25 : decode cX12_layMay 25 = .ok (.goto (-23), 3) := by decide +kernel
theorem dX12_layMay_28 : decode cX12_layMay 28 = .ok (.iconst 0, 1) := by decide +kernel
theorem dX12_layMay_29 : decode cX12_layMay 29 = .ok (.istore_n 2, 1) := by decide +kernel
theorem dX12_layMay_30 : decode cX12_layMay 30 = .ok (.iload_n 2, 1) := by decide +kernel
theorem dX12_layMay_31 : decode cX12_layMay 31 = .ok (.aload_n 0, 1) := by decide +kernel
theorem dX12_layMay_32 : decode cX12_layMay 32 = .ok (.getfield 112, 3) := by decide +kernel
theorem dX12_layMay_35 : decode cX12_layMay 35 = .ok (.if_icmp .ge 59, 3) := by decide +kernel
theorem dX12_layMay_38 : decode cX12_layMay 38 = .ok (.iconst 1, 1) := by decide +kernel
theorem dX12_layMay_39 : decode cX12_layMay 39 = .ok (.aload_n 0, 1) := by decide +kernel
theorem dX12_layMay_40 : decode cX12_layMay 40 = .ok (.getfield 41, 3) := by decide +kernel
theorem dX12_layMay_43 : decode cX12_layMay 43 = .ok (.iload_n 2, 1) := by decide +kernel
theorem dX12_layMay_44 : decode cX12_layMay 44 = .ok (.iaload, 1) := by decide +kernel
theorem dX12_layMay_45 : decode cX12_layMay 45 = .ok (.ishl, 1) := by decide +kernel
theorem dX12_layMay_46 : decode cX12_layMay 46 = .ok (.istore_n 3, 1) := by decide +kernel
theorem dX12_layMay_47 : decode cX12_layMay 47 = .ok (.aload_n 0, 1) := by decide +kernel
theorem dX12_layMay_48 : decode cX12_layMay 48 = .ok (.getfield 35, 3) := by decide +kernel
theorem dX12_layMay_51 : decode cX12_layMay 51 = .ok (.iload_n 2, 1) := by decide +kernel
theorem dX12_layMay_52 : decode cX12_layMay 52 = .ok (.iaload, 1) := by decide +kernel
theorem dX12_layMay_53 : decode cX12_layMay 53 = .ok (.iload_n 1, 1) := by decide +kernel
theorem dX12_layMay_54 : decode cX12_layMay 54 = .ok (.if_icmp .ne 34, 3) := by decide +kernel
theorem dX12_layMay_57 : decode cX12_layMay 57 = .ok (.aload_n 0, 1) := by decide +kernel
theorem dX12_layMay_58 : decode cX12_layMay 58 = .ok (.getfield 65, 3) := by decide +kernel
theorem dX12_layMay_61 : decode cX12_layMay 61 = .ok (.aload_n 0, 1) := by decide +kernel
theorem dX12_layMay_62 : decode cX12_layMay 62 = .ok (.getfield 38, 3) := by decide +kernel
theorem dX12_layMay_65 : decode cX12_layMay 65 = .ok (.iload_n 2, 1) := by decide +kernel
theorem dX12_layMay_66 : decode cX12_layMay 66 = .ok (.iaload, 1) := by decide +kernel
theorem dX12_layMay_67 : decode cX12_layMay 67 = .ok (.dup2, 1) := by decide +kernel
theorem dX12_layMay_68 : decode cX12_layMay 68 = .ok (.iaload, 1) := by decide +kernel
theorem dX12_layMay_69 : decode cX12_layMay 69 = .ok (.aload_n 0, 1) := by decide +kernel
theorem dX12_layMay_70 : decode cX12_layMay 70 = .ok (.getfield 44, 3) := by decide +kernel
theorem dX12_layMay_73 : decode cX12_layMay 73 = .ok (.iload_n 2, 1) := by decide +kernel
theorem dX12_layMay_74 : decode cX12_layMay 74 = .ok (.iaload, 1) := by decide +kernel
theorem dX12_layMay_75 : decode cX12_layMay 75 = .ok (.iconst 1, 1) := by decide +kernel
theorem dX12_layMay_76 : decode cX12_layMay 76 = .ok (.if_icmp .ne 7, 3) := by decide +kernel
theorem dX12_layMay_79 : decode cX12_layMay 79 = .ok (.iload_n 3, 1) := by decide +kernel
theorem dX12_layMay_80 : decode cX12_layMay 80 = .ok (.goto 6, 3) := by decide +kernel
theorem dX12_layMay_83 : decode cX12_layMay 83 = .ok (.iload_n 3, 1) := by decide +kernel
theorem dX12_layMay_84 : decode cX12_layMay 84 = .ok (.iconst (-1), 1) := by decide +kernel
theorem dX12_layMay_85 : decode cX12_layMay 85 = .ok (.ixor, 1) := by decide +kernel
theorem dX12_layMay_86 : decode cX12_layMay 86 = .ok (.iand, 1) := by decide +kernel
theorem dX12_layMay_87 : decode cX12_layMay 87 = .ok (.iastore, 1) := by decide +kernel
theorem dX12_layMay_88 : decode cX12_layMay 88 = .ok (.iinc 2 1, 3) := by decide +kernel
theorem dX12_layMay_91 : decode cX12_layMay 91 = .ok (.goto (-61), 3) := by decide +kernel
theorem dX12_layMay_94 : decode cX12_layMay 94 = .ok (.return_, 1) := by decide +kernel
abbrev Pl_M_layMay_2 (G : am_G) : ((Int32 × Int32 × am_St) ⊕ (am_St)) → am_AQ → Prop := am_PL G M_M_layMay 2 (fun s : Int32 × Int32 × am_St => [(2, .int s.2.1), (1, .int s.1), (0, .ref 66)]) (fun s => s.2.2) am_Pv
abbrev Pl_M_layMay_30 (G : am_G) : ((Int32 × Int32 × am_St) ⊕ (am_St)) → am_AQ → Prop := am_PL G M_M_layMay 30 (fun s : Int32 × Int32 × am_St => [(2, .int s.2.1), (1, .int s.1), (0, .ref 66)]) (fun s => s.2.2) am_Pv
noncomputable def g_M_layMay_88 (x1 : Int32) (x2 : Int32) (σ : am_St) : Option ((Int32 × Int32 × am_St) ⊕ (am_St)) :=
  let v1 := x2 + 1
  some (.inl (x1, v1, σ))
noncomputable def f_M_layMay_88 (x1 : Int32) (x2 : Int32) (σ : am_St) : Option ((Int32 × Int32 × am_St) ⊕ (am_St)) := am_lk (g_M_layMay_88 x1 x2 σ)
theorem eq_M_layMay_88 (x1 : Int32) (x2 : Int32) (σ : am_St) : f_M_layMay_88 x1 x2 σ = g_M_layMay_88 x1 x2 σ := am_lk_eq _
set_option maxRecDepth 100000 in
set_option maxHeartbeats 4000000 in
theorem s_M_layMay_88 (G : am_G) (x1 : Int32) (x2 : Int32) (σ : am_St) (r : (Int32 × Int32 × am_St) ⊕ (am_St)) (Q : am_AQ) (e : f_M_layMay_88 x1 x2 σ = some r) (hr : (Pl_M_layMay_30 G) r Q) : am_AW G M_M_layMay 88 [(2, .int x2), (1, .int x1), (0, .ref 66)] [] σ Q :=
  (show am_Snd G M_M_layMay 88 (Pl_M_layMay_30 G) _ from (sn_iinc (pc := 88) (v := 1) dX12_layMay_88 rfl (Nat.le_of_ble_eq_true rfl) (sn_goto (pc := 91) (tgt := 30) dX12_layMay_91 rfl (sn_lf (pc := 30) (ln_a (i := 0) (q := 66) (ln_i (i := 1) (fun z0 => (ln_i (i := 2) (fun z1 => (ln_end (o := fun τ => (some (.inl (z0, z1, τ)) : Option ((Int32 × Int32 × am_St) ⊕ (am_St)))) (fun _ _ _ e h => by cases e; exact h))))))))))) _ _ _ _ _ ((eq_M_layMay_88 x1 x2 σ).symm.trans e) hr
noncomputable def g_M_layMay_86 (x1 : Int32) (x2 : Int32) (y1 : Int32) (y2 : Int32) (y3 : Int32) (σ : am_St) : Option ((Int32 × Int32 × am_St) ⊕ (am_St)) :=
  if am_ix y1 6 = true then
    let s1 := am_sI σ 83 y1.toNatClampNeg (y2 &&& y3)
    f_M_layMay_88 x1 x2 s1
  else none
noncomputable def f_M_layMay_86 (x1 : Int32) (x2 : Int32) (y1 : Int32) (y2 : Int32) (y3 : Int32) (σ : am_St) : Option ((Int32 × Int32 × am_St) ⊕ (am_St)) := am_lk (g_M_layMay_86 x1 x2 y1 y2 y3 σ)
theorem eq_M_layMay_86 (x1 : Int32) (x2 : Int32) (y1 : Int32) (y2 : Int32) (y3 : Int32) (σ : am_St) : f_M_layMay_86 x1 x2 y1 y2 y3 σ = g_M_layMay_86 x1 x2 y1 y2 y3 σ := am_lk_eq _
set_option maxRecDepth 100000 in
set_option maxHeartbeats 4000000 in
theorem s_M_layMay_86 (G : am_G) (x1 : Int32) (x2 : Int32) (y1 : Int32) (y2 : Int32) (y3 : Int32) (σ : am_St) (r : (Int32 × Int32 × am_St) ⊕ (am_St)) (Q : am_AQ) (e : f_M_layMay_86 x1 x2 y1 y2 y3 σ = some r) (hr : (Pl_M_layMay_30 G) r Q) : am_AW G M_M_layMay 86 [(2, .int x2), (1, .int x1), (0, .ref 66)] [.int y3, .int y2, .int y1, .ref 83] σ Q :=
  (show am_Snd G M_M_layMay 86 (Pl_M_layMay_30 G) _ from (sn_iand (pc := 86) dX12_layMay_86 (sn_sI (pc := 87) (h := 83) dX12_layMay_87 sh_83 (sn_lf (pc := 88) (ln_a (i := 0) (q := 66) (ln_i (i := 1) (fun z0 => (ln_i (i := 2) (fun z1 => (ln_end (o := fun τ => f_M_layMay_88 z0 z1 τ) (fun _ _ _ e h => s_M_layMay_88 G z0 z1 _ _ _ e h))))))))))) _ _ _ _ _ ((eq_M_layMay_86 x1 x2 y1 y2 y3 σ).symm.trans e) hr
noncomputable def b_M_layMay_30 (x1 : Int32) (x2 : Int32) (σ : am_St) : Option ((Int32 × Int32 × am_St) ⊕ (am_St)) :=
  if (σ.1 66 3) ≤ x2 then
    some (.inr (σ))
  else
    if am_ix x2 17 = true then
      let v1 := 1 <<< ((σ.1 75 x2.toNatClampNeg) &&& 31)
      if am_ix x2 17 = true then
        if (σ.1 73 x2.toNatClampNeg) = x1 then
          if am_ix x2 17 = true then
            let v2 := σ.1 74 x2.toNatClampNeg
            if am_ix v2 6 = true then
              if am_ix x2 17 = true then
                if (σ.1 76 x2.toNatClampNeg) = 1 then
                  f_M_layMay_86 x1 x2 v2 (σ.1 83 v2.toNatClampNeg) v1 σ
                else
                  f_M_layMay_86 x1 x2 v2 (σ.1 83 v2.toNatClampNeg) (v1 ^^^ (-1)) σ
              else none
            else none
          else none
        else
          f_M_layMay_88 x1 x2 σ
      else none
    else none
noncomputable def f_M_layMay_30 (x1 : Int32) (x2 : Int32) (σ : am_St) : Option (am_St) := am_lp (fun s : Int32 × Int32 × am_St => b_M_layMay_30 s.1 s.2.1 s.2.2) (x1, x2, σ)
set_option maxRecDepth 100000 in
set_option maxHeartbeats 4000000 in
theorem sb_M_layMay_30 (G : am_G) (x1 : Int32) (x2 : Int32) (σ : am_St) (r : (Int32 × Int32 × am_St) ⊕ (am_St)) (Q : am_AQ) (e : b_M_layMay_30 x1 x2 σ = some r) (hr : Pl_M_layMay_30 G r Q) : am_AW G M_M_layMay 30 [(2, .int x2), (1, .int x1), (0, .ref 66)] [] σ Q :=
  (show am_Snd G M_M_layMay 30 (Pl_M_layMay_30 G) _ from (sn_iload_n (pc := 30) (i := 2) dX12_layMay_30 rfl (sn_aload_n (pc := 31) (i := 0) dX12_layMay_31 rfl (sn_gI (pc := 32) (h := 66) (f := 3) dX12_layMay_32 am_CL_11 sh_66 rfl (Nat.le_of_ble_eq_true rfl) tw_944 (sn_icmp_ge (pc := 35) (tgt := 94) dX12_layMay_35 rfl (sn_retv (pc := 94) (R := fun τ => (some (.inr (τ)) : Option ((Int32 × Int32 × am_St) ⊕ (am_St)))) dX12_layMay_94 rfl (fun _ _ _ e h => by cases e; exact h)) (sn_iconst (pc := 38) (v := 1) dX12_layMay_38 rfl (sn_aload_n (pc := 39) (i := 0) dX12_layMay_39 rfl (sn_gR (r0 := 75) (pc := 40) (h := 66) (f := 15) dX12_layMay_40 am_CL_11 sh_66 rfl (Nat.le_of_ble_eq_true rfl) tw_956 (sn_iload_n (pc := 43) (i := 2) dX12_layMay_43 rfl (sn_aI (pc := 44) (h := 75) dX12_layMay_44 sh_75 (sn_ishl (pc := 45) dX12_layMay_45 (sn_istore_n (pc := 46) (i := 3) dX12_layMay_46 rfl (Nat.le_of_ble_eq_true rfl) (sn_aload_n (pc := 47) (i := 0) dX12_layMay_47 rfl (sn_gR (r0 := 73) (pc := 48) (h := 66) (f := 13) dX12_layMay_48 am_CL_11 sh_66 rfl (Nat.le_of_ble_eq_true rfl) tw_954 (sn_iload_n (pc := 51) (i := 2) dX12_layMay_51 rfl (sn_aI (pc := 52) (h := 73) dX12_layMay_52 sh_73 (sn_iload_n (pc := 53) (i := 1) dX12_layMay_53 rfl (sn_icmp_ne (pc := 54) (tgt := 88) dX12_layMay_54 rfl (sn_lf (pc := 88) (ln_a (i := 0) (q := 66) (ln_i (i := 1) (fun z0 => (ln_i (i := 2) (fun z1 => (ln_end (o := fun τ => f_M_layMay_88 z0 z1 τ) (fun _ _ _ e h => s_M_layMay_88 G z0 z1 _ _ _ e h)))))))) (sn_aload_n (pc := 57) (i := 0) dX12_layMay_57 rfl (sn_gR (r0 := 83) (pc := 58) (h := 66) (f := 24) dX12_layMay_58 am_CL_11 sh_66 rfl (Nat.le_of_ble_eq_true rfl) tw_965 (sn_aload_n (pc := 61) (i := 0) dX12_layMay_61 rfl (sn_gR (r0 := 74) (pc := 62) (h := 66) (f := 14) dX12_layMay_62 am_CL_11 sh_66 rfl (Nat.le_of_ble_eq_true rfl) tw_955 (sn_iload_n (pc := 65) (i := 2) dX12_layMay_65 rfl (sn_aI (pc := 66) (h := 74) dX12_layMay_66 sh_74 (sn_dup2 (pc := 67) dX12_layMay_67 (sn_aI (pc := 68) (h := 83) dX12_layMay_68 sh_83 (sn_aload_n (pc := 69) (i := 0) dX12_layMay_69 rfl (sn_gR (r0 := 76) (pc := 70) (h := 66) (f := 16) dX12_layMay_70 am_CL_11 sh_66 rfl (Nat.le_of_ble_eq_true rfl) tw_957 (sn_iload_n (pc := 73) (i := 2) dX12_layMay_73 rfl (sn_aI (pc := 74) (h := 76) dX12_layMay_74 sh_76 (sn_iconst (pc := 75) (v := 1) dX12_layMay_75 rfl (sn_icmp_ne (pc := 76) (tgt := 83) dX12_layMay_76 rfl (sn_iload_n (pc := 83) (i := 3) dX12_layMay_83 rfl (sn_iconst (pc := 84) (v := (-1)) dX12_layMay_84 (show Int32.ofInt (-1) = (-1) by decide) (sn_ixor (pc := 85) dX12_layMay_85 (sn_lf (pc := 86) (ln_a (i := 0) (q := 66) (ln_i (i := 1) (fun z0 => (ln_i (i := 2) (fun z1 => (ln_si (fun w3 => (ln_si (fun w2 => (ln_si (fun w1 => (ln_sa (q := 83) (ln_end (o := fun τ => f_M_layMay_86 z0 z1 w1 w2 w3 τ) (fun _ _ _ e h => s_M_layMay_86 G z0 z1 w1 w2 w3 _ _ _ e h)))))))))))))))))) (sn_iload_n (pc := 79) (i := 3) dX12_layMay_79 rfl (sn_goto (pc := 80) (tgt := 86) dX12_layMay_80 rfl (sn_lf (pc := 86) (ln_a (i := 0) (q := 66) (ln_i (i := 1) (fun z0 => (ln_i (i := 2) (fun z1 => (ln_si (fun w3 => (ln_si (fun w2 => (ln_si (fun w1 => (ln_sa (q := 83) (ln_end (o := fun τ => f_M_layMay_86 z0 z1 w1 w2 w3 τ) (fun _ _ _ e h => s_M_layMay_86 G z0 z1 w1 w2 w3 _ _ _ e h))))))))))))))))))))))))))))))))))))))))))))))))) _ _ _ _ _ e hr
theorem s_M_layMay_30 (G : am_G) (x1 : Int32) (x2 : Int32) (σ : am_St) (r : am_St) (Q : am_AQ) (e : f_M_layMay_30 x1 x2 σ = some r) (hr : am_Pv r Q) : am_AW G M_M_layMay 30 [(2, .int x2), (1, .int x1), (0, .ref 66)] [] σ Q :=
  am_loop (P := am_Pv) (L := fun s : Int32 × Int32 × am_St => [(2, .int s.2.1), (1, .int s.1), (0, .ref 66)]) (g := fun s => s.2.2) (fun s o Q e hr => sb_M_layMay_30 G s.1 s.2.1 s.2.2 o Q e hr) (x1, x2, σ) r Q e hr
noncomputable def b_M_layMay_2 (x1 : Int32) (x2 : Int32) (σ : am_St) : Option ((Int32 × Int32 × am_St) ⊕ (am_St)) :=
  if 6 ≤ x2 then
    (f_M_layMay_30 x1 0 σ).map (fun r => .inr r)
  else
    if am_ix x2 6 = true then
      let s1 := am_sI σ 83 x2.toNatClampNeg ((1 <<< ((σ.1 66 0) &&& 31)) - 1)
      let v2 := x2 + 1
      some (.inl (x1, v2, s1))
    else none
noncomputable def f_M_layMay_2 (x1 : Int32) (x2 : Int32) (σ : am_St) : Option (am_St) := am_lp (fun s : Int32 × Int32 × am_St => b_M_layMay_2 s.1 s.2.1 s.2.2) (x1, x2, σ)
set_option maxRecDepth 100000 in
set_option maxHeartbeats 4000000 in
theorem sb_M_layMay_2 (G : am_G) (x1 : Int32) (x2 : Int32) (σ : am_St) (r : (Int32 × Int32 × am_St) ⊕ (am_St)) (Q : am_AQ) (e : b_M_layMay_2 x1 x2 σ = some r) (hr : Pl_M_layMay_2 G r Q) : am_AW G M_M_layMay 2 [(2, .int x2), (1, .int x1), (0, .ref 66)] [] σ Q :=
  (show am_Snd G M_M_layMay 2 (Pl_M_layMay_2 G) _ from (sn_iload_n (pc := 2) (i := 2) dX12_layMay_2 rfl (sn_bipush (pc := 3) (v := 6) dX12_layMay_3 rfl (sn_icmp_ge (pc := 5) (tgt := 28) dX12_layMay_5 rfl (sn_iconst (pc := 28) (v := 0) dX12_layMay_28 rfl (sn_istore_n (pc := 29) (i := 2) dX12_layMay_29 rfl (Nat.le_of_ble_eq_true rfl) (sn_lf (pc := 30) (ln_a (i := 0) (q := 66) (ln_i (i := 1) (fun z0 => (ln_i (i := 2) (fun z1 => (ln_end (o := fun τ => ((f_M_layMay_30 z0 z1 τ).map (fun r => .inr r) : Option ((Int32 × Int32 × am_St) ⊕ (am_St)))) (fun _ _ _ e h => by obtain ⟨r9, e9, rfl⟩ := am_map_some e; exact s_M_layMay_30 G z0 z1 _ _ _ e9 h)))))))))) (sn_aload_n (pc := 8) (i := 0) dX12_layMay_8 rfl (sn_gR (r0 := 83) (pc := 9) (h := 66) (f := 24) dX12_layMay_9 am_CL_11 sh_66 rfl (Nat.le_of_ble_eq_true rfl) tw_965 (sn_iload_n (pc := 12) (i := 2) dX12_layMay_12 rfl (sn_iconst (pc := 13) (v := 1) dX12_layMay_13 rfl (sn_aload_n (pc := 14) (i := 0) dX12_layMay_14 rfl (sn_gI (pc := 15) (h := 66) (f := 0) dX12_layMay_15 am_CL_11 sh_66 rfl (Nat.le_of_ble_eq_true rfl) tw_941 (sn_ishl (pc := 18) dX12_layMay_18 (sn_iconst (pc := 19) (v := 1) dX12_layMay_19 rfl (sn_isub (pc := 20) dX12_layMay_20 (sn_sI (pc := 21) (h := 83) dX12_layMay_21 sh_83 (sn_iinc (pc := 22) (v := 1) dX12_layMay_22 rfl (Nat.le_of_ble_eq_true rfl) (sn_goto (pc := 25) (tgt := 2) dX12_layMay_25 rfl (sn_lf (pc := 2) (ln_a (i := 0) (q := 66) (ln_i (i := 1) (fun z0 => (ln_i (i := 2) (fun z1 => (ln_end (o := fun τ => (some (.inl (z0, z1, τ)) : Option ((Int32 × Int32 × am_St) ⊕ (am_St)))) (fun _ _ _ e h => by cases e; exact h)))))))))))))))))))))))) _ _ _ _ _ e hr
theorem s_M_layMay_2 (G : am_G) (x1 : Int32) (x2 : Int32) (σ : am_St) (r : am_St) (Q : am_AQ) (e : f_M_layMay_2 x1 x2 σ = some r) (hr : am_Pv r Q) : am_AW G M_M_layMay 2 [(2, .int x2), (1, .int x1), (0, .ref 66)] [] σ Q :=
  am_loop (P := am_Pv) (L := fun s : Int32 × Int32 × am_St => [(2, .int s.2.1), (1, .int s.1), (0, .ref 66)]) (g := fun s => s.2.2) (fun s o Q e hr => sb_M_layMay_2 G s.1 s.2.1 s.2.2 o Q e hr) (x1, x2, σ) r Q e hr
noncomputable def g_M_layMay (x1 : Int32) (σ : am_St) : Option (am_St) :=
  f_M_layMay_2 x1 0 σ
noncomputable def f_M_layMay (x1 : Int32) (σ : am_St) : Option (am_St) := am_lk (g_M_layMay x1 σ)
theorem eq_M_layMay (x1 : Int32) (σ : am_St) : f_M_layMay x1 σ = g_M_layMay x1 σ := am_lk_eq _
set_option maxRecDepth 100000 in
set_option maxHeartbeats 4000000 in
theorem s_M_layMay (G : am_G) (x1 : Int32) (σ : am_St) (r : am_St) (Q : am_AQ) (e : f_M_layMay x1 σ = some r) (hr : am_Pv r Q) : am_AW G M_M_layMay 0 [(0, .ref 66), (1, .int x1)] [] σ Q :=
  (show am_Snd G M_M_layMay 0 am_Pv _ from (sn_iconst (pc := 0) (v := 0) dX12_layMay_0 rfl (sn_istore_n (pc := 1) (i := 2) dX12_layMay_1 rfl (Nat.le_of_ble_eq_true rfl) (sn_lf (pc := 2) (ln_a (i := 0) (q := 66) (ln_i (i := 1) (fun z0 => (ln_i (i := 2) (fun z1 => (ln_end (o := fun τ => f_M_layMay_2 z0 z1 τ) (fun _ _ _ e h => s_M_layMay_2 G z0 z1 _ _ _ e h))))))))))) _ _ _ _ _ ((eq_M_layMay x1 σ).symm.trans e) hr
noncomputable def cF_M_layMay : am_Fn := fun _ args σ K => match args with
  | [.ref q0, .int z1] => match Nat.beq q0 66 with
    | true => (f_M_layMay z1 σ).bind (fun p => K none p)
    | _ => none
  | _ => none
theorem cal_M_layMay (G : am_G) : am_Cal G M_M_layMay cF_M_layMay := by
  intro ρ args σ K r e
  unfold cF_M_layMay at e
  split at e
  · split at e
    · rename_i hq0
      obtain ⟨p, h1, h2⟩ := am_bind_some e
      rw [Nat.eq_of_beq_eq_true hq0]
      exact ⟨none, p, am_Met.of rfl (Nat.le_of_ble_eq_true rfl) (s_M_layMay G _ σ p _ h1 ⟨rfl, rfl⟩), h2⟩
    · cases e
  · cases e
abbrev M_M_has : am_MD := (yX12_has, cX12_has, 2, (some .boolean), 0, 0)
theorem dX12_has_0 : decode cX12_has 0 = .ok (.iload_n 0, 1) := by decide +kernel
theorem dX12_has_1 : decode cX12_has 1 = .ok (.iload_n 1, 1) := by decide +kernel
theorem dX12_has_2 : decode cX12_has 2 = .ok (.ishr, 1) := by decide +kernel
theorem dX12_has_3 : decode cX12_has 3 = .ok (.iconst 1, 1) := by decide +kernel
theorem dX12_has_4 : decode cX12_has 4 = .ok (.iand, 1) := by decide +kernel
theorem dX12_has_5 : decode cX12_has 5 = .ok (.iconst 1, 1) := by decide +kernel
theorem dX12_has_6 : decode cX12_has 6 = .ok (.if_icmp .ne 7, 3) := by decide +kernel
theorem dX12_has_9 : decode cX12_has 9 = .ok (.iconst 1, 1) := by decide +kernel
theorem dX12_has_10 : decode cX12_has 10 = .ok (.goto 4, 3) := by decide +kernel
theorem dX12_has_13 : decode cX12_has 13 = .ok (.iconst 0, 1) := by decide +kernel
theorem dX12_has_14 : decode cX12_has 14 = .ok (.ireturn, 1) := by decide +kernel
noncomputable def g_M_has (x0 : Int32) (x1 : Int32) (σ : am_St) : Option (Int32 × am_St) :=
  if ((x0 >>> (x1 &&& 31)) &&& 1) = 1 then
    some ((1, σ))
  else
    some ((0, σ))
noncomputable def f_M_has (x0 : Int32) (x1 : Int32) (σ : am_St) : Option (Int32 × am_St) := am_lk (g_M_has x0 x1 σ)
theorem eq_M_has (x0 : Int32) (x1 : Int32) (σ : am_St) : f_M_has x0 x1 σ = g_M_has x0 x1 σ := am_lk_eq _
set_option maxRecDepth 100000 in
set_option maxHeartbeats 4000000 in
theorem s_M_has (G : am_G) (x0 : Int32) (x1 : Int32) (σ : am_St) (r : Int32 × am_St) (Q : am_AQ) (e : f_M_has x0 x1 σ = some r) (hr : am_Pi r Q) : am_AW G M_M_has 0 [(0, .int x0), (1, .int x1)] [] σ Q :=
  (show am_Snd G M_M_has 0 am_Pi _ from (sn_iload_n (pc := 0) (i := 0) dX12_has_0 rfl (sn_iload_n (pc := 1) (i := 1) dX12_has_1 rfl (sn_ishr (pc := 2) dX12_has_2 (sn_iconst (pc := 3) (v := 1) dX12_has_3 rfl (sn_iand (pc := 4) dX12_has_4 (sn_iconst (pc := 5) (v := 1) dX12_has_5 rfl (sn_icmp_ne (pc := 6) (tgt := 13) dX12_has_6 rfl (sn_iconst (pc := 13) (v := 0) dX12_has_13 rfl (sn_retz (pc := 14) (R := fun x τ => (some ((x, τ)))) dX12_has_14 rfl (fun _ _ _ _ e h => by cases e; exact h))) (sn_iconst (pc := 9) (v := 1) dX12_has_9 rfl (sn_goto (pc := 10) (tgt := 14) dX12_has_10 rfl (sn_retz (pc := 14) (R := fun x τ => (some ((x, τ)))) dX12_has_14 rfl (fun _ _ _ _ e h => by cases e; exact h)))))))))))) _ _ _ _ _ ((eq_M_has x0 x1 σ).symm.trans e) hr
noncomputable def cF_M_has : am_Fn := fun _ args σ K => match args with
  | [.int z0, .int z1] => (f_M_has z0 z1 σ).bind (fun p => K (some (.int p.1)) p.2)
  | _ => none
theorem cal_M_has (G : am_G) : am_Cal G M_M_has cF_M_has := by
  intro ρ args σ K r e
  unfold cF_M_has at e
  split at e
  · obtain ⟨p, h1, h2⟩ := am_bind_some e
    exact ⟨some (.int p.1), p.2, am_Met.of rfl (Nat.le_of_ble_eq_true rfl) (s_M_has G _ _ σ p _ h1 ⟨rfl, rfl⟩), h2⟩
  · cases e
abbrev M_M_countWays : am_MD := (yX12_countWays, cX12_countWays, 5, (some .int), 1, 21)
theorem dX12_countWays_0 : decode cX12_countWays 0 = .ok (.iconst 0, 1) := by decide +kernel
theorem dX12_countWays_1 : decode cX12_countWays 1 = .ok (.istore_n 1, 1) := by decide +kernel
theorem dX12_countWays_2 : decode cX12_countWays 2 = .ok (.iload_n 1, 1) := by decide +kernel
theorem dX12_countWays_3 : decode cX12_countWays 3 = .ok (.iconst 4, 1) := by decide +kernel
theorem dX12_countWays_4 : decode cX12_countWays 4 = .ok (.if_icmp .ge 41, 3) := by decide +kernel
theorem dX12_countWays_7 : decode cX12_countWays 7 = .ok (.aload_n 0, 1) := by decide +kernel
theorem dX12_countWays_8 : decode cX12_countWays 8 = .ok (.getfield 68, 3) := by decide +kernel
theorem dX12_countWays_11 : decode cX12_countWays 11 = .ok (.iload_n 1, 1) := by decide +kernel
theorem dX12_countWays_12 : decode cX12_countWays 12 = .ok (.iload_n 1, 1) := by decide +kernel
theorem dX12_countWays_13 : decode cX12_countWays 13 = .ok (.aload_n 0, 1) := by decide +kernel
theorem dX12_countWays_14 : decode cX12_countWays 14 = .ok (.getfield 7, 3) := by decide +kernel
theorem dX12_countWays_17 : decode cX12_countWays 17 = .ok (.if_icmp .ge 20, 3) := by decide +kernel
theorem dX12_countWays_20 : decode cX12_countWays 20 = .ok (.aload_n 0, 1) := by decide +kernel
theorem dX12_countWays_21 : decode cX12_countWays 21 = .ok (.getfield 65, 3) := by decide +kernel
theorem dX12_countWays_24 : decode cX12_countWays 24 = .ok (.iconst 0, 1) := by decide +kernel
theorem dX12_countWays_25 : decode cX12_countWays 25 = .ok (.iaload, 1) := by decide +kernel
theorem dX12_countWays_26 : decode cX12_countWays 26 = .ok (.iload_n 1, 1) := by decide +kernel
theorem dX12_countWays_27 : decode cX12_countWays 27 = .ok (.invokestatic 115, 3) := by decide +kernel
theorem dX12_countWays_30 : decode cX12_countWays 30 = .ok (.ifCond .eq 7, 3) := by decide +kernel
theorem dX12_countWays_33 : decode cX12_countWays 33 = .ok (.iconst 1, 1) := by decide +kernel
theorem dX12_countWays_34 : decode cX12_countWays 34 = .ok (.goto 4, 3) := by decide +kernel
theorem dX12_countWays_37 : decode cX12_countWays 37 = .ok (.iconst 0, 1) := by decide +kernel
theorem dX12_countWays_38 : decode cX12_countWays 38 = .ok (.iastore, 1) := by decide +kernel
theorem dX12_countWays_39 : decode cX12_countWays 39 = .ok (.iinc 1 1, 3) := by decide +kernel
theorem dX12_countWays_42 : decode cX12_countWays 42 = .ok (.goto (-40), 3) := by decide +kernel
theorem dX12_countWays_45 : decode cX12_countWays 45 = .ok (.iconst 1, 1) := by decide +kernel
theorem dX12_countWays_46 : decode cX12_countWays 46 = .ok (.istore_n 1, 1) := by decide +kernel
theorem dX12_countWays_47 : decode cX12_countWays 47 = .ok (.iload_n 1, 1) := by decide +kernel
theorem dX12_countWays_48 : decode cX12_countWays 48 = .ok (.aload_n 0, 1) := by decide +kernel
theorem dX12_countWays_49 : decode cX12_countWays 49 = .ok (.getfield 13, 3) := by decide +kernel
theorem dX12_countWays_52 : decode cX12_countWays 52 = .ok (.if_icmp .ge 131, 3) := by decide +kernel
theorem dX12_countWays_55 : decode cX12_countWays 55 = .ok (.iconst 0, 1) := by decide +kernel
theorem dX12_countWays_56 : decode cX12_countWays 56 = .ok (.istore_n 2, 1) := by decide +kernel
theorem dX12_countWays_57 : decode cX12_countWays 57 = .ok (.iload_n 2, 1) := by decide +kernel
theorem dX12_countWays_58 : decode cX12_countWays 58 = .ok (.aload_n 0, 1) := by decide +kernel
theorem dX12_countWays_59 : decode cX12_countWays 59 = .ok (.getfield 7, 3) := by decide +kernel
theorem dX12_countWays_62 : decode cX12_countWays 62 = .ok (.if_icmp .ge 87, 3) := by decide +kernel
theorem dX12_countWays_65 : decode cX12_countWays 65 = .ok (.iconst 0, 1) := by decide +kernel
theorem dX12_countWays_66 : decode cX12_countWays 66 = .ok (.istore_n 3, 1) := by decide +kernel
theorem dX12_countWays_67 : decode cX12_countWays 67 = .ok (.iconst 0, 1) := by decide +kernel
theorem dX12_countWays_68 : decode cX12_countWays 68 = .ok (.istore 4, 2) := by decide +kernel
theorem dX12_countWays_70 : decode cX12_countWays 70 = .ok (.iload 4, 2) := by decide +kernel
theorem dX12_countWays_72 : decode cX12_countWays 72 = .ok (.aload_n 0, 1) := by decide +kernel
theorem dX12_countWays_73 : decode cX12_countWays 73 = .ok (.getfield 7, 3) := by decide +kernel
theorem dX12_countWays_76 : decode cX12_countWays 76 = .ok (.if_icmp .ge 43, 3) := by decide +kernel
theorem dX12_countWays_79 : decode cX12_countWays 79 = .ok (.iload_n 3, 1) := by decide +kernel
theorem dX12_countWays_80 : decode cX12_countWays 80 = .ok (.iload 4, 2) := by decide +kernel
theorem dX12_countWays_82 : decode cX12_countWays 82 = .ok (.iload_n 2, 1) := by decide +kernel
theorem dX12_countWays_83 : decode cX12_countWays 83 = .ok (.if_icmp .eq 17, 3) := by decide +kernel
theorem dX12_countWays_86 : decode cX12_countWays 86 = .ok (.aload_n 0, 1) := by decide +kernel
theorem dX12_countWays_87 : decode cX12_countWays 87 = .ok (.getfield 16, 3) := by decide +kernel
theorem dX12_countWays_90 : decode cX12_countWays 90 = .ok (.iload_n 2, 1) := by decide +kernel
theorem dX12_countWays_91 : decode cX12_countWays 91 = .ok (.iaload, 1) := by decide +kernel
theorem dX12_countWays_92 : decode cX12_countWays 92 = .ok (.iload 4, 2) := by decide +kernel
theorem dX12_countWays_94 : decode cX12_countWays 94 = .ok (.invokestatic 115, 3) := by decide +kernel
theorem dX12_countWays_97 : decode cX12_countWays 97 = .ok (.ifCond .eq 13, 3) := by decide +kernel
theorem dX12_countWays_100 : decode cX12_countWays 100 = .ok (.aload_n 0, 1) := by decide +kernel
theorem dX12_countWays_101 : decode cX12_countWays 101 = .ok (.getfield 68, 3) := by decide +kernel
theorem dX12_countWays_104 : decode cX12_countWays 104 = .ok (.iload 4, 2) := by decide +kernel
theorem dX12_countWays_106 : decode cX12_countWays 106 = .ok (.iaload, 1) := by decide +kernel
theorem dX12_countWays_107 : decode cX12_countWays 107 = .ok (.goto 4, 3) := by decide +kernel
theorem dX12_countWays_110 : decode cX12_countWays 110 = .ok (.iconst 0, 1) := by decide +kernel
theorem dX12_countWays_111 : decode cX12_countWays 111 = .ok (.iadd, 1) := by decide +kernel
theorem dX12_countWays_112 : decode cX12_countWays 112 = .ok (.istore_n 3, 1) := by decide +kernel
theorem dX12_countWays_113 : decode cX12_countWays 113 = .ok (.iinc 4 1, 3) := by decide +kernel
theorem dX12_countWays_116 : decode cX12_countWays 116 = .ok (.goto (-46), 3) := by decide +kernel
theorem dX12_countWays_119 : decode cX12_countWays 119 = .ok (.aload_n 0, 1) := by decide +kernel
theorem dX12_countWays_120 : decode cX12_countWays 120 = .ok (.getfield 71, 3) := by decide +kernel
theorem dX12_countWays_123 : decode cX12_countWays 123 = .ok (.iload_n 2, 1) := by decide +kernel
theorem dX12_countWays_124 : decode cX12_countWays 124 = .ok (.aload_n 0, 1) := by decide +kernel
theorem dX12_countWays_125 : decode cX12_countWays 125 = .ok (.getfield 65, 3) := by decide +kernel
theorem dX12_countWays_128 : decode cX12_countWays 128 = .ok (.iload_n 1, 1) := by decide +kernel
theorem dX12_countWays_129 : decode cX12_countWays 129 = .ok (.iaload, 1) := by decide +kernel
theorem dX12_countWays_130 : decode cX12_countWays 130 = .ok (.iload_n 2, 1) := by decide +kernel
theorem dX12_countWays_131 : decode cX12_countWays 131 = .ok (.invokestatic 115, 3) := by decide +kernel
theorem dX12_countWays_134 : decode cX12_countWays 134 = .ok (.ifCond .eq 7, 3) := by decide +kernel
theorem dX12_countWays_137 : decode cX12_countWays 137 = .ok (.iload_n 3, 1) := by decide +kernel
theorem dX12_countWays_138 : decode cX12_countWays 138 = .ok (.goto 4, 3) := by decide +kernel
theorem dX12_countWays_141 : decode cX12_countWays 141 = .ok (.iconst 0, 1) := by decide +kernel
theorem dX12_countWays_142 : decode cX12_countWays 142 = .ok (.iastore, 1) := by decide +kernel
theorem dX12_countWays_143 : decode cX12_countWays 143 = .ok (.iinc 2 1, 3) := by decide +kernel
theorem dX12_countWays_146 : decode cX12_countWays 146 = .ok (.goto (-89), 3) := by decide +kernel
theorem dX12_countWays_149 : decode cX12_countWays 149 = .ok (.iconst 0, 1) := by decide +kernel
theorem dX12_countWays_150 : decode cX12_countWays 150 = .ok (.istore_n 2, 1) := by decide +kernel
theorem dX12_countWays_151 : decode cX12_countWays 151 = .ok (.iload_n 2, 1) := by decide +kernel
theorem dX12_countWays_152 : decode cX12_countWays 152 = .ok (.aload_n 0, 1) := by decide +kernel
theorem dX12_countWays_153 : decode cX12_countWays 153 = .ok (.getfield 7, 3) := by decide +kernel
theorem dX12_countWays_156 : decode cX12_countWays 156 = .ok (.if_icmp .ge 21, 3) := by decide +kernel
theorem dX12_countWays_159 : decode cX12_countWays 159 = .ok (.aload_n 0, 1) := by decide +kernel
theorem dX12_countWays_160 : decode cX12_countWays 160 = .ok (.getfield 68, 3) := by decide +kernel
theorem dX12_countWays_163 : decode cX12_countWays 163 = .ok (.iload_n 2, 1) := by decide +kernel
theorem dX12_countWays_164 : decode cX12_countWays 164 = .ok (.aload_n 0, 1) := by decide +kernel
theorem dX12_countWays_165 : decode cX12_countWays 165 = .ok (.getfield 71, 3) := by decide +kernel
theorem dX12_countWays_168 : decode cX12_countWays 168 = .ok (.iload_n 2, 1) := by decide +kernel
theorem dX12_countWays_169 : decode cX12_countWays 169 = .ok (.iaload, 1) := by decide +kernel
theorem dX12_countWays_170 : decode cX12_countWays 170 = .ok (.iastore, 1) := by decide +kernel
theorem dX12_countWays_171 : decode cX12_countWays 171 = .ok (.iinc 2 1, 3) := by decide +kernel
theorem dX12_countWays_174 : decode cX12_countWays 174 = .ok (.goto (-23), 3) := by decide +kernel
theorem dX12_countWays_177 : decode cX12_countWays 177 = .ok (.iinc 1 1, 3) := by decide +kernel
theorem dX12_countWays_180 : decode cX12_countWays 180 = .ok (.goto (-133), 3) := by decide +kernel
theorem dX12_countWays_183 : decode cX12_countWays 183 = .ok (.aload_n 0, 1) := by decide +kernel
theorem dX12_countWays_184 : decode cX12_countWays 184 = .ok (.getfield 68, 3) := by decide +kernel
theorem dX12_countWays_187 : decode cX12_countWays 187 = .ok (.iconst 0, 1) := by decide +kernel
theorem dX12_countWays_188 : decode cX12_countWays 188 = .ok (.iaload, 1) := by decide +kernel
theorem dX12_countWays_189 : decode cX12_countWays 189 = .ok (.aload_n 0, 1) := by decide +kernel
theorem dX12_countWays_190 : decode cX12_countWays 190 = .ok (.getfield 68, 3) := by decide +kernel
theorem dX12_countWays_193 : decode cX12_countWays 193 = .ok (.iconst 1, 1) := by decide +kernel
theorem dX12_countWays_194 : decode cX12_countWays 194 = .ok (.iaload, 1) := by decide +kernel
theorem dX12_countWays_195 : decode cX12_countWays 195 = .ok (.iadd, 1) := by decide +kernel
theorem dX12_countWays_196 : decode cX12_countWays 196 = .ok (.aload_n 0, 1) := by decide +kernel
theorem dX12_countWays_197 : decode cX12_countWays 197 = .ok (.getfield 68, 3) := by decide +kernel
theorem dX12_countWays_200 : decode cX12_countWays 200 = .ok (.iconst 2, 1) := by decide +kernel
theorem dX12_countWays_201 : decode cX12_countWays 201 = .ok (.iaload, 1) := by decide +kernel
theorem dX12_countWays_202 : decode cX12_countWays 202 = .ok (.iadd, 1) := by decide +kernel
theorem dX12_countWays_203 : decode cX12_countWays 203 = .ok (.aload_n 0, 1) := by decide +kernel
theorem dX12_countWays_204 : decode cX12_countWays 204 = .ok (.getfield 68, 3) := by decide +kernel
theorem dX12_countWays_207 : decode cX12_countWays 207 = .ok (.iconst 3, 1) := by decide +kernel
theorem dX12_countWays_208 : decode cX12_countWays 208 = .ok (.iaload, 1) := by decide +kernel
theorem dX12_countWays_209 : decode cX12_countWays 209 = .ok (.iadd, 1) := by decide +kernel
theorem dX12_countWays_210 : decode cX12_countWays 210 = .ok (.ireturn, 1) := by decide +kernel
abbrev Pl_M_countWays_2 (G : am_G) : ((Int32 × am_St) ⊕ (Int32 × am_St)) → am_AQ → Prop := am_PL G M_M_countWays 2 (fun s : Int32 × am_St => [(1, .int s.1), (0, .ref 66)]) (fun s => s.2) am_Pi
abbrev Pl_M_countWays_47 (G : am_G) : ((Int32 × am_St) ⊕ (Int32 × am_St)) → am_AQ → Prop := am_PL G M_M_countWays 47 (fun s : Int32 × am_St => [(1, .int s.1), (0, .ref 66)]) (fun s => s.2) am_Pi
abbrev Pl_M_countWays_151 (G : am_G) : ((Int32 × Int32 × am_St) ⊕ ((Int32 × am_St) ⊕ (Int32 × am_St))) → am_AQ → Prop := am_PL G M_M_countWays 151 (fun s : Int32 × Int32 × am_St => [(2, .int s.2.1), (1, .int s.1), (0, .ref 66)]) (fun s => s.2.2) (Pl_M_countWays_47 G)
abbrev Pl_M_countWays_57 (G : am_G) : ((Int32 × Int32 × am_St) ⊕ ((Int32 × am_St) ⊕ (Int32 × am_St))) → am_AQ → Prop := am_PL G M_M_countWays 57 (fun s : Int32 × Int32 × am_St => [(2, .int s.2.1), (1, .int s.1), (0, .ref 66)]) (fun s => s.2.2) (Pl_M_countWays_47 G)
abbrev Pl_M_countWays_70 (G : am_G) : ((Int32 × Int32 × Int32 × Int32 × am_St) ⊕ ((Int32 × Int32 × am_St) ⊕ ((Int32 × am_St) ⊕ (Int32 × am_St)))) → am_AQ → Prop := am_PL G M_M_countWays 70 (fun s : Int32 × Int32 × Int32 × Int32 × am_St => [(4, .int s.2.2.2.1), (3, .int s.2.2.1), (2, .int s.2.1), (1, .int s.1), (0, .ref 66)]) (fun s => s.2.2.2.2) (Pl_M_countWays_57 G)
noncomputable def g_M_countWays_38 (x1 : Int32) (y1 : Int32) (y2 : Int32) (σ : am_St) : Option ((Int32 × am_St) ⊕ (Int32 × am_St)) :=
  if am_ix y1 4 = true then
    let s1 := am_sI σ 84 y1.toNatClampNeg y2
    let v2 := x1 + 1
    some (.inl (v2, s1))
  else none
noncomputable def f_M_countWays_38 (x1 : Int32) (y1 : Int32) (y2 : Int32) (σ : am_St) : Option ((Int32 × am_St) ⊕ (Int32 × am_St)) := am_lk (g_M_countWays_38 x1 y1 y2 σ)
theorem eq_M_countWays_38 (x1 : Int32) (y1 : Int32) (y2 : Int32) (σ : am_St) : f_M_countWays_38 x1 y1 y2 σ = g_M_countWays_38 x1 y1 y2 σ := am_lk_eq _
set_option maxRecDepth 100000 in
set_option maxHeartbeats 4000000 in
theorem s_M_countWays_38 (G : am_G) (x1 : Int32) (y1 : Int32) (y2 : Int32) (σ : am_St) (r : (Int32 × am_St) ⊕ (Int32 × am_St)) (Q : am_AQ) (e : f_M_countWays_38 x1 y1 y2 σ = some r) (hr : (Pl_M_countWays_2 G) r Q) : am_AW G M_M_countWays 38 [(1, .int x1), (0, .ref 66)] [.int y2, .int y1, .ref 84] σ Q :=
  (show am_Snd G M_M_countWays 38 (Pl_M_countWays_2 G) _ from (sn_sI (pc := 38) (h := 84) dX12_countWays_38 sh_84 (sn_iinc (pc := 39) (v := 1) dX12_countWays_39 rfl (Nat.le_of_ble_eq_true rfl) (sn_goto (pc := 42) (tgt := 2) dX12_countWays_42 rfl (sn_lf (pc := 2) (ln_a (i := 0) (q := 66) (ln_i (i := 1) (fun z0 => (ln_end (o := fun τ => (some (.inl (z0, τ)) : Option ((Int32 × am_St) ⊕ (Int32 × am_St)))) (fun _ _ _ e h => by cases e; exact h)))))))))) _ _ _ _ _ ((eq_M_countWays_38 x1 y1 y2 σ).symm.trans e) hr
noncomputable def g_M_countWays_37 (x1 : Int32) (y1 : Int32) (σ : am_St) : Option ((Int32 × am_St) ⊕ (Int32 × am_St)) :=
  f_M_countWays_38 x1 y1 0 σ
noncomputable def f_M_countWays_37 (x1 : Int32) (y1 : Int32) (σ : am_St) : Option ((Int32 × am_St) ⊕ (Int32 × am_St)) := am_lk (g_M_countWays_37 x1 y1 σ)
theorem eq_M_countWays_37 (x1 : Int32) (y1 : Int32) (σ : am_St) : f_M_countWays_37 x1 y1 σ = g_M_countWays_37 x1 y1 σ := am_lk_eq _
set_option maxRecDepth 100000 in
set_option maxHeartbeats 4000000 in
theorem s_M_countWays_37 (G : am_G) (x1 : Int32) (y1 : Int32) (σ : am_St) (r : (Int32 × am_St) ⊕ (Int32 × am_St)) (Q : am_AQ) (e : f_M_countWays_37 x1 y1 σ = some r) (hr : (Pl_M_countWays_2 G) r Q) : am_AW G M_M_countWays 37 [(1, .int x1), (0, .ref 66)] [.int y1, .ref 84] σ Q :=
  (show am_Snd G M_M_countWays 37 (Pl_M_countWays_2 G) _ from (sn_iconst (pc := 37) (v := 0) dX12_countWays_37 rfl (sn_lf (pc := 38) (ln_a (i := 0) (q := 66) (ln_i (i := 1) (fun z0 => (ln_si (fun w2 => (ln_si (fun w1 => (ln_sa (q := 84) (ln_end (o := fun τ => f_M_countWays_38 z0 w1 w2 τ) (fun _ _ _ e h => s_M_countWays_38 G z0 w1 w2 _ _ _ e h))))))))))))) _ _ _ _ _ ((eq_M_countWays_37 x1 y1 σ).symm.trans e) hr
noncomputable def g_M_countWays_111 (x1 : Int32) (x2 : Int32) (x4 : Int32) (y0 : Int32) (y1 : Int32) (σ : am_St) : Option ((Int32 × Int32 × Int32 × Int32 × am_St) ⊕ ((Int32 × Int32 × am_St) ⊕ ((Int32 × am_St) ⊕ (Int32 × am_St)))) :=
  let v1 := y0 + y1
  let v2 := x4 + 1
  some (.inl (x1, x2, v1, v2, σ))
noncomputable def f_M_countWays_111 (x1 : Int32) (x2 : Int32) (x4 : Int32) (y0 : Int32) (y1 : Int32) (σ : am_St) : Option ((Int32 × Int32 × Int32 × Int32 × am_St) ⊕ ((Int32 × Int32 × am_St) ⊕ ((Int32 × am_St) ⊕ (Int32 × am_St)))) := am_lk (g_M_countWays_111 x1 x2 x4 y0 y1 σ)
theorem eq_M_countWays_111 (x1 : Int32) (x2 : Int32) (x4 : Int32) (y0 : Int32) (y1 : Int32) (σ : am_St) : f_M_countWays_111 x1 x2 x4 y0 y1 σ = g_M_countWays_111 x1 x2 x4 y0 y1 σ := am_lk_eq _
set_option maxRecDepth 100000 in
set_option maxHeartbeats 4000000 in
theorem s_M_countWays_111 (G : am_G) (x1 : Int32) (x2 : Int32) (x4 : Int32) (y0 : Int32) (y1 : Int32) (σ : am_St) (r : (Int32 × Int32 × Int32 × Int32 × am_St) ⊕ ((Int32 × Int32 × am_St) ⊕ ((Int32 × am_St) ⊕ (Int32 × am_St)))) (Q : am_AQ) (e : f_M_countWays_111 x1 x2 x4 y0 y1 σ = some r) (hr : (Pl_M_countWays_70 G) r Q) : am_AW G M_M_countWays 111 [(4, .int x4), (2, .int x2), (1, .int x1), (0, .ref 66)] [.int y1, .int y0] σ Q :=
  (show am_Snd G M_M_countWays 111 (Pl_M_countWays_70 G) _ from (sn_iadd (pc := 111) dX12_countWays_111 (sn_istore_n (pc := 112) (i := 3) dX12_countWays_112 rfl (Nat.le_of_ble_eq_true rfl) (sn_iinc (pc := 113) (v := 1) dX12_countWays_113 rfl (Nat.le_of_ble_eq_true rfl) (sn_goto (pc := 116) (tgt := 70) dX12_countWays_116 rfl (sn_lf (pc := 70) (ln_a (i := 0) (q := 66) (ln_i (i := 1) (fun z0 => (ln_i (i := 2) (fun z1 => (ln_i (i := 3) (fun z2 => (ln_i (i := 4) (fun z3 => (ln_end (o := fun τ => (some (.inl (z0, z1, z2, z3, τ)) : Option ((Int32 × Int32 × Int32 × Int32 × am_St) ⊕ ((Int32 × Int32 × am_St) ⊕ ((Int32 × am_St) ⊕ (Int32 × am_St)))))) (fun _ _ _ e h => by cases e; exact h))))))))))))))))) _ _ _ _ _ ((eq_M_countWays_111 x1 x2 x4 y0 y1 σ).symm.trans e) hr
noncomputable def g_M_countWays_100 (x1 : Int32) (x2 : Int32) (x4 : Int32) (y0 : Int32) (σ : am_St) : Option ((Int32 × Int32 × Int32 × Int32 × am_St) ⊕ ((Int32 × Int32 × am_St) ⊕ ((Int32 × am_St) ⊕ (Int32 × am_St)))) :=
  if am_ix x4 4 = true then
    f_M_countWays_111 x1 x2 x4 y0 (σ.1 84 x4.toNatClampNeg) σ
  else none
noncomputable def f_M_countWays_100 (x1 : Int32) (x2 : Int32) (x4 : Int32) (y0 : Int32) (σ : am_St) : Option ((Int32 × Int32 × Int32 × Int32 × am_St) ⊕ ((Int32 × Int32 × am_St) ⊕ ((Int32 × am_St) ⊕ (Int32 × am_St)))) := am_lk (g_M_countWays_100 x1 x2 x4 y0 σ)
theorem eq_M_countWays_100 (x1 : Int32) (x2 : Int32) (x4 : Int32) (y0 : Int32) (σ : am_St) : f_M_countWays_100 x1 x2 x4 y0 σ = g_M_countWays_100 x1 x2 x4 y0 σ := am_lk_eq _
set_option maxRecDepth 100000 in
set_option maxHeartbeats 4000000 in
theorem s_M_countWays_100 (G : am_G) (x1 : Int32) (x2 : Int32) (x4 : Int32) (y0 : Int32) (σ : am_St) (r : (Int32 × Int32 × Int32 × Int32 × am_St) ⊕ ((Int32 × Int32 × am_St) ⊕ ((Int32 × am_St) ⊕ (Int32 × am_St)))) (Q : am_AQ) (e : f_M_countWays_100 x1 x2 x4 y0 σ = some r) (hr : (Pl_M_countWays_70 G) r Q) : am_AW G M_M_countWays 100 [(4, .int x4), (2, .int x2), (1, .int x1), (0, .ref 66)] [.int y0] σ Q :=
  (show am_Snd G M_M_countWays 100 (Pl_M_countWays_70 G) _ from (sn_aload_n (pc := 100) (i := 0) dX12_countWays_100 rfl (sn_gR (r0 := 84) (pc := 101) (h := 66) (f := 25) dX12_countWays_101 am_CL_11 sh_66 rfl (Nat.le_of_ble_eq_true rfl) tw_966 (sn_iload (pc := 104) dX12_countWays_104 (sn_aI (pc := 106) (h := 84) dX12_countWays_106 sh_84 (sn_goto (pc := 107) (tgt := 111) dX12_countWays_107 rfl (sn_lf (pc := 111) (ln_a (i := 0) (q := 66) (ln_i (i := 1) (fun z0 => (ln_i (i := 2) (fun z1 => (ln_i (i := 4) (fun z2 => (ln_si (fun w1 => (ln_si (fun w0 => (ln_end (o := fun τ => f_M_countWays_111 z0 z1 z2 w0 w1 τ) (fun _ _ _ e h => s_M_countWays_111 G z0 z1 z2 w0 w1 _ _ _ e h)))))))))))))))))))) _ _ _ _ _ ((eq_M_countWays_100 x1 x2 x4 y0 σ).symm.trans e) hr
noncomputable def g_M_countWays_142 (x1 : Int32) (x2 : Int32) (y1 : Int32) (y2 : Int32) (σ : am_St) : Option ((Int32 × Int32 × am_St) ⊕ ((Int32 × am_St) ⊕ (Int32 × am_St))) :=
  if am_ix y1 4 = true then
    let s1 := am_sI σ 85 y1.toNatClampNeg y2
    let v2 := x2 + 1
    some (.inl (x1, v2, s1))
  else none
noncomputable def f_M_countWays_142 (x1 : Int32) (x2 : Int32) (y1 : Int32) (y2 : Int32) (σ : am_St) : Option ((Int32 × Int32 × am_St) ⊕ ((Int32 × am_St) ⊕ (Int32 × am_St))) := am_lk (g_M_countWays_142 x1 x2 y1 y2 σ)
theorem eq_M_countWays_142 (x1 : Int32) (x2 : Int32) (y1 : Int32) (y2 : Int32) (σ : am_St) : f_M_countWays_142 x1 x2 y1 y2 σ = g_M_countWays_142 x1 x2 y1 y2 σ := am_lk_eq _
set_option maxRecDepth 100000 in
set_option maxHeartbeats 4000000 in
theorem s_M_countWays_142 (G : am_G) (x1 : Int32) (x2 : Int32) (y1 : Int32) (y2 : Int32) (σ : am_St) (r : (Int32 × Int32 × am_St) ⊕ ((Int32 × am_St) ⊕ (Int32 × am_St))) (Q : am_AQ) (e : f_M_countWays_142 x1 x2 y1 y2 σ = some r) (hr : (Pl_M_countWays_57 G) r Q) : am_AW G M_M_countWays 142 [(2, .int x2), (1, .int x1), (0, .ref 66)] [.int y2, .int y1, .ref 85] σ Q :=
  (show am_Snd G M_M_countWays 142 (Pl_M_countWays_57 G) _ from (sn_sI (pc := 142) (h := 85) dX12_countWays_142 sh_85 (sn_iinc (pc := 143) (v := 1) dX12_countWays_143 rfl (Nat.le_of_ble_eq_true rfl) (sn_goto (pc := 146) (tgt := 57) dX12_countWays_146 rfl (sn_lf (pc := 57) (ln_a (i := 0) (q := 66) (ln_i (i := 1) (fun z0 => (ln_i (i := 2) (fun z1 => (ln_end (o := fun τ => (some (.inl (z0, z1, τ)) : Option ((Int32 × Int32 × am_St) ⊕ ((Int32 × am_St) ⊕ (Int32 × am_St))))) (fun _ _ _ e h => by cases e; exact h)))))))))))) _ _ _ _ _ ((eq_M_countWays_142 x1 x2 y1 y2 σ).symm.trans e) hr
noncomputable def b_M_countWays_70 (x1 : Int32) (x2 : Int32) (x3 : Int32) (x4 : Int32) (σ : am_St) : Option ((Int32 × Int32 × Int32 × Int32 × am_St) ⊕ ((Int32 × Int32 × am_St) ⊕ ((Int32 × am_St) ⊕ (Int32 × am_St)))) :=
  if (σ.1 66 0) ≤ x4 then
    if am_ix x1 6 = true then
      (f_M_has (σ.1 83 x1.toNatClampNeg) x2 σ).bind (fun p1 =>
        if p1.1 = 0 then
          (f_M_countWays_142 x1 x2 x2 0 p1.2).map (fun r => .inr r)
        else
          (f_M_countWays_142 x1 x2 x2 x3 p1.2).map (fun r => .inr r))
    else none
  else
    if x4 = x2 then
      f_M_countWays_100 x1 x2 x4 x3 σ
    else
      if am_ix x2 4 = true then
        (f_M_has (σ.1 67 x2.toNatClampNeg) x4 σ).bind (fun p2 =>
          if p2.1 = 0 then
            f_M_countWays_111 x1 x2 x4 x3 0 p2.2
          else
            f_M_countWays_100 x1 x2 x4 x3 p2.2)
      else none
noncomputable def f_M_countWays_70 (x1 : Int32) (x2 : Int32) (x3 : Int32) (x4 : Int32) (σ : am_St) : Option ((Int32 × Int32 × am_St) ⊕ ((Int32 × am_St) ⊕ (Int32 × am_St))) := am_lp (fun s : Int32 × Int32 × Int32 × Int32 × am_St => b_M_countWays_70 s.1 s.2.1 s.2.2.1 s.2.2.2.1 s.2.2.2.2) (x1, x2, x3, x4, σ)
set_option maxRecDepth 100000 in
set_option maxHeartbeats 4000000 in
theorem sb_M_countWays_70 (G : am_G) (x1 : Int32) (x2 : Int32) (x3 : Int32) (x4 : Int32) (σ : am_St) (r : (Int32 × Int32 × Int32 × Int32 × am_St) ⊕ ((Int32 × Int32 × am_St) ⊕ ((Int32 × am_St) ⊕ (Int32 × am_St)))) (Q : am_AQ) (e : b_M_countWays_70 x1 x2 x3 x4 σ = some r) (hr : Pl_M_countWays_70 G r Q) : am_AW G M_M_countWays 70 [(4, .int x4), (3, .int x3), (2, .int x2), (1, .int x1), (0, .ref 66)] [] σ Q :=
  (show am_Snd G M_M_countWays 70 (Pl_M_countWays_70 G) _ from (sn_iload (pc := 70) dX12_countWays_70 (sn_aload_n (pc := 72) (i := 0) dX12_countWays_72 rfl (sn_gI (pc := 73) (h := 66) (f := 0) dX12_countWays_73 am_CL_11 sh_66 rfl (Nat.le_of_ble_eq_true rfl) tw_941 (sn_icmp_ge (pc := 76) (tgt := 119) dX12_countWays_76 rfl (sn_aload_n (pc := 119) (i := 0) dX12_countWays_119 rfl (sn_gR (r0 := 85) (pc := 120) (h := 66) (f := 26) dX12_countWays_120 am_CL_11 sh_66 rfl (Nat.le_of_ble_eq_true rfl) tw_967 (sn_iload_n (pc := 123) (i := 2) dX12_countWays_123 rfl (sn_aload_n (pc := 124) (i := 0) dX12_countWays_124 rfl (sn_gR (r0 := 83) (pc := 125) (h := 66) (f := 24) dX12_countWays_125 am_CL_11 sh_66 rfl (Nat.le_of_ble_eq_true rfl) tw_965 (sn_iload_n (pc := 128) (i := 1) dX12_countWays_128 rfl (sn_aI (pc := 129) (h := 83) dX12_countWays_129 sh_83 (sn_iload_n (pc := 130) (i := 2) dX12_countWays_130 rfl (sn_callS (pc := 131) (N := M_M_has) dX12_countWays_131 (cal_M_has G) tw_1170 tw_1171 tw_12 tw_1172 dsc_X12_has rfl (sn_if_eq (pc := 134) (tgt := 141) dX12_countWays_134 rfl (sn_iconst (pc := 141) (v := 0) dX12_countWays_141 rfl (sn_lf (pc := 142) (ln_a (i := 0) (q := 66) (ln_i (i := 1) (fun z0 => (ln_i (i := 2) (fun z1 => (ln_si (fun w2 => (ln_si (fun w1 => (ln_sa (q := 85) (ln_end (o := fun τ => ((f_M_countWays_142 z0 z1 w1 w2 τ).map (fun r => .inr r) : Option ((Int32 × Int32 × Int32 × Int32 × am_St) ⊕ ((Int32 × Int32 × am_St) ⊕ ((Int32 × am_St) ⊕ (Int32 × am_St)))))) (fun _ _ _ e h => by obtain ⟨r9, e9, rfl⟩ := am_map_some e; exact s_M_countWays_142 G z0 z1 w1 w2 _ _ _ e9 h)))))))))))))) (sn_iload_n (pc := 137) (i := 3) dX12_countWays_137 rfl (sn_goto (pc := 138) (tgt := 142) dX12_countWays_138 rfl (sn_lf (pc := 142) (ln_a (i := 0) (q := 66) (ln_i (i := 1) (fun z0 => (ln_i (i := 2) (fun z1 => (ln_si (fun w2 => (ln_si (fun w1 => (ln_sa (q := 85) (ln_end (o := fun τ => ((f_M_countWays_142 z0 z1 w1 w2 τ).map (fun r => .inr r) : Option ((Int32 × Int32 × Int32 × Int32 × am_St) ⊕ ((Int32 × Int32 × am_St) ⊕ ((Int32 × am_St) ⊕ (Int32 × am_St)))))) (fun _ _ _ e h => by obtain ⟨r9, e9, rfl⟩ := am_map_some e; exact s_M_countWays_142 G z0 z1 w1 w2 _ _ _ e9 h))))))))))))))))))))))))) (sn_iload_n (pc := 79) (i := 3) dX12_countWays_79 rfl (sn_iload (pc := 80) dX12_countWays_80 (sn_iload_n (pc := 82) (i := 2) dX12_countWays_82 rfl (sn_icmp_eq (pc := 83) (tgt := 100) dX12_countWays_83 rfl (sn_lf (pc := 100) (ln_a (i := 0) (q := 66) (ln_i (i := 1) (fun z0 => (ln_i (i := 2) (fun z1 => (ln_i (i := 4) (fun z2 => (ln_si (fun w0 => (ln_end (o := fun τ => f_M_countWays_100 z0 z1 z2 w0 τ) (fun _ _ _ e h => s_M_countWays_100 G z0 z1 z2 w0 _ _ _ e h)))))))))))) (sn_aload_n (pc := 86) (i := 0) dX12_countWays_86 rfl (sn_gR (r0 := 67) (pc := 87) (h := 66) (f := 7) dX12_countWays_87 am_CL_11 sh_66 rfl (Nat.le_of_ble_eq_true rfl) tw_948 (sn_iload_n (pc := 90) (i := 2) dX12_countWays_90 rfl (sn_aI (pc := 91) (h := 67) dX12_countWays_91 sh_67 (sn_iload (pc := 92) dX12_countWays_92 (sn_callS (pc := 94) (N := M_M_has) dX12_countWays_94 (cal_M_has G) tw_1170 tw_1171 tw_12 tw_1172 dsc_X12_has rfl (sn_if_eq (pc := 97) (tgt := 110) dX12_countWays_97 rfl (sn_iconst (pc := 110) (v := 0) dX12_countWays_110 rfl (sn_lf (pc := 111) (ln_a (i := 0) (q := 66) (ln_i (i := 1) (fun z0 => (ln_i (i := 2) (fun z1 => (ln_i (i := 4) (fun z2 => (ln_si (fun w1 => (ln_si (fun w0 => (ln_end (o := fun τ => f_M_countWays_111 z0 z1 z2 w0 w1 τ) (fun _ _ _ e h => s_M_countWays_111 G z0 z1 z2 w0 w1 _ _ _ e h))))))))))))))) (sn_lf (pc := 100) (ln_a (i := 0) (q := 66) (ln_i (i := 1) (fun z0 => (ln_i (i := 2) (fun z1 => (ln_i (i := 4) (fun z2 => (ln_si (fun w0 => (ln_end (o := fun τ => f_M_countWays_100 z0 z1 z2 w0 τ) (fun _ _ _ e h => s_M_countWays_100 G z0 z1 z2 w0 _ _ _ e h)))))))))))))))))))))))))))) _ _ _ _ _ e hr
theorem s_M_countWays_70 (G : am_G) (x1 : Int32) (x2 : Int32) (x3 : Int32) (x4 : Int32) (σ : am_St) (r : (Int32 × Int32 × am_St) ⊕ ((Int32 × am_St) ⊕ (Int32 × am_St))) (Q : am_AQ) (e : f_M_countWays_70 x1 x2 x3 x4 σ = some r) (hr : (Pl_M_countWays_57 G) r Q) : am_AW G M_M_countWays 70 [(4, .int x4), (3, .int x3), (2, .int x2), (1, .int x1), (0, .ref 66)] [] σ Q :=
  am_loop (P := (Pl_M_countWays_57 G)) (L := fun s : Int32 × Int32 × Int32 × Int32 × am_St => [(4, .int s.2.2.2.1), (3, .int s.2.2.1), (2, .int s.2.1), (1, .int s.1), (0, .ref 66)]) (g := fun s => s.2.2.2.2) (fun s o Q e hr => sb_M_countWays_70 G s.1 s.2.1 s.2.2.1 s.2.2.2.1 s.2.2.2.2 o Q e hr) (x1, x2, x3, x4, σ) r Q e hr
noncomputable def b_M_countWays_151 (x1 : Int32) (x2 : Int32) (σ : am_St) : Option ((Int32 × Int32 × am_St) ⊕ ((Int32 × am_St) ⊕ (Int32 × am_St))) :=
  if (σ.1 66 0) ≤ x2 then
    let v1 := x1 + 1
    some (.inr (.inl (v1, σ)))
  else
    if am_ix x2 4 = true then
      if am_ix x2 4 = true then
        let s2 := am_sI σ 84 x2.toNatClampNeg (σ.1 85 x2.toNatClampNeg)
        let v3 := x2 + 1
        some (.inl (x1, v3, s2))
      else none
    else none
noncomputable def f_M_countWays_151 (x1 : Int32) (x2 : Int32) (σ : am_St) : Option ((Int32 × am_St) ⊕ (Int32 × am_St)) := am_lp (fun s : Int32 × Int32 × am_St => b_M_countWays_151 s.1 s.2.1 s.2.2) (x1, x2, σ)
set_option maxRecDepth 100000 in
set_option maxHeartbeats 4000000 in
theorem sb_M_countWays_151 (G : am_G) (x1 : Int32) (x2 : Int32) (σ : am_St) (r : (Int32 × Int32 × am_St) ⊕ ((Int32 × am_St) ⊕ (Int32 × am_St))) (Q : am_AQ) (e : b_M_countWays_151 x1 x2 σ = some r) (hr : Pl_M_countWays_151 G r Q) : am_AW G M_M_countWays 151 [(2, .int x2), (1, .int x1), (0, .ref 66)] [] σ Q :=
  (show am_Snd G M_M_countWays 151 (Pl_M_countWays_151 G) _ from (sn_iload_n (pc := 151) (i := 2) dX12_countWays_151 rfl (sn_aload_n (pc := 152) (i := 0) dX12_countWays_152 rfl (sn_gI (pc := 153) (h := 66) (f := 0) dX12_countWays_153 am_CL_11 sh_66 rfl (Nat.le_of_ble_eq_true rfl) tw_941 (sn_icmp_ge (pc := 156) (tgt := 177) dX12_countWays_156 rfl (sn_iinc (pc := 177) (v := 1) dX12_countWays_177 rfl (Nat.le_of_ble_eq_true rfl) (sn_goto (pc := 180) (tgt := 47) dX12_countWays_180 rfl (sn_lf (pc := 47) (ln_a (i := 0) (q := 66) (ln_i (i := 1) (fun z0 => (ln_end (o := fun τ => (some (.inr (.inl (z0, τ))) : Option ((Int32 × Int32 × am_St) ⊕ ((Int32 × am_St) ⊕ (Int32 × am_St))))) (fun _ _ _ e h => by cases e; exact h)))))))) (sn_aload_n (pc := 159) (i := 0) dX12_countWays_159 rfl (sn_gR (r0 := 84) (pc := 160) (h := 66) (f := 25) dX12_countWays_160 am_CL_11 sh_66 rfl (Nat.le_of_ble_eq_true rfl) tw_966 (sn_iload_n (pc := 163) (i := 2) dX12_countWays_163 rfl (sn_aload_n (pc := 164) (i := 0) dX12_countWays_164 rfl (sn_gR (r0 := 85) (pc := 165) (h := 66) (f := 26) dX12_countWays_165 am_CL_11 sh_66 rfl (Nat.le_of_ble_eq_true rfl) tw_967 (sn_iload_n (pc := 168) (i := 2) dX12_countWays_168 rfl (sn_aI (pc := 169) (h := 85) dX12_countWays_169 sh_85 (sn_sI (pc := 170) (h := 84) dX12_countWays_170 sh_84 (sn_iinc (pc := 171) (v := 1) dX12_countWays_171 rfl (Nat.le_of_ble_eq_true rfl) (sn_goto (pc := 174) (tgt := 151) dX12_countWays_174 rfl (sn_lf (pc := 151) (ln_a (i := 0) (q := 66) (ln_i (i := 1) (fun z0 => (ln_i (i := 2) (fun z1 => (ln_end (o := fun τ => (some (.inl (z0, z1, τ)) : Option ((Int32 × Int32 × am_St) ⊕ ((Int32 × am_St) ⊕ (Int32 × am_St))))) (fun _ _ _ e h => by cases e; exact h))))))))))))))))))))))) _ _ _ _ _ e hr
theorem s_M_countWays_151 (G : am_G) (x1 : Int32) (x2 : Int32) (σ : am_St) (r : (Int32 × am_St) ⊕ (Int32 × am_St)) (Q : am_AQ) (e : f_M_countWays_151 x1 x2 σ = some r) (hr : (Pl_M_countWays_47 G) r Q) : am_AW G M_M_countWays 151 [(2, .int x2), (1, .int x1), (0, .ref 66)] [] σ Q :=
  am_loop (P := (Pl_M_countWays_47 G)) (L := fun s : Int32 × Int32 × am_St => [(2, .int s.2.1), (1, .int s.1), (0, .ref 66)]) (g := fun s => s.2.2) (fun s o Q e hr => sb_M_countWays_151 G s.1 s.2.1 s.2.2 o Q e hr) (x1, x2, σ) r Q e hr
noncomputable def b_M_countWays_57 (x1 : Int32) (x2 : Int32) (σ : am_St) : Option ((Int32 × Int32 × am_St) ⊕ ((Int32 × am_St) ⊕ (Int32 × am_St))) :=
  if (σ.1 66 0) ≤ x2 then
    (f_M_countWays_151 x1 0 σ).map (fun r => .inr r)
  else
    f_M_countWays_70 x1 x2 0 0 σ
noncomputable def f_M_countWays_57 (x1 : Int32) (x2 : Int32) (σ : am_St) : Option ((Int32 × am_St) ⊕ (Int32 × am_St)) := am_lp (fun s : Int32 × Int32 × am_St => b_M_countWays_57 s.1 s.2.1 s.2.2) (x1, x2, σ)
set_option maxRecDepth 100000 in
set_option maxHeartbeats 4000000 in
theorem sb_M_countWays_57 (G : am_G) (x1 : Int32) (x2 : Int32) (σ : am_St) (r : (Int32 × Int32 × am_St) ⊕ ((Int32 × am_St) ⊕ (Int32 × am_St))) (Q : am_AQ) (e : b_M_countWays_57 x1 x2 σ = some r) (hr : Pl_M_countWays_57 G r Q) : am_AW G M_M_countWays 57 [(2, .int x2), (1, .int x1), (0, .ref 66)] [] σ Q :=
  (show am_Snd G M_M_countWays 57 (Pl_M_countWays_57 G) _ from (sn_iload_n (pc := 57) (i := 2) dX12_countWays_57 rfl (sn_aload_n (pc := 58) (i := 0) dX12_countWays_58 rfl (sn_gI (pc := 59) (h := 66) (f := 0) dX12_countWays_59 am_CL_11 sh_66 rfl (Nat.le_of_ble_eq_true rfl) tw_941 (sn_icmp_ge (pc := 62) (tgt := 149) dX12_countWays_62 rfl (sn_iconst (pc := 149) (v := 0) dX12_countWays_149 rfl (sn_istore_n (pc := 150) (i := 2) dX12_countWays_150 rfl (Nat.le_of_ble_eq_true rfl) (sn_lf (pc := 151) (ln_a (i := 0) (q := 66) (ln_i (i := 1) (fun z0 => (ln_i (i := 2) (fun z1 => (ln_end (o := fun τ => ((f_M_countWays_151 z0 z1 τ).map (fun r => .inr r) : Option ((Int32 × Int32 × am_St) ⊕ ((Int32 × am_St) ⊕ (Int32 × am_St))))) (fun _ _ _ e h => by obtain ⟨r9, e9, rfl⟩ := am_map_some e; exact s_M_countWays_151 G z0 z1 _ _ _ e9 h)))))))))) (sn_iconst (pc := 65) (v := 0) dX12_countWays_65 rfl (sn_istore_n (pc := 66) (i := 3) dX12_countWays_66 rfl (Nat.le_of_ble_eq_true rfl) (sn_iconst (pc := 67) (v := 0) dX12_countWays_67 rfl (sn_istore (pc := 68) dX12_countWays_68 (Nat.le_of_ble_eq_true rfl) (sn_lf (pc := 70) (ln_a (i := 0) (q := 66) (ln_i (i := 1) (fun z0 => (ln_i (i := 2) (fun z1 => (ln_i (i := 3) (fun z2 => (ln_i (i := 4) (fun z3 => (ln_end (o := fun τ => f_M_countWays_70 z0 z1 z2 z3 τ) (fun _ _ _ e h => s_M_countWays_70 G z0 z1 z2 z3 _ _ _ e h))))))))))))))))))))) _ _ _ _ _ e hr
theorem s_M_countWays_57 (G : am_G) (x1 : Int32) (x2 : Int32) (σ : am_St) (r : (Int32 × am_St) ⊕ (Int32 × am_St)) (Q : am_AQ) (e : f_M_countWays_57 x1 x2 σ = some r) (hr : (Pl_M_countWays_47 G) r Q) : am_AW G M_M_countWays 57 [(2, .int x2), (1, .int x1), (0, .ref 66)] [] σ Q :=
  am_loop (P := (Pl_M_countWays_47 G)) (L := fun s : Int32 × Int32 × am_St => [(2, .int s.2.1), (1, .int s.1), (0, .ref 66)]) (g := fun s => s.2.2) (fun s o Q e hr => sb_M_countWays_57 G s.1 s.2.1 s.2.2 o Q e hr) (x1, x2, σ) r Q e hr
noncomputable def b_M_countWays_47 (x1 : Int32) (σ : am_St) : Option ((Int32 × am_St) ⊕ (Int32 × am_St)) :=
  if (σ.1 66 1) ≤ x1 then
    some (.inr (((((σ.1 84 0) + (σ.1 84 1)) + (σ.1 84 2)) + (σ.1 84 3), σ)))
  else
    f_M_countWays_57 x1 0 σ
noncomputable def f_M_countWays_47 (x1 : Int32) (σ : am_St) : Option (Int32 × am_St) := am_lp (fun s : Int32 × am_St => b_M_countWays_47 s.1 s.2) (x1, σ)
set_option maxRecDepth 100000 in
set_option maxHeartbeats 4000000 in
theorem sb_M_countWays_47 (G : am_G) (x1 : Int32) (σ : am_St) (r : (Int32 × am_St) ⊕ (Int32 × am_St)) (Q : am_AQ) (e : b_M_countWays_47 x1 σ = some r) (hr : Pl_M_countWays_47 G r Q) : am_AW G M_M_countWays 47 [(1, .int x1), (0, .ref 66)] [] σ Q :=
  (show am_Snd G M_M_countWays 47 (Pl_M_countWays_47 G) _ from (sn_iload_n (pc := 47) (i := 1) dX12_countWays_47 rfl (sn_aload_n (pc := 48) (i := 0) dX12_countWays_48 rfl (sn_gI (pc := 49) (h := 66) (f := 1) dX12_countWays_49 am_CL_11 sh_66 rfl (Nat.le_of_ble_eq_true rfl) tw_942 (sn_icmp_ge (pc := 52) (tgt := 183) dX12_countWays_52 rfl (sn_aload_n (pc := 183) (i := 0) dX12_countWays_183 rfl (sn_gR (r0 := 84) (pc := 184) (h := 66) (f := 25) dX12_countWays_184 am_CL_11 sh_66 rfl (Nat.le_of_ble_eq_true rfl) tw_966 (sn_iconst (pc := 187) (v := 0) dX12_countWays_187 rfl (sn_aI (pc := 188) (h := 84) dX12_countWays_188 sh_84 (sn_aload_n (pc := 189) (i := 0) dX12_countWays_189 rfl (sn_gR (r0 := 84) (pc := 190) (h := 66) (f := 25) dX12_countWays_190 am_CL_11 sh_66 rfl (Nat.le_of_ble_eq_true rfl) tw_966 (sn_iconst (pc := 193) (v := 1) dX12_countWays_193 rfl (sn_aI (pc := 194) (h := 84) dX12_countWays_194 sh_84 (sn_iadd (pc := 195) dX12_countWays_195 (sn_aload_n (pc := 196) (i := 0) dX12_countWays_196 rfl (sn_gR (r0 := 84) (pc := 197) (h := 66) (f := 25) dX12_countWays_197 am_CL_11 sh_66 rfl (Nat.le_of_ble_eq_true rfl) tw_966 (sn_iconst (pc := 200) (v := 2) dX12_countWays_200 rfl (sn_aI (pc := 201) (h := 84) dX12_countWays_201 sh_84 (sn_iadd (pc := 202) dX12_countWays_202 (sn_aload_n (pc := 203) (i := 0) dX12_countWays_203 rfl (sn_gR (r0 := 84) (pc := 204) (h := 66) (f := 25) dX12_countWays_204 am_CL_11 sh_66 rfl (Nat.le_of_ble_eq_true rfl) tw_966 (sn_iconst (pc := 207) (v := 3) dX12_countWays_207 rfl (sn_aI (pc := 208) (h := 84) dX12_countWays_208 sh_84 (sn_iadd (pc := 209) dX12_countWays_209 (sn_reti (pc := 210) (R := fun x τ => (some (.inr ((x, τ))) : Option ((Int32 × am_St) ⊕ (Int32 × am_St)))) dX12_countWays_210 rfl (fun _ _ _ _ e h => by cases e; exact h))))))))))))))))))))) (sn_iconst (pc := 55) (v := 0) dX12_countWays_55 rfl (sn_istore_n (pc := 56) (i := 2) dX12_countWays_56 rfl (Nat.le_of_ble_eq_true rfl) (sn_lf (pc := 57) (ln_a (i := 0) (q := 66) (ln_i (i := 1) (fun z0 => (ln_i (i := 2) (fun z1 => (ln_end (o := fun τ => f_M_countWays_57 z0 z1 τ) (fun _ _ _ e h => s_M_countWays_57 G z0 z1 _ _ _ e h))))))))))))))) _ _ _ _ _ e hr
theorem s_M_countWays_47 (G : am_G) (x1 : Int32) (σ : am_St) (r : Int32 × am_St) (Q : am_AQ) (e : f_M_countWays_47 x1 σ = some r) (hr : am_Pi r Q) : am_AW G M_M_countWays 47 [(1, .int x1), (0, .ref 66)] [] σ Q :=
  am_loop (P := am_Pi) (L := fun s : Int32 × am_St => [(1, .int s.1), (0, .ref 66)]) (g := fun s => s.2) (fun s o Q e hr => sb_M_countWays_47 G s.1 s.2 o Q e hr) (x1, σ) r Q e hr
noncomputable def b_M_countWays_2 (x1 : Int32) (σ : am_St) : Option ((Int32 × am_St) ⊕ (Int32 × am_St)) :=
  if 4 ≤ x1 then
    (f_M_countWays_47 1 σ).map (fun r => .inr r)
  else
    if (σ.1 66 0) ≤ x1 then
      f_M_countWays_37 x1 x1 σ
    else
      (f_M_has (σ.1 83 0) x1 σ).bind (fun p1 =>
        if p1.1 = 0 then
          f_M_countWays_37 x1 x1 p1.2
        else
          f_M_countWays_38 x1 x1 1 p1.2)
noncomputable def f_M_countWays_2 (x1 : Int32) (σ : am_St) : Option (Int32 × am_St) := am_lp (fun s : Int32 × am_St => b_M_countWays_2 s.1 s.2) (x1, σ)
set_option maxRecDepth 100000 in
set_option maxHeartbeats 4000000 in
theorem sb_M_countWays_2 (G : am_G) (x1 : Int32) (σ : am_St) (r : (Int32 × am_St) ⊕ (Int32 × am_St)) (Q : am_AQ) (e : b_M_countWays_2 x1 σ = some r) (hr : Pl_M_countWays_2 G r Q) : am_AW G M_M_countWays 2 [(1, .int x1), (0, .ref 66)] [] σ Q :=
  (show am_Snd G M_M_countWays 2 (Pl_M_countWays_2 G) _ from (sn_iload_n (pc := 2) (i := 1) dX12_countWays_2 rfl (sn_iconst (pc := 3) (v := 4) dX12_countWays_3 rfl (sn_icmp_ge (pc := 4) (tgt := 45) dX12_countWays_4 rfl (sn_iconst (pc := 45) (v := 1) dX12_countWays_45 rfl (sn_istore_n (pc := 46) (i := 1) dX12_countWays_46 rfl (Nat.le_of_ble_eq_true rfl) (sn_lf (pc := 47) (ln_a (i := 0) (q := 66) (ln_i (i := 1) (fun z0 => (ln_end (o := fun τ => ((f_M_countWays_47 z0 τ).map (fun r => .inr r) : Option ((Int32 × am_St) ⊕ (Int32 × am_St)))) (fun _ _ _ e h => by obtain ⟨r9, e9, rfl⟩ := am_map_some e; exact s_M_countWays_47 G z0 _ _ _ e9 h)))))))) (sn_aload_n (pc := 7) (i := 0) dX12_countWays_7 rfl (sn_gR (r0 := 84) (pc := 8) (h := 66) (f := 25) dX12_countWays_8 am_CL_11 sh_66 rfl (Nat.le_of_ble_eq_true rfl) tw_966 (sn_iload_n (pc := 11) (i := 1) dX12_countWays_11 rfl (sn_iload_n (pc := 12) (i := 1) dX12_countWays_12 rfl (sn_aload_n (pc := 13) (i := 0) dX12_countWays_13 rfl (sn_gI (pc := 14) (h := 66) (f := 0) dX12_countWays_14 am_CL_11 sh_66 rfl (Nat.le_of_ble_eq_true rfl) tw_941 (sn_icmp_ge (pc := 17) (tgt := 37) dX12_countWays_17 rfl (sn_lf (pc := 37) (ln_a (i := 0) (q := 66) (ln_i (i := 1) (fun z0 => (ln_si (fun w1 => (ln_sa (q := 84) (ln_end (o := fun τ => f_M_countWays_37 z0 w1 τ) (fun _ _ _ e h => s_M_countWays_37 G z0 w1 _ _ _ e h))))))))) (sn_aload_n (pc := 20) (i := 0) dX12_countWays_20 rfl (sn_gR (r0 := 83) (pc := 21) (h := 66) (f := 24) dX12_countWays_21 am_CL_11 sh_66 rfl (Nat.le_of_ble_eq_true rfl) tw_965 (sn_iconst (pc := 24) (v := 0) dX12_countWays_24 rfl (sn_aI (pc := 25) (h := 83) dX12_countWays_25 sh_83 (sn_iload_n (pc := 26) (i := 1) dX12_countWays_26 rfl (sn_callS (pc := 27) (N := M_M_has) dX12_countWays_27 (cal_M_has G) tw_1170 tw_1171 tw_12 tw_1172 dsc_X12_has rfl (sn_if_eq (pc := 30) (tgt := 37) dX12_countWays_30 rfl (sn_lf (pc := 37) (ln_a (i := 0) (q := 66) (ln_i (i := 1) (fun z0 => (ln_si (fun w1 => (ln_sa (q := 84) (ln_end (o := fun τ => f_M_countWays_37 z0 w1 τ) (fun _ _ _ e h => s_M_countWays_37 G z0 w1 _ _ _ e h))))))))) (sn_iconst (pc := 33) (v := 1) dX12_countWays_33 rfl (sn_goto (pc := 34) (tgt := 38) dX12_countWays_34 rfl (sn_lf (pc := 38) (ln_a (i := 0) (q := 66) (ln_i (i := 1) (fun z0 => (ln_si (fun w2 => (ln_si (fun w1 => (ln_sa (q := 84) (ln_end (o := fun τ => f_M_countWays_38 z0 w1 w2 τ) (fun _ _ _ e h => s_M_countWays_38 G z0 w1 w2 _ _ _ e h))))))))))))))))))))))))))))))) _ _ _ _ _ e hr
theorem s_M_countWays_2 (G : am_G) (x1 : Int32) (σ : am_St) (r : Int32 × am_St) (Q : am_AQ) (e : f_M_countWays_2 x1 σ = some r) (hr : am_Pi r Q) : am_AW G M_M_countWays 2 [(1, .int x1), (0, .ref 66)] [] σ Q :=
  am_loop (P := am_Pi) (L := fun s : Int32 × am_St => [(1, .int s.1), (0, .ref 66)]) (g := fun s => s.2) (fun s o Q e hr => sb_M_countWays_2 G s.1 s.2 o Q e hr) (x1, σ) r Q e hr
noncomputable def g_M_countWays (σ : am_St) : Option (Int32 × am_St) :=
  f_M_countWays_2 0 σ
noncomputable def f_M_countWays (σ : am_St) : Option (Int32 × am_St) := am_lk (g_M_countWays  σ)
theorem eq_M_countWays (σ : am_St) : f_M_countWays  σ = g_M_countWays  σ := am_lk_eq _
set_option maxRecDepth 100000 in
set_option maxHeartbeats 4000000 in
theorem s_M_countWays (G : am_G) (σ : am_St) (r : Int32 × am_St) (Q : am_AQ) (e : f_M_countWays  σ = some r) (hr : am_Pi r Q) : am_AW G M_M_countWays 0 [(0, .ref 66)] [] σ Q :=
  (show am_Snd G M_M_countWays 0 am_Pi _ from (sn_iconst (pc := 0) (v := 0) dX12_countWays_0 rfl (sn_istore_n (pc := 1) (i := 1) dX12_countWays_1 rfl (Nat.le_of_ble_eq_true rfl) (sn_lf (pc := 2) (ln_a (i := 0) (q := 66) (ln_i (i := 1) (fun z0 => (ln_end (o := fun τ => f_M_countWays_2 z0 τ) (fun _ _ _ e h => s_M_countWays_2 G z0 _ _ _ e h))))))))) _ _ _ _ _ ((eq_M_countWays  σ).symm.trans e) hr
noncomputable def cF_M_countWays : am_Fn := fun _ args σ K => match args with
  | [.ref q0] => match Nat.beq q0 66 with
    | true => (f_M_countWays σ).bind (fun p => K (some (.int p.1)) p.2)
    | _ => none
  | _ => none
theorem cal_M_countWays (G : am_G) : am_Cal G M_M_countWays cF_M_countWays := by
  intro ρ args σ K r e
  unfold cF_M_countWays at e
  split at e
  · split at e
    · rename_i hq0
      obtain ⟨p, h1, h2⟩ := am_bind_some e
      rw [Nat.eq_of_beq_eq_true hq0]
      exact ⟨some (.int p.1), p.2, am_Met.of rfl (Nat.le_of_ble_eq_true rfl) (s_M_countWays G  σ p _ h1 ⟨rfl, rfl⟩), h2⟩
    · cases e
  · cases e
abbrev M_M_waysOf : am_MD := (yX12_waysOf, cX12_waysOf, 2, (some .int), 2, 45)
theorem dX12_waysOf_0 : decode cX12_waysOf 0 = .ok (.aload_n 0, 1) := by decide +kernel
theorem dX12_waysOf_1 : decode cX12_waysOf 1 = .ok (.iload_n 1, 1) := by decide +kernel
theorem dX12_waysOf_2 : decode cX12_waysOf 2 = .ok (.invokevirtual 119, 3) := by decide +kernel
theorem dX12_waysOf_5 : decode cX12_waysOf 5 = .ok (.aload_n 0, 1) := by decide +kernel
theorem dX12_waysOf_6 : decode cX12_waysOf 6 = .ok (.invokevirtual 123, 3) := by decide +kernel
theorem dX12_waysOf_9 : decode cX12_waysOf 9 = .ok (.ireturn, 1) := by decide +kernel
noncomputable def g_M_waysOf (x1 : Int32) (σ : am_St) : Option (Int32 × am_St) :=
  (f_M_layMay x1 σ).bind (fun p1 =>
    (f_M_countWays p1).bind (fun p2 =>
      some ((p2.1, p2.2))))
noncomputable def f_M_waysOf (x1 : Int32) (σ : am_St) : Option (Int32 × am_St) := am_lk (g_M_waysOf x1 σ)
theorem eq_M_waysOf (x1 : Int32) (σ : am_St) : f_M_waysOf x1 σ = g_M_waysOf x1 σ := am_lk_eq _
set_option maxRecDepth 100000 in
set_option maxHeartbeats 4000000 in
theorem s_M_waysOf (G : am_G) (x1 : Int32) (σ : am_St) (r : Int32 × am_St) (Q : am_AQ) (e : f_M_waysOf x1 σ = some r) (hr : am_Pi r Q) : am_AW G M_M_waysOf 0 [(0, .ref 66), (1, .int x1)] [] σ Q :=
  (show am_Snd G M_M_waysOf 0 am_Pi _ from (sn_aload_n (pc := 0) (i := 0) dX12_waysOf_0 rfl (sn_iload_n (pc := 1) (i := 1) dX12_waysOf_1 rfl (sn_callV (pc := 2) (N := M_M_layMay) dX12_waysOf_2 (cal_M_layMay G) sh_66 rfl tw_1162 tw_1164 tp_38 tw_12 tw_1165 dsc_X12_layMay rfl (sn_aload_n (pc := 5) (i := 0) dX12_waysOf_5 rfl (sn_callV (pc := 6) (N := M_M_countWays) dX12_waysOf_6 (cal_M_countWays G) sh_66 rfl tw_1166 tw_1168 tp_39 tw_12 tw_1169 dsc_X12_countWays rfl (sn_reti (pc := 9) (R := fun x τ => (some ((x, τ)))) dX12_waysOf_9 rfl (fun _ _ _ _ e h => by cases e; exact h)))))))) _ _ _ _ _ ((eq_M_waysOf x1 σ).symm.trans e) hr
noncomputable def cF_M_waysOf : am_Fn := fun _ args σ K => match args with
  | [.ref q0, .int z1] => match Nat.beq q0 66 with
    | true => (f_M_waysOf z1 σ).bind (fun p => K (some (.int p.1)) p.2)
    | _ => none
  | _ => none
theorem cal_M_waysOf (G : am_G) : am_Cal G M_M_waysOf cF_M_waysOf := by
  intro ρ args σ K r e
  unfold cF_M_waysOf at e
  split at e
  · split at e
    · rename_i hq0
      obtain ⟨p, h1, h2⟩ := am_bind_some e
      rw [Nat.eq_of_beq_eq_true hq0]
      exact ⟨some (.int p.1), p.2, am_Met.of rfl (Nat.le_of_ble_eq_true rfl) (s_M_waysOf G _ σ p _ h1 ⟨rfl, rfl⟩), h2⟩
    · cases e
  · cases e
abbrev M_M_haveAllWays : am_MD := (yX12_haveAllWays, cX12_haveAllWays, 3, (some .boolean), 3, 66)
theorem dX12_haveAllWays_0 : decode cX12_haveAllWays 0 = .ok (.iconst 1, 1) := by decide +kernel
theorem dX12_haveAllWays_1 : decode cX12_haveAllWays 1 = .ok (.istore_n 1, 1) := by decide +kernel
theorem dX12_haveAllWays_2 : decode cX12_haveAllWays 2 = .ok (.iconst 0, 1) := by decide +kernel
theorem dX12_haveAllWays_3 : decode cX12_haveAllWays 3 = .ok (.istore_n 2, 1) := by decide +kernel
theorem dX12_haveAllWays_4 : decode cX12_haveAllWays 4 = .ok (.iload_n 2, 1) := by decide +kernel
theorem dX12_haveAllWays_5 : decode cX12_haveAllWays 5 = .ok (.aload_n 0, 1) := by decide +kernel
theorem dX12_haveAllWays_6 : decode cX12_haveAllWays 6 = .ok (.getfield 105, 3) := by decide +kernel
theorem dX12_haveAllWays_9 : decode cX12_haveAllWays 9 = .ok (.if_icmp .ge 27, 3) := by decide +kernel
theorem dX12_haveAllWays_12 : decode cX12_haveAllWays 12 = .ok (.iload_n 1, 1) := by decide +kernel
theorem dX12_haveAllWays_13 : decode cX12_haveAllWays 13 = .ok (.ifCond .eq 15, 3) := by decide +kernel
theorem dX12_haveAllWays_16 : decode cX12_haveAllWays 16 = .ok (.aload_n 0, 1) := by decide +kernel
theorem dX12_haveAllWays_17 : decode cX12_haveAllWays 17 = .ok (.iload_n 2, 1) := by decide +kernel
theorem dX12_haveAllWays_18 : decode cX12_haveAllWays 18 = .ok (.invokevirtual 137, 3) := by decide +kernel
theorem dX12_haveAllWays_21 : decode cX12_haveAllWays 21 = .ok (.ifCond .le 7, 3) := by decide +kernel
theorem dX12_haveAllWays_24 : decode cX12_haveAllWays 24 = .ok (.iconst 1, 1) := by decide +kernel
theorem dX12_haveAllWays_25 : decode cX12_haveAllWays 25 = .ok (.goto 4, 3) := by decide +kernel
theorem dX12_haveAllWays_28 : decode cX12_haveAllWays 28 = .ok (.iconst 0, 1) := by decide +kernel
theorem dX12_haveAllWays_29 : decode cX12_haveAllWays 29 = .ok (.istore_n 1, 1) := by decide +kernel
theorem dX12_haveAllWays_30 : decode cX12_haveAllWays 30 = .ok (.iinc 2 1, 3) := by decide +kernel
theorem dX12_haveAllWays_33 : decode cX12_haveAllWays 33 = .ok (.goto (-29), 3) := by decide +kernel
theorem dX12_haveAllWays_36 : decode cX12_haveAllWays 36 = .ok (.iload_n 1, 1) := by decide +kernel
theorem dX12_haveAllWays_37 : decode cX12_haveAllWays 37 = .ok (.ireturn, 1) := by decide +kernel
abbrev Pl_M_haveAllWays_4 (G : am_G) : ((Int32 × Int32 × am_St) ⊕ (Int32 × am_St)) → am_AQ → Prop := am_PL G M_M_haveAllWays 4 (fun s : Int32 × Int32 × am_St => [(2, .int s.2.1), (1, .int s.1), (0, .ref 66)]) (fun s => s.2.2) am_Pi
noncomputable def g_M_haveAllWays_29 (x2 : Int32) (y0 : Int32) (σ : am_St) : Option ((Int32 × Int32 × am_St) ⊕ (Int32 × am_St)) :=
  let v1 := x2 + 1
  some (.inl (y0, v1, σ))
noncomputable def f_M_haveAllWays_29 (x2 : Int32) (y0 : Int32) (σ : am_St) : Option ((Int32 × Int32 × am_St) ⊕ (Int32 × am_St)) := am_lk (g_M_haveAllWays_29 x2 y0 σ)
theorem eq_M_haveAllWays_29 (x2 : Int32) (y0 : Int32) (σ : am_St) : f_M_haveAllWays_29 x2 y0 σ = g_M_haveAllWays_29 x2 y0 σ := am_lk_eq _
set_option maxRecDepth 100000 in
set_option maxHeartbeats 4000000 in
theorem s_M_haveAllWays_29 (G : am_G) (x2 : Int32) (y0 : Int32) (σ : am_St) (r : (Int32 × Int32 × am_St) ⊕ (Int32 × am_St)) (Q : am_AQ) (e : f_M_haveAllWays_29 x2 y0 σ = some r) (hr : (Pl_M_haveAllWays_4 G) r Q) : am_AW G M_M_haveAllWays 29 [(2, .int x2), (0, .ref 66)] [.int y0] σ Q :=
  (show am_Snd G M_M_haveAllWays 29 (Pl_M_haveAllWays_4 G) _ from (sn_istore_n (pc := 29) (i := 1) dX12_haveAllWays_29 rfl (Nat.le_of_ble_eq_true rfl) (sn_iinc (pc := 30) (v := 1) dX12_haveAllWays_30 rfl (Nat.le_of_ble_eq_true rfl) (sn_goto (pc := 33) (tgt := 4) dX12_haveAllWays_33 rfl (sn_lf (pc := 4) (ln_a (i := 0) (q := 66) (ln_i (i := 1) (fun z0 => (ln_i (i := 2) (fun z1 => (ln_end (o := fun τ => (some (.inl (z0, z1, τ)) : Option ((Int32 × Int32 × am_St) ⊕ (Int32 × am_St)))) (fun _ _ _ e h => by cases e; exact h)))))))))))) _ _ _ _ _ ((eq_M_haveAllWays_29 x2 y0 σ).symm.trans e) hr
noncomputable def g_M_haveAllWays_28 (x2 : Int32) (σ : am_St) : Option ((Int32 × Int32 × am_St) ⊕ (Int32 × am_St)) :=
  f_M_haveAllWays_29 x2 0 σ
noncomputable def f_M_haveAllWays_28 (x2 : Int32) (σ : am_St) : Option ((Int32 × Int32 × am_St) ⊕ (Int32 × am_St)) := am_lk (g_M_haveAllWays_28 x2 σ)
theorem eq_M_haveAllWays_28 (x2 : Int32) (σ : am_St) : f_M_haveAllWays_28 x2 σ = g_M_haveAllWays_28 x2 σ := am_lk_eq _
set_option maxRecDepth 100000 in
set_option maxHeartbeats 4000000 in
theorem s_M_haveAllWays_28 (G : am_G) (x2 : Int32) (σ : am_St) (r : (Int32 × Int32 × am_St) ⊕ (Int32 × am_St)) (Q : am_AQ) (e : f_M_haveAllWays_28 x2 σ = some r) (hr : (Pl_M_haveAllWays_4 G) r Q) : am_AW G M_M_haveAllWays 28 [(2, .int x2), (0, .ref 66)] [] σ Q :=
  (show am_Snd G M_M_haveAllWays 28 (Pl_M_haveAllWays_4 G) _ from (sn_iconst (pc := 28) (v := 0) dX12_haveAllWays_28 rfl (sn_lf (pc := 29) (ln_a (i := 0) (q := 66) (ln_i (i := 2) (fun z0 => (ln_si (fun w0 => (ln_end (o := fun τ => f_M_haveAllWays_29 z0 w0 τ) (fun _ _ _ e h => s_M_haveAllWays_29 G z0 w0 _ _ _ e h)))))))))) _ _ _ _ _ ((eq_M_haveAllWays_28 x2 σ).symm.trans e) hr
noncomputable def b_M_haveAllWays_4 (x1 : Int32) (x2 : Int32) (σ : am_St) : Option ((Int32 × Int32 × am_St) ⊕ (Int32 × am_St)) :=
  if (σ.1 66 2) ≤ x2 then
    if x1 &&& 1 = x1 then some (.inr ((x1, σ))) else none
  else
    if x1 = 0 then
      f_M_haveAllWays_28 x2 σ
    else
      (f_M_waysOf x2 σ).bind (fun p1 =>
        if p1.1 ≤ 0 then
          f_M_haveAllWays_28 x2 p1.2
        else
          f_M_haveAllWays_29 x2 1 p1.2)
noncomputable def f_M_haveAllWays_4 (x1 : Int32) (x2 : Int32) (σ : am_St) : Option (Int32 × am_St) := am_lp (fun s : Int32 × Int32 × am_St => b_M_haveAllWays_4 s.1 s.2.1 s.2.2) (x1, x2, σ)
set_option maxRecDepth 100000 in
set_option maxHeartbeats 4000000 in
theorem sb_M_haveAllWays_4 (G : am_G) (x1 : Int32) (x2 : Int32) (σ : am_St) (r : (Int32 × Int32 × am_St) ⊕ (Int32 × am_St)) (Q : am_AQ) (e : b_M_haveAllWays_4 x1 x2 σ = some r) (hr : Pl_M_haveAllWays_4 G r Q) : am_AW G M_M_haveAllWays 4 [(2, .int x2), (1, .int x1), (0, .ref 66)] [] σ Q :=
  (show am_Snd G M_M_haveAllWays 4 (Pl_M_haveAllWays_4 G) _ from (sn_iload_n (pc := 4) (i := 2) dX12_haveAllWays_4 rfl (sn_aload_n (pc := 5) (i := 0) dX12_haveAllWays_5 rfl (sn_gI (pc := 6) (h := 66) (f := 2) dX12_haveAllWays_6 am_CL_11 sh_66 rfl (Nat.le_of_ble_eq_true rfl) tw_943 (sn_icmp_ge (pc := 9) (tgt := 36) dX12_haveAllWays_9 rfl (sn_iload_n (pc := 36) (i := 1) dX12_haveAllWays_36 rfl (sn_retz (pc := 37) (R := fun x τ => (some (.inr ((x, τ))) : Option ((Int32 × Int32 × am_St) ⊕ (Int32 × am_St)))) dX12_haveAllWays_37 rfl (fun _ _ _ _ e h => by cases e; exact h))) (sn_iload_n (pc := 12) (i := 1) dX12_haveAllWays_12 rfl (sn_if_eq (pc := 13) (tgt := 28) dX12_haveAllWays_13 rfl (sn_lf (pc := 28) (ln_a (i := 0) (q := 66) (ln_i (i := 2) (fun z0 => (ln_end (o := fun τ => f_M_haveAllWays_28 z0 τ) (fun _ _ _ e h => s_M_haveAllWays_28 G z0 _ _ _ e h)))))) (sn_aload_n (pc := 16) (i := 0) dX12_haveAllWays_16 rfl (sn_iload_n (pc := 17) (i := 2) dX12_haveAllWays_17 rfl (sn_callV (pc := 18) (N := M_M_waysOf) dX12_haveAllWays_18 (cal_M_waysOf G) sh_66 rfl tw_1158 tw_1160 tp_37 tw_12 tw_1161 dsc_X12_waysOf rfl (sn_if_le (pc := 21) (tgt := 28) dX12_haveAllWays_21 rfl (sn_lf (pc := 28) (ln_a (i := 0) (q := 66) (ln_i (i := 2) (fun z0 => (ln_end (o := fun τ => f_M_haveAllWays_28 z0 τ) (fun _ _ _ e h => s_M_haveAllWays_28 G z0 _ _ _ e h)))))) (sn_iconst (pc := 24) (v := 1) dX12_haveAllWays_24 rfl (sn_goto (pc := 25) (tgt := 29) dX12_haveAllWays_25 rfl (sn_lf (pc := 29) (ln_a (i := 0) (q := 66) (ln_i (i := 2) (fun z0 => (ln_si (fun w0 => (ln_end (o := fun τ => f_M_haveAllWays_29 z0 w0 τ) (fun _ _ _ e h => s_M_haveAllWays_29 G z0 w0 _ _ _ e h))))))))))))))))))))) _ _ _ _ _ e hr
theorem s_M_haveAllWays_4 (G : am_G) (x1 : Int32) (x2 : Int32) (σ : am_St) (r : Int32 × am_St) (Q : am_AQ) (e : f_M_haveAllWays_4 x1 x2 σ = some r) (hr : am_Pi r Q) : am_AW G M_M_haveAllWays 4 [(2, .int x2), (1, .int x1), (0, .ref 66)] [] σ Q :=
  am_loop (P := am_Pi) (L := fun s : Int32 × Int32 × am_St => [(2, .int s.2.1), (1, .int s.1), (0, .ref 66)]) (g := fun s => s.2.2) (fun s o Q e hr => sb_M_haveAllWays_4 G s.1 s.2.1 s.2.2 o Q e hr) (x1, x2, σ) r Q e hr
noncomputable def g_M_haveAllWays (σ : am_St) : Option (Int32 × am_St) :=
  f_M_haveAllWays_4 1 0 σ
noncomputable def f_M_haveAllWays (σ : am_St) : Option (Int32 × am_St) := am_lk (g_M_haveAllWays  σ)
theorem eq_M_haveAllWays (σ : am_St) : f_M_haveAllWays  σ = g_M_haveAllWays  σ := am_lk_eq _
set_option maxRecDepth 100000 in
set_option maxHeartbeats 4000000 in
theorem s_M_haveAllWays (G : am_G) (σ : am_St) (r : Int32 × am_St) (Q : am_AQ) (e : f_M_haveAllWays  σ = some r) (hr : am_Pi r Q) : am_AW G M_M_haveAllWays 0 [(0, .ref 66)] [] σ Q :=
  (show am_Snd G M_M_haveAllWays 0 am_Pi _ from (sn_iconst (pc := 0) (v := 1) dX12_haveAllWays_0 rfl (sn_istore_n (pc := 1) (i := 1) dX12_haveAllWays_1 rfl (Nat.le_of_ble_eq_true rfl) (sn_iconst (pc := 2) (v := 0) dX12_haveAllWays_2 rfl (sn_istore_n (pc := 3) (i := 2) dX12_haveAllWays_3 rfl (Nat.le_of_ble_eq_true rfl) (sn_lf (pc := 4) (ln_a (i := 0) (q := 66) (ln_i (i := 1) (fun z0 => (ln_i (i := 2) (fun z1 => (ln_end (o := fun τ => f_M_haveAllWays_4 z0 z1 τ) (fun _ _ _ e h => s_M_haveAllWays_4 G z0 z1 _ _ _ e h))))))))))))) _ _ _ _ _ ((eq_M_haveAllWays  σ).symm.trans e) hr
noncomputable def cF_M_haveAllWays : am_Fn := fun _ args σ K => match args with
  | [.ref q0] => match Nat.beq q0 66 with
    | true => (f_M_haveAllWays σ).bind (fun p => K (some (.int p.1)) p.2)
    | _ => none
  | _ => none
theorem cal_M_haveAllWays (G : am_G) : am_Cal G M_M_haveAllWays cF_M_haveAllWays := by
  intro ρ args σ K r e
  unfold cF_M_haveAllWays at e
  split at e
  · split at e
    · rename_i hq0
      obtain ⟨p, h1, h2⟩ := am_bind_some e
      rw [Nat.eq_of_beq_eq_true hq0]
      exact ⟨some (.int p.1), p.2, am_Met.of rfl (Nat.le_of_ble_eq_true rfl) (s_M_haveAllWays G  σ p _ h1 ⟨rfl, rfl⟩), h2⟩
    · cases e
  · cases e
abbrev M_M_doorComes : am_MD := (yX12_doorComes, cX12_doorComes, 3, (some .boolean), 4, 88)
theorem dX12_doorComes_0 : decode cX12_doorComes 0 = .ok (.aload_n 0, 1) := by decide +kernel
theorem dX12_doorComes_1 : decode cX12_doorComes 1 = .ok (.iload_n 1, 1) := by decide +kernel
theorem dX12_doorComes_2 : decode cX12_doorComes 2 = .ok (.invokevirtual 195, 3) := by decide +kernel
theorem dX12_doorComes_5 : decode cX12_doorComes 5 = .ok (.ifCond .eq 16, 3) := by decide +kernel
theorem dX12_doorComes_8 : decode cX12_doorComes 8 = .ok (.aload_n 0, 1) := by decide +kernel
theorem dX12_doorComes_9 : decode cX12_doorComes 9 = .ok (.iload_n 2, 1) := by decide +kernel
theorem dX12_doorComes_10 : decode cX12_doorComes 10 = .ok (.invokevirtual 195, 3) := by decide +kernel
theorem dX12_doorComes_13 : decode cX12_doorComes 13 = .ok (.ifCond .eq 8, 3) := by decide +kernel
theorem dX12_doorComes_16 : decode cX12_doorComes 16 = .ok (.iload_n 1, 1) := by decide +kernel
theorem dX12_doorComes_17 : decode cX12_doorComes 17 = .ok (.iload_n 2, 1) := by decide +kernel
theorem dX12_doorComes_18 : decode cX12_doorComes 18 = .ok (.if_icmp .ne 5, 3) := by decide +kernel
theorem dX12_doorComes_21 : decode cX12_doorComes 21 = .ok (.iconst 0, 1) := by decide +kernel
theorem dX12_doorComes_22 : decode cX12_doorComes 22 = .ok (.ireturn, 1) := by decide +kernel
theorem dX12_doorComes_23 : decode cX12_doorComes 23 = .ok (.aload_n 0, 1) := by decide +kernel
theorem dX12_doorComes_24 : decode cX12_doorComes 24 = .ok (.getfield 16, 3) := by decide +kernel
theorem dX12_doorComes_27 : decode cX12_doorComes 27 = .ok (.iload_n 1, 1) := by decide +kernel
theorem dX12_doorComes_28 : decode cX12_doorComes 28 = .ok (.dup2, 1) := by decide +kernel
theorem dX12_doorComes_29 : decode cX12_doorComes 29 = .ok (.iaload, 1) := by decide +kernel
theorem dX12_doorComes_30 : decode cX12_doorComes 30 = .ok (.iconst 1, 1) := by decide +kernel
theorem dX12_doorComes_31 : decode cX12_doorComes 31 = .ok (.iload_n 2, 1) := by decide +kernel
theorem dX12_doorComes_32 : decode cX12_doorComes 32 = .ok (.ishl, 1) := by decide +kernel
theorem dX12_doorComes_33 : decode cX12_doorComes 33 = .ok (.ixor, 1) := by decide +kernel
theorem dX12_doorComes_34 : decode cX12_doorComes 34 = .ok (.iastore, 1) := by decide +kernel
theorem dX12_doorComes_35 : decode cX12_doorComes 35 = .ok (.aload_n 0, 1) := by decide +kernel
theorem dX12_doorComes_36 : decode cX12_doorComes 36 = .ok (.getfield 16, 3) := by decide +kernel
theorem dX12_doorComes_39 : decode cX12_doorComes 39 = .ok (.iload_n 2, 1) := by decide +kernel
theorem dX12_doorComes_40 : decode cX12_doorComes 40 = .ok (.dup2, 1) := by decide +kernel
theorem dX12_doorComes_41 : decode cX12_doorComes 41 = .ok (.iaload, 1) := by decide +kernel
theorem dX12_doorComes_42 : decode cX12_doorComes 42 = .ok (.iconst 1, 1) := by decide +kernel
theorem dX12_doorComes_43 : decode cX12_doorComes 43 = .ok (.iload_n 1, 1) := by decide +kernel
theorem dX12_doorComes_44 : decode cX12_doorComes 44 = .ok (.ishl, 1) := by decide +kernel
theorem dX12_doorComes_45 : decode cX12_doorComes 45 = .ok (.ixor, 1) := by decide +kernel
theorem dX12_doorComes_46 : decode cX12_doorComes 46 = .ok (.iastore, 1) := by decide +kernel
theorem dX12_doorComes_47 : decode cX12_doorComes 47 = .ok (.aload_n 0, 1) := by decide +kernel
theorem dX12_doorComes_48 : decode cX12_doorComes 48 = .ok (.invokevirtual 199, 3) := by decide +kernel
theorem dX12_doorComes_51 : decode cX12_doorComes 51 = .ok (.ireturn, 1) := by decide +kernel
noncomputable def g_M_doorComes_35 (x1 : Int32) (x2 : Int32) (σ : am_St) : Option (Int32 × am_St) :=
  if am_ix x2 4 = true then
    if am_ix x2 4 = true then
      let s1 := am_sI σ 67 x2.toNatClampNeg ((σ.1 67 x2.toNatClampNeg) ^^^ (1 <<< (x1 &&& 31)))
      (f_M_haveAllWays s1).bind (fun p2 =>
        if p2.1 &&& 1 = p2.1 then some ((p2.1, p2.2)) else none)
    else none
  else none
noncomputable def f_M_doorComes_35 (x1 : Int32) (x2 : Int32) (σ : am_St) : Option (Int32 × am_St) := am_lk (g_M_doorComes_35 x1 x2 σ)
theorem eq_M_doorComes_35 (x1 : Int32) (x2 : Int32) (σ : am_St) : f_M_doorComes_35 x1 x2 σ = g_M_doorComes_35 x1 x2 σ := am_lk_eq _
set_option maxRecDepth 100000 in
set_option maxHeartbeats 4000000 in
theorem s_M_doorComes_35 (G : am_G) (x1 : Int32) (x2 : Int32) (σ : am_St) (r : Int32 × am_St) (Q : am_AQ) (e : f_M_doorComes_35 x1 x2 σ = some r) (hr : am_Pi r Q) : am_AW G M_M_doorComes 35 [(2, .int x2), (1, .int x1), (0, .ref 66)] [] σ Q :=
  (show am_Snd G M_M_doorComes 35 am_Pi _ from (sn_aload_n (pc := 35) (i := 0) dX12_doorComes_35 rfl (sn_gR (r0 := 67) (pc := 36) (h := 66) (f := 7) dX12_doorComes_36 am_CL_11 sh_66 rfl (Nat.le_of_ble_eq_true rfl) tw_948 (sn_iload_n (pc := 39) (i := 2) dX12_doorComes_39 rfl (sn_dup2 (pc := 40) dX12_doorComes_40 (sn_aI (pc := 41) (h := 67) dX12_doorComes_41 sh_67 (sn_iconst (pc := 42) (v := 1) dX12_doorComes_42 rfl (sn_iload_n (pc := 43) (i := 1) dX12_doorComes_43 rfl (sn_ishl (pc := 44) dX12_doorComes_44 (sn_ixor (pc := 45) dX12_doorComes_45 (sn_sI (pc := 46) (h := 67) dX12_doorComes_46 sh_67 (sn_aload_n (pc := 47) (i := 0) dX12_doorComes_47 rfl (sn_callV (pc := 48) (N := M_M_haveAllWays) dX12_doorComes_48 (cal_M_haveAllWays G) sh_66 rfl tw_1154 tw_1156 tp_36 tw_12 tw_1157 dsc_X12_haveAllWays rfl (sn_retz (pc := 51) (R := fun x τ => (some ((x, τ)))) dX12_doorComes_51 rfl (fun _ _ _ _ e h => by cases e; exact h))))))))))))))) _ _ _ _ _ ((eq_M_doorComes_35 x1 x2 σ).symm.trans e) hr
noncomputable def g_M_doorComes (x1 : Int32) (x2 : Int32) (σ : am_St) : Option (Int32 × am_St) :=
  (f_M_isRoom x1 σ).bind (fun p1 =>
    if p1.1 = 0 then
      some ((0, p1.2))
    else
      (f_M_isRoom x2 p1.2).bind (fun p2 =>
        if p2.1 = 0 then
          some ((0, p2.2))
        else
          if x1 = x2 then
            some ((0, p2.2))
          else
            if am_ix x1 4 = true then
              if am_ix x1 4 = true then
                let s3 := am_sI p2.2 67 x1.toNatClampNeg ((p2.2.1 67 x1.toNatClampNeg) ^^^ (1 <<< (x2 &&& 31)))
                f_M_doorComes_35 x1 x2 s3
              else none
            else none))
noncomputable def f_M_doorComes (x1 : Int32) (x2 : Int32) (σ : am_St) : Option (Int32 × am_St) := am_lk (g_M_doorComes x1 x2 σ)
theorem eq_M_doorComes (x1 : Int32) (x2 : Int32) (σ : am_St) : f_M_doorComes x1 x2 σ = g_M_doorComes x1 x2 σ := am_lk_eq _
set_option maxRecDepth 100000 in
set_option maxHeartbeats 4000000 in
theorem s_M_doorComes (G : am_G) (x1 : Int32) (x2 : Int32) (σ : am_St) (r : Int32 × am_St) (Q : am_AQ) (e : f_M_doorComes x1 x2 σ = some r) (hr : am_Pi r Q) : am_AW G M_M_doorComes 0 [(0, .ref 66), (1, .int x1), (2, .int x2)] [] σ Q :=
  (show am_Snd G M_M_doorComes 0 am_Pi _ from (sn_aload_n (pc := 0) (i := 0) dX12_doorComes_0 rfl (sn_iload_n (pc := 1) (i := 1) dX12_doorComes_1 rfl (sn_callV (pc := 2) (N := M_M_isRoom) dX12_doorComes_2 (cal_M_isRoom G) sh_66 rfl tw_1150 tw_1152 tp_35 tw_12 tw_1153 dsc_X12_isRoom rfl (sn_if_eq (pc := 5) (tgt := 21) dX12_doorComes_5 rfl (sn_iconst (pc := 21) (v := 0) dX12_doorComes_21 rfl (sn_retz (pc := 22) (R := fun x τ => (some ((x, τ)))) dX12_doorComes_22 rfl (fun _ _ _ _ e h => by cases e; exact h))) (sn_aload_n (pc := 8) (i := 0) dX12_doorComes_8 rfl (sn_iload_n (pc := 9) (i := 2) dX12_doorComes_9 rfl (sn_callV (pc := 10) (N := M_M_isRoom) dX12_doorComes_10 (cal_M_isRoom G) sh_66 rfl tw_1150 tw_1152 tp_35 tw_12 tw_1153 dsc_X12_isRoom rfl (sn_if_eq (pc := 13) (tgt := 21) dX12_doorComes_13 rfl (sn_iconst (pc := 21) (v := 0) dX12_doorComes_21 rfl (sn_retz (pc := 22) (R := fun x τ => (some ((x, τ)))) dX12_doorComes_22 rfl (fun _ _ _ _ e h => by cases e; exact h))) (sn_iload_n (pc := 16) (i := 1) dX12_doorComes_16 rfl (sn_iload_n (pc := 17) (i := 2) dX12_doorComes_17 rfl (sn_icmp_ne (pc := 18) (tgt := 23) dX12_doorComes_18 rfl (sn_aload_n (pc := 23) (i := 0) dX12_doorComes_23 rfl (sn_gR (r0 := 67) (pc := 24) (h := 66) (f := 7) dX12_doorComes_24 am_CL_11 sh_66 rfl (Nat.le_of_ble_eq_true rfl) tw_948 (sn_iload_n (pc := 27) (i := 1) dX12_doorComes_27 rfl (sn_dup2 (pc := 28) dX12_doorComes_28 (sn_aI (pc := 29) (h := 67) dX12_doorComes_29 sh_67 (sn_iconst (pc := 30) (v := 1) dX12_doorComes_30 rfl (sn_iload_n (pc := 31) (i := 2) dX12_doorComes_31 rfl (sn_ishl (pc := 32) dX12_doorComes_32 (sn_ixor (pc := 33) dX12_doorComes_33 (sn_sI (pc := 34) (h := 67) dX12_doorComes_34 sh_67 (sn_lf (pc := 35) (ln_a (i := 0) (q := 66) (ln_i (i := 1) (fun z0 => (ln_i (i := 2) (fun z1 => (ln_end (o := fun τ => f_M_doorComes_35 z0 z1 τ) (fun _ _ _ e h => s_M_doorComes_35 G z0 z1 _ _ _ e h)))))))))))))))))) (sn_iconst (pc := 21) (v := 0) dX12_doorComes_21 rfl (sn_retz (pc := 22) (R := fun x τ => (some ((x, τ)))) dX12_doorComes_22 rfl (fun _ _ _ _ e h => by cases e; exact h))))))))))))))) _ _ _ _ _ ((eq_M_doorComes x1 x2 σ).symm.trans e) hr
noncomputable def cF_M_doorComes : am_Fn := fun _ args σ K => match args with
  | [.ref q0, .int z1, .int z2] => match Nat.beq q0 66 with
    | true => (f_M_doorComes z1 z2 σ).bind (fun p => K (some (.int p.1)) p.2)
    | _ => none
  | _ => none
theorem cal_M_doorComes (G : am_G) : am_Cal G M_M_doorComes cF_M_doorComes := by
  intro ρ args σ K r e
  unfold cF_M_doorComes at e
  split at e
  · split at e
    · rename_i hq0
      obtain ⟨p, h1, h2⟩ := am_bind_some e
      rw [Nat.eq_of_beq_eq_true hq0]
      exact ⟨some (.int p.1), p.2, am_Met.of rfl (Nat.le_of_ble_eq_true rfl) (s_M_doorComes G _ _ σ p _ h1 ⟨rfl, rfl⟩), h2⟩
    · cases e
  · cases e
