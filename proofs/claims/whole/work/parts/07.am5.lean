/-! calls -/
def am_sum (st : List Value) : Nat := (st.map fun v => v.category).sum
theorem am_sum_cv (ad : Nat → Nat) (st : List Value) : ((st.map (am_cv ad)).map fun v => v.category).sum = am_sum st := by
  unfold am_sum
  rw [List.map_map]
  congr 1
  apply List.map_congr_left
  intro v _
  exact am_cv_cat ad v
theorem am_blind {av : List Value} {sz : Nat} {G : am_G} {σ : am_St} : FrameBlind (va_Pc av (fun U => U.heap.size = sz ∧ va_P G.2.1 am_cl (am_wd G σ) U.heap ∧ va_K G.2.1 am_cl (am_tys G.2.2.1) U ∧ va_D (fun _ => True) (am_wd G σ) ∧ am_NW U)) := by
  intro a U g mk q
  obtain ⟨q0, q1, qP, qK, qD, qN⟩ := q
  exact ⟨q0, q1, qP, va_K.moved (u := U) (U := U.calling g mk a) (Vm.Alike.refl U.vm) qK, qD, qN.call⟩
/-- what a call asks of its room -/
def am_fit (M N : am_MD) : Bool := decide ((am_rm N).frames + 1 ≤ (am_rm M).frames) && decide (8 + (N.2.2.1 + 11) + (am_rm N).locals ≤ (am_rm M).locals)
theorem am_fit_ok {M N : am_MD} (h : am_fit M N = true) : (am_rm N).frames + 1 ≤ (am_rm M).frames ∧ 8 + (N.2.2.1 + 11) + (am_rm N).locals ≤ (am_rm M).locals := by
  simpa [am_fit] using h
def am_dsc (y : MethodName) (n : Nat) : Prop := y.cls ≠ "java/lang/invoke/MethodHandle" ∧ y.cls ≠ "java/lang/invoke/VarHandle" ∧ (parseMethodDescriptor y.desc).map (fun d => d.parameters.length) = some n
section AMC
variable {G : am_G} {M N : am_MD} {pc : Nat} {ρ : Type} {P : ρ → am_AQ → Prop} {k k1 k2 : am_K ρ} {ls : am_Lc} {st : List Value} {σ : am_St} {Q : am_AQ}
variable {p : Program} {e : Env} {s : State} {m : MethodId} {args : Array Value} {below : List Frame} {meth : Method} {c : Code}
theorem am_call {H : Heap} {locs : List Loc} {A : Nat → Prop} {R : Room} {st0 rest : List Value} {lr : Array Slot} {Qx : am_AQ} {a : Array Value} {Qs : State → Prop} (hr : va_Run p G.1 e R s m args below meth c H locs 0 0 0 0 (F0 m pc lr st0) rest (am_Qc G (va_A (am_wd G σ) H.size) Qx a) (va_A (am_wd G σ) H.size)) (hS : va_S A s.heap H locs) (hA : ∀ q : Nat, s.heap.size ≤ q → A q) (hD : va_D A (am_wd G σ))
    (kk : ∀ (v : Option Value) (τ : am_St) (H1 : Heap) (locs1 : List Loc), Qx v τ → va_P G.2.1 am_cl (am_wd G τ) H1 → va_D A (am_wd G τ) → va_S A s.heap H1 locs1 → W p G.1 e R s m args below meth c H1 locs1 0 0 Qs (F0 m (pc + 3) lr ((v.map (am_cv G.2.2.2)).toList ++ rest))) : W p G.1 e R s m args below meth c H locs 0 0 Qs (F0 m pc lr st0) := by
  have hf : ∀ q : Nat, va_A (am_wd G σ) H.size q → A q := by
    intro q h
    rcases h with ⟨i, x, h⟩ | h
    · exact hD.2 i _ h
    · exact hA q (Nat.le_trans hS.1 h)
  intro T hT X
  obtain ⟨v, st₀, t, T', L, h0, X', hL, e1, e2, ⟨⟨w, τ, hv, hq, hP1, hK1, hD1⟩, hz, hk⟩, st⟩ := hr T hT X
  cases hv
  rw [h0] at hz hk
  obtain ⟨t2, a1, b1⟩ := kk w τ T'.heap (locs ++ L) hq (by rw [e1]; exact hP1) (hD1.weaken (fun _ q _ h => hf q.1 h))
    ⟨Nat.le_trans hS.1 (by rw [e1]; exact hz), fun q h1 h2 => by rw [e1, hk q (Nat.lt_of_lt_of_le h1 hS.1) (fun z => h2 (hf q z))]; exact hS.2.1 q h1 h2, fun q hq => by
      rcases List.mem_append.mp hq with h | h
      · exact hS.2.2 q h
      · exact hf _ (hL q h)⟩ T' rfl X'
  exact ⟨t2, st t2 a1, b1⟩
theorem aw_callV {h ci idx n NN : Nat} {As : List Value} {ks : List Nat} {T : u_T} {v : Option Value} {τ : am_St} (d : decode M.2.1 pc = .ok (.invokevirtual idx, 3)) (hM : am_Met G N (.ref h :: As) σ (fun w ω => w = v ∧ ω = τ)) (hs : am_shapes[h]? = some (.inr (ci, ks))) (hc : am_cl[ci]? = some (N.1.cls, T, NN))
    (w1 : am_in (.methodLink M.1.cls idx N.1)) (w2 : am_in (.instanceMethod N.1)) (w3 : am_in (.selects N.1.cls N.1 N.1)) (w4 : am_in (.initialized N.1.cls)) (w5 : am_in (.code N.1 N.2.1 N.2.2.1 N.2.2.2.1)) (hd : am_dsc N.1 n) (hR : am_fit M N = true) (hn : As.length = n) (hW : am_sum st ≤ 8)
    (kk : am_AW G M (pc + 3) ls (v.toList ++ st) τ Q) : am_AW G M pc ls (As.reverse ++ .ref h :: st) σ Q := by
  intro p e s m args below meth c A hC hA H locs lr hP hD hS hl
  obtain ⟨hx, hb, hr, hml, hown, hts, hlk, hK, hN⟩ := id hC
  have hG : GoodIn (am_LT M) (wsV M.1.cls idx N.1.cls N.1 (am_LT N)) := by
    intro w hw
    simp only [wsV, List.cons_append, List.nil_append, List.mem_cons] at hw
    rcases hw with rfl | rfl | rfl | rfl | hw
    · exact ⟨w1.LT, good_of_word w1.2⟩
    · exact ⟨w2.LT, good_of_word w2.2⟩
    · exact ⟨w3.LT, good_of_word w3.2⟩
    · exact ⟨w4.LT, good_of_word w4.2⟩
    · exact am_good w5 w hw
  refine am_call (va_runV (As := As.map (am_cv G.2.2.2)) (rest := st.map (am_cv G.2.2.2)) (b := G.2.2.2 h) ⟨hx, hb, hml, hown, hts⟩ (hM H.size) (cwV n hts hG rfl rfl rfl ⟨rfl, hd⟩ (am_fit_ok hR)) ⟨am_blind, va_recv hK hP hc (am_ws_at hs), fun U hU hW2 => ⟨rfl, by rw [hU], by rw [hU]; exact hP, va_K.moved hW2.alike hK, hD.weaken (fun _ _ _ _ => trivial), hN.warm hW2⟩⟩ rfl (by rw [List.length_map]; exact hn) hl.1 (by simp [am_cv]) (by rw [am_sum_cv]; exact Nat.le_trans (Nat.le_of_eq (Nat.zero_add _)) hW) d ⟨Nat.zero_le _, Nat.zero_le _⟩) hS hA hD ?_
  rintro w ω H1 locs1 ⟨rfl, rfl⟩ hP1 hD1 hS1
  have k9 := kk p e s m args below meth c A hC hA H1 locs1 lr hP1 hD1 hS1 hl
  rw [List.map_append] at k9
  cases w <;> exact k9
theorem aw_callS {idx n : Nat} {As : List Value} {v : Option Value} {τ : am_St} (d : decode M.2.1 pc = .ok (.invokestatic idx, 3)) (hM : am_Met G N As σ (fun w ω => w = v ∧ ω = τ))
    (w1 : am_in (.methodLink M.1.cls idx N.1)) (w2 : am_in (.static N.1)) (w4 : am_in (.initialized N.1.cls)) (w5 : am_in (.code N.1 N.2.1 N.2.2.1 N.2.2.2.1)) (hd : am_dsc N.1 n) (hR : am_fit M N = true) (hn : As.length = n) (hW : am_sum st ≤ 8)
    (kk : am_AW G M (pc + 3) ls (v.toList ++ st) τ Q) : am_AW G M pc ls (As.reverse ++ st) σ Q := by
  intro p e s m args below meth c A hC hA H locs lr hP hD hS hl
  obtain ⟨hx, hb, hr, hml, hown, hts, hlk, hK, hN⟩ := id hC
  have hG : GoodIn (am_LT M) (va_wsS M.1.cls idx N.1 (am_LT N)) := by
    intro w hw
    simp only [va_wsS, List.cons_append, List.nil_append, List.mem_cons] at hw
    rcases hw with rfl | rfl | rfl | hw
    · exact ⟨w1.LT, good_of_word w1.2⟩
    · exact ⟨w2.LT, good_of_word w2.2⟩
    · exact ⟨w4.LT, good_of_word w4.2⟩
    · exact am_good w5 w hw
  refine am_call (va_runS (As := As.map (am_cv G.2.2.2)) (rest := st.map (am_cv G.2.2.2)) ⟨hx, hb, hml, hown, hts⟩ (hM H.size) (va_cwS n hts hG rfl rfl rfl hd (am_fit_ok hR)) ⟨am_blind, fun U hU hW2 => ⟨rfl, by rw [hU], by rw [hU]; exact hP, va_K.moved hW2.alike hK, hD.weaken (fun _ _ _ _ => trivial), hN.warm hW2⟩⟩ rfl (by rw [List.length_map]; exact hn) hl.1 (by simp) (by rw [am_sum_cv]; exact Nat.le_trans (Nat.le_of_eq (Nat.zero_add _)) hW) d ⟨Nat.zero_le _, Nat.zero_le _⟩) hS hA hD ?_
  rintro w ω H1 locs1 ⟨rfl, rfl⟩ hP1 hD1 hS1
  have k9 := kk p e s m args below meth c A hC hA H1 locs1 lr hP1 hD1 hS1 hl
  rw [List.map_append] at k9
  cases w <;> exact k9
theorem aw_callSN {idx n : Nat} {host : String} {As : List Value} {v : Option Value} {τ : am_St} (d : decode M.2.1 pc = .ok (.invokestatic idx, 3)) (hM : am_Met G N As σ (fun w ω => w = v ∧ ω = τ))
    (w1 : (M.1.cls, idx, N.1, host) ∈ am_nest) (w2 : am_in (.static N.1)) (w4 : am_in (.initialized N.1.cls)) (w5 : am_in (.code N.1 N.2.1 N.2.2.1 N.2.2.2.1)) (hd : am_dsc N.1 n) (hR : am_fit M N = true) (hn : As.length = n) (hW : am_sum st ≤ 8)
    (kk : am_AW G M (pc + 3) ls (v.toList ++ st) τ Q) : am_AW G M pc ls (As.reverse ++ st) σ Q := by
  intro p e s m args below meth c A hC hA H locs lr hP hD hS hl
  obtain ⟨hx, hb, hr, hml, hown, hts, hlk, hK, hN⟩ := id hC
  refine am_call (va_runSN (As := As.map (am_cv G.2.2.2)) (rest := st.map (am_cv G.2.2.2)) ⟨hx, hb, hml, hown, hts⟩ (hM H.size) ⟨va_cnB n hts (am_good w5) rfl rfl rfl (hN _ w1) (hts _ w4.LT) hd (am_fit_ok hR), hts _ w2.LT, trivial⟩ ⟨am_blind, fun U hU hW2 => ⟨rfl, by rw [hU], by rw [hU]; exact hP, va_K.moved hW2.alike hK, hD.weaken (fun _ _ _ _ => trivial), hN.warm hW2⟩⟩ rfl (by rw [List.length_map]; exact hn) hl.1 (by simp) (by rw [am_sum_cv]; exact Nat.le_trans (Nat.le_of_eq (Nat.zero_add _)) hW) d ⟨Nat.zero_le _, Nat.zero_le _⟩) hS hA hD ?_
  rintro w ω H1 locs1 ⟨rfl, rfl⟩ hP1 hD1 hS1
  have k9 := kk p e s m args below meth c A hC hA H1 locs1 lr hP1 hD1 hS1 hl
  rw [List.map_append] at k9
  cases w <;> exact k9
/-- a virtual call of x, declared in 'owner', on an object of class C that selects N -/
theorem aw_callO {h ci idx n NN : Nat} {C owner : String} {x : MethodName} {b0 : ByteArray} {m0 : Nat} {r0 : Option FieldType} {As : List Value} {ks : List Nat} {T : u_T} {v : Option Value} {τ : am_St} (d : decode M.2.1 pc = .ok (.invokevirtual idx, 3)) (hM : am_Met G N (.ref h :: As) σ (fun w ω => w = v ∧ ω = τ)) (hs : am_shapes[h]? = some (.inr (ci, ks))) (hc : am_cl[ci]? = some (C, T, NN))
    (w1 : am_in (.methodLink M.1.cls idx x)) (w6 : am_in (.sameMethod x.cls owner x.name x.desc)) (w7 : am_in (.instanceMethod ⟨owner, x.name, x.desc⟩)) (w8 : am_in (.code ⟨owner, x.name, x.desc⟩ b0 m0 r0)) (w2 : am_in (.instanceMethod N.1)) (w3 : am_in (.selects C x N.1)) (w4 : am_in (.initialized N.1.cls)) (w5 : am_in (.code N.1 N.2.1 N.2.2.1 N.2.2.2.1)) (hd : am_dsc ⟨owner, x.name, x.desc⟩ n) (hR : am_fit M N = true) (hn : As.length = n) (hW : am_sum st ≤ 8)
    (kk : am_AW G M (pc + 3) ls (v.toList ++ st) τ Q) : am_AW G M pc ls (As.reverse ++ .ref h :: st) σ Q := by
  intro p e s m args below meth c A hC hA H locs lr hP hD hS hl
  obtain ⟨hx, hb, hr, hml, hown, hts, hlk, hK, hN⟩ := id hC
  have hG : GoodIn (am_LT M) (va_wsO M.1.cls idx C owner x N.1 (am_LT N)) := by
    intro w hw
    simp only [va_wsO, List.cons_append, List.nil_append, List.mem_cons] at hw
    rcases hw with rfl | rfl | rfl | rfl | rfl | rfl | hw
    · exact ⟨w1.LT, good_of_word w1.2⟩
    · exact ⟨w6.LT, good_of_word w6.2⟩
    · exact ⟨w7.LT, good_of_word w7.2⟩
    · exact ⟨w3.LT, good_of_word w3.2⟩
    · exact ⟨w2.LT, good_of_word w2.2⟩
    · exact ⟨w4.LT, good_of_word w4.2⟩
    · exact am_good w5 w hw
  refine am_call (va_runU (As := As.map (am_cv G.2.2.2)) (rest := st.map (am_cv G.2.2.2)) (b := G.2.2.2 h) ⟨hx, hb, hml, hown, hts⟩ (hM H.size) (va_cwO n hts hG rfl rfl rfl w8.LT hd (am_fit_ok hR)) ⟨am_blind, va_recv hK hP hc (am_ws_at hs), fun U hU hW2 => ⟨rfl, by rw [hU], by rw [hU]; exact hP, va_K.moved hW2.alike hK, hD.weaken (fun _ _ _ _ => trivial), hN.warm hW2⟩⟩ rfl (by rw [List.length_map]; exact hn) hl.1 (by simp [am_cv]) (by rw [am_sum_cv]; exact Nat.le_trans (Nat.le_of_eq (Nat.zero_add _)) hW) d ⟨Nat.zero_le _, Nat.zero_le _⟩) hS hA hD ?_
  rintro w ω H1 locs1 ⟨rfl, rfl⟩ hP1 hD1 hS1
  have k9 := kk p e s m args below meth c A hC hA H1 locs1 lr hP1 hD1 hS1 hl
  rw [List.map_append] at k9
  cases w <;> exact k9
/-- super.m(..), declared in the superclass itself -/
theorem aw_callU {h ci idx n NN : Nat} {C : String} {As : List Value} {ks : List Nat} {T : u_T} {v : Option Value} {τ : am_St} (d : decode M.2.1 pc = .ok (.invokespecial idx, 3)) (hM : am_Met G N (.ref h :: As) σ (fun w ω => w = v ∧ ω = τ)) (hs : am_shapes[h]? = some (.inr (ci, ks))) (hc : am_cl[ci]? = some (C, T, NN))
    (w1 : am_in (.methodLink M.1.cls idx N.1)) (w6 : am_in (.sameMethod N.1.cls N.1.cls N.1.name N.1.desc)) (w7 : am_in (.superclass M.1.cls N.1.cls)) (w2 : am_in (.instanceMethod N.1)) (w4 : am_in (.initialized N.1.cls)) (w5 : am_in (.code N.1 N.2.1 N.2.2.1 N.2.2.2.1)) (hd : N.1.name ≠ "<init>" ∧ (parseMethodDescriptor N.1.desc).map (fun d => d.parameters.length) = some n) (hR : am_fit M N = true) (hn : As.length = n) (hW : am_sum st ≤ 8)
    (kk : am_AW G M (pc + 3) ls (v.toList ++ st) τ Q) : am_AW G M pc ls (As.reverse ++ .ref h :: st) σ Q := by
  intro p e s m args below meth c A hC hA H locs lr hP hD hS hl
  obtain ⟨hx, hb, hr, hml, hown, hts, hlk, hK, hN⟩ := id hC
  have hG : GoodIn (am_LT M) (va_wsSU M.1.cls idx N.1 (am_LT N)) := by
    intro w hw
    simp only [va_wsSU, List.cons_append, List.nil_append, List.mem_cons] at hw
    rcases hw with rfl | rfl | rfl | rfl | rfl | hw
    · exact ⟨w1.LT, good_of_word w1.2⟩
    · exact ⟨w6.LT, good_of_word w6.2⟩
    · exact ⟨w7.LT, good_of_word w7.2⟩
    · exact ⟨w2.LT, good_of_word w2.2⟩
    · exact ⟨w4.LT, good_of_word w4.2⟩
    · exact am_good w5 w hw
  refine am_call (va_runSU (As := As.map (am_cv G.2.2.2)) (rest := st.map (am_cv G.2.2.2)) (b := G.2.2.2 h) (hK.1 ci _ hc).2 ⟨hx, hb, hml, hown, hts⟩ (hM H.size) (va_cwSU n hts hG rfl rfl rfl hd (am_fit_ok hR)) ⟨am_blind, va_recv hK hP hc (am_ws_at hs), fun U hU hW2 => ⟨rfl, by rw [hU], by rw [hU]; exact hP, va_K.moved hW2.alike hK, hD.weaken (fun _ _ _ _ => trivial), hN.warm hW2⟩⟩ rfl (by rw [List.length_map]; exact hn) hl.1 (by simp [am_cv]) (by rw [am_sum_cv]; exact Nat.le_trans (Nat.le_of_eq (Nat.zero_add _)) hW) d ⟨Nat.zero_le _, Nat.zero_le _⟩) hS hA hD ?_
  rintro w ω H1 locs1 ⟨rfl, rfl⟩ hP1 hD1 hS1
  have k9 := kk p e s m args below meth c A hC hA H1 locs1 lr hP1 hD1 hS1 hl
  rw [List.map_append] at k9
  cases w <;> exact k9
/-- super.m(..) of a method x that the superclass's own superclass declares -/
theorem am_callSU2 {T : State} {locs : List Loc} {cells slots : Nat} {l : Launch} {R : Room} (X : Stand p l e R s m args below meth c T locs cells slots) (hexec : p.tables.exec = Jvm.exec) {own : String} {index : Nat} {x y : MethodName} {bytes : ByteArray} {maxL : Nat} {ret : Option FieldType}
    (hyx : y = ⟨y.cls, x.name, x.desc⟩) (hown : s.vm.findClass own = some m.cls) (hlink : (Cond.methodLink own index x).before args s = true) (hsame : (Cond.sameMethod x.cls y.cls x.name x.desc).before args s = true) (hsup : (Cond.superclass own x.cls).before args s = true) (hsup2 : (Cond.superclass x.cls y.cls).before args s = true)
    (hinst : (Cond.instanceMethod y).before args s = true) (hcode : (Cond.code y bytes maxL ret).before args s = true) (hno : x.name ≠ "<init>")
    {W : Nat} {Pre : Pt → Array Value → Prop} {Post : Pt → Array Value → Option Value → Pt → Prop} (hK : Back l R p e below s args y 3 W Pre Post)
    {b : Addr} {cellB : Cell} {kB : Class} (hcell : T.heap[b]? = some cellB) (hobj : cellB.vm.isStatics = false) (hkB : s.vm.classes[cellB.cls]? = some kB)
    {g : JFrame} (hg : g.method = m) (hsize : g.locals.size = c.maxLocals) {argsL rest : List Value} (hlen : ∀ sig, parseMethodDescriptor x.desc = some sig → argsL.length = sig.parameters.length)
    (hstack : g.stack = argsL.reverse ++ .ref b :: rest) (hW : 2 * g.monitorRoom + (rest.map fun v => v.category).sum ≤ W) (hdg : decode c.code g.pc = .ok (.invokespecial index, 3))
    (hpre : ∀ vm₁, s.WarmedH vm₁ → Pre ⟨T.setVm vm₁, locs, cells, slots⟩ (Value.ref b :: argsL).toArray) :
    ∃ (v : Option Value) (vm₁ : Vm) (B : Pt), s.WarmedH vm₁ ∧ Stand p l e R s m args below meth c B.U B.locs B.cells B.slots ∧ Post ⟨T.setVm vm₁, locs, cells, slots⟩ (Value.ref b :: argsL).toArray v B ∧
      ∀ target, Steps p.tables e below (B.U.setTop { g with pc := g.pc + 3, stack := v.toList ++ rest }) target → Steps p.tables e below (T.setTop g) target := by
  obtain ⟨mk, methM, hnamed, hmethM, hstM, habM⟩ := Cond.instanceMethod_spec hinst
  obtain ⟨methM', cM, hmethM', -, -, -, -, -, -, hsigM⟩ := Cond.code_spec hnamed hcode
  cases hmethM.symm.trans hmethM'
  obtain ⟨ps, dk, kp, hps, hdk, hkp, hsuper, -, -, hnid⟩ := Cond.superclass_spec hown hsup
  obtain ⟨ps2, dk2, kp2, hps2, hdk2, hkp2, hsuper2, -, -, hnid2⟩ := Cond.superclass_spec hps hsup2
  have hn : s.methodNamed? ⟨y.cls, x.name, x.desc⟩ = some mk := by rw [← hyx]; exact hnamed
  have hpm : ps2 = mk.cls := Option.some.inj (hps2.symm.trans (findClass_of_methodNamed hnamed))
  have hsz : 0 < s.vm.classes.size := Nat.lt_of_le_of_lt (Nat.zero_le _) (Array.getElem?_eq_some_iff.mp hdk2).1
  have hsub : s.vm.isSubclass ps mk.cls = true := by
    rw [← hpm]
    obtain ⟨z, hz⟩ : ∃ z, s.vm.classes.size = z + 1 := ⟨s.vm.classes.size - 1, by omega⟩
    simp [Vm.isSubclass, hz, Vm.isSubclassAux, hdk2, hsuper2]
  have hd2 : y.desc = x.desc := by rw [hyx]
  obtain ⟨vm₁, X₁, hstep₁⟩ := X.invokespecialUp hexec hown hlink hsame hn hmethM hstM habM hno hdk hnid hps hsuper hsub (a := b) (cell := cellB) hcell
    (fun z h => by rw [h] at hobj; cases hobj) hkB (g := g) hg (argsL := argsL) (rest := rest) (hlen _ (by rw [← hd2]; exact hsigM)) hstack hdg
  obtain ⟨v, B, X', hpost, hsteps⟩ := hK m meth c ⟨T.setVm vm₁, locs, cells, slots⟩ { g with stack := rest } (.invokespecial index) mk (Value.ref b :: argsL).toArray X₁ hg hsize hdg hW (X₁.named hnamed) (hpre vm₁ X₁.warmed)
  exact ⟨v, vm₁, B, X₁.warmed, X', hpost, fun target h => hstep₁ _ (by rw [doInvoke_state]; exact hsteps.trans h)⟩
theorem aw_callU2 {h ci idx n NN : Nat} {C : String} {x : MethodName} {As : List Value} {ks : List Nat} {T : u_T} {v : Option Value} {τ : am_St} (d : decode M.2.1 pc = .ok (.invokespecial idx, 3)) (hM : am_Met G N (.ref h :: As) σ (fun w ω => w = v ∧ ω = τ)) (hs : am_shapes[h]? = some (.inr (ci, ks))) (hc : am_cl[ci]? = some (C, T, NN))
    (hyx : N.1 = ⟨N.1.cls, x.name, x.desc⟩) (w1 : am_in (.methodLink M.1.cls idx x)) (w6 : am_in (.sameMethod x.cls N.1.cls x.name x.desc)) (w7 : am_in (.superclass M.1.cls x.cls)) (w8 : am_in (.superclass x.cls N.1.cls)) (w2 : am_in (.instanceMethod N.1)) (w4 : am_in (.initialized N.1.cls)) (w5 : am_in (.code N.1 N.2.1 N.2.2.1 N.2.2.2.1)) (hd : x.name ≠ "<init>" ∧ (parseMethodDescriptor x.desc).map (fun d => d.parameters.length) = some n) (hR : am_fit M N = true) (hn : As.length = n) (hW : am_sum st ≤ 8)
    (kk : am_AW G M (pc + 3) ls (v.toList ++ st) τ Q) : am_AW G M pc ls (As.reverse ++ .ref h :: st) σ Q := by
  intro p e s m args below meth c A hC hA H locs lr hP hD hS hl
  obtain ⟨hx, hb, hr, hml, hown, hts, hlk, hK, hN⟩ := id hC
  have hrun : va_Run p G.1 e (am_rm M) s m args below meth c H locs 0 0 0 0 (F0 m pc lr ((As.reverse ++ .ref h :: st).map (am_cv G.2.2.2))) (st.map (am_cv G.2.2.2)) (am_Qc G (va_A (am_wd G σ) H.size) (fun w ω => w = v ∧ ω = τ) (Value.ref (G.2.2.2 h) :: As.map (am_cv G.2.2.2)).toArray) (va_A (am_wd G σ) H.size) := by
    have hB := back_of (l := G.1) (R := am_rm M) (p := p) (e := e) (below := below) (s := s) (sargs := args) (y := N.1) (len := 3) (W := 8) (bytes := N.2.1) (maxL := N.2.2.1) (ret := N.2.2.2.1) (hM H.size) am_blind rfl rfl (am_fit_ok hR).1 (am_fit_ok hR).2 (pay_in hts (am_good w5)) List.mem_cons_self (fun a' U hW => word_at hW (Or.inl (by first | rfl | simp [Cond.onTables, Cond.keeps, Cond.steady])) (hts _ w4.LT))
    obtain ⟨cellB, hcB, hoB, hclB⟩ := va_recv hK hP hc (am_ws_at hs)
    obtain ⟨hfc, kB, hkB, -⟩ := (hK.1 ci _ hc).2
    have hcc := Option.some.inj (hfc.symm.trans hclB)
    rw [hcc] at hkB
    intro T hT X
    obtain ⟨v9, vm₁, ⟨U', l2, c2, s2⟩, hW₁, X', ⟨g', mk, t, L, e1, e2, hq, h1, hL, h2, h3⟩, st9⟩ := am_callSU2 X hx (bytes := N.2.1) (maxL := N.2.2.1) (ret := N.2.2.2.1) hyx hown (hts _ w1.LT) (hts _ w6.LT) (hts _ w7.LT) (hts _ w8.LT) (hts _ w2.LT) (hts _ w5.LT) hd.1 hB (b := G.2.2.2 h) (by rw [hT]; exact hcB) hoB hkB (g := F0 m pc lr ((As.reverse ++ .ref h :: st).map (am_cv G.2.2.2))) rfl (hl.1.trans hml.symm) (argsL := As.map (am_cv G.2.2.2)) (rest := st.map (am_cv G.2.2.2)) (fun sig h9 => by
        have h2 := hd.2
        rw [h9] at h2
        rw [List.length_map, hn]
        exact (Option.some.inj h2).symm) (by simp [am_cv]) (by rw [am_sum_cv]; exact Nat.le_trans (Nat.le_of_eq (Nat.zero_add _)) hW) (by rw [hb]; exact d)
      (fun vm₁ hW₁ => ⟨Nat.zero_le _, Nat.zero_le _, ⟨rfl, by show T.heap.size = _; rw [hT], by show va_P _ _ _ T.heap; rw [hT]; exact hP, va_K.moved hW₁.alike hK, hD.weaken (fun _ _ _ _ => trivial), hN.warm hW₁⟩⟩)
    dsimp only [Pt.U, Pt.locs, Pt.cells, Pt.slots] at X' e1 e2 h1 h2 h3 st9
    subst h1; subst h2; subst h3
    exact ⟨v9, (T.setVm vm₁).calling g' mk (Value.ref (G.2.2.2 h) :: As.map (am_cv G.2.2.2)).toArray, t, U', L, hT, X', hL, e1, e2, hq, st9⟩
  refine am_call hrun hS hA hD ?_
  rintro w ω H1 locs1 ⟨rfl, rfl⟩ hP1 hD1 hS1
  have k9 := kk p e s m args below meth c A hC hA H1 locs1 lr hP1 hD1 hS1 hl
  rw [List.map_append] at k9
  cases w <;> exact k9
/-- a method as a function: what it answers, and the state behind it -/
abbrev am_Fn : Type 1 := (ρ : Type) → List Value → am_St → (Option Value → am_St → Option ρ) → Option ρ
def am_Cal (G : am_G) (N : am_MD) (F : am_Fn) : Prop := ∀ (ρ : Type) (args : List Value) (σ : am_St) (K : Option Value → am_St → Option ρ) (r : ρ), F ρ args σ K = some r → ∃ v τ, am_Met G N args σ (fun w ω => w = v ∧ ω = τ) ∧ K v τ = some r
/-- a call on the object h, n arguments beside it -/
def ki_call (h n : Nat) (F : am_Fn) (k : am_K ρ) : am_K ρ := fun ls st σ => match (st.take (n + 1)).reverse with
  | .ref q :: As => match Nat.beq q h, Nat.beq As.length n, Nat.ble (am_sum (st.drop (n + 1))) 8 with
    | true, true, true => F ρ (.ref h :: As) σ (fun v τ => k ls (v.toList ++ st.drop (n + 1)) τ)
    | _, _, _ => none
  | _ => none
def ki_calS (n : Nat) (F : am_Fn) (k : am_K ρ) : am_K ρ := fun ls st σ => match Nat.beq (st.take n).reverse.length n, Nat.ble (am_sum (st.drop n)) 8 with
  | true, true => F ρ (st.take n).reverse σ (fun v τ => k ls (v.toList ++ st.drop n) τ)
  | _, _ => none
theorem am_call_st {h n q : Nat} {As : List Value} (e : (st.take (n + 1)).reverse = .ref q :: As) (hq : Nat.beq q h = true) : st = As.reverse ++ .ref h :: st.drop (n + 1) := by
  have e2 := congrArg List.reverse e
  rw [List.reverse_reverse, List.reverse_cons] at e2
  rw [Nat.eq_of_beq_eq_true hq] at e2
  have e3 := List.take_append_drop (n + 1) st
  rw [e2] at e3
  rw [List.append_assoc] at e3
  exact e3.symm
theorem sn_call_of {h n : Nat} {F : am_Fn} (hF : am_Cal G N F) (hk : am_Snd G M (pc + 3) P k) (go : ∀ {ls : am_Lc} {st : List Value} {σ τ : am_St} {Q : am_AQ} {As : List Value} {v : Option Value}, am_Met G N (.ref h :: As) σ (fun w ω => w = v ∧ ω = τ) → As.length = n → am_sum st ≤ 8 → am_AW G M (pc + 3) ls (v.toList ++ st) τ Q → am_AW G M pc ls (As.reverse ++ .ref h :: st) σ Q) : am_Snd G M pc P (ki_call h n F k) := by
  intro ls st σ r Q e hr
  unfold ki_call at e
  split at e
  · rename_i q As he
    split at e
    · rename_i hq hl hs
      obtain ⟨v, τ, hM, hK⟩ := hF _ _ _ _ _ e
      rw [am_call_st he hq]
      exact go hM (Nat.eq_of_beq_eq_true hl) (Nat.le_of_ble_eq_true hs) (hk _ _ _ _ _ hK hr)
    · cases e
  · cases e
theorem sn_calS_of {n : Nat} {F : am_Fn} (hF : am_Cal G N F) (hk : am_Snd G M (pc + 3) P k) (go : ∀ {ls : am_Lc} {st : List Value} {σ τ : am_St} {Q : am_AQ} {As : List Value} {v : Option Value}, am_Met G N As σ (fun w ω => w = v ∧ ω = τ) → As.length = n → am_sum st ≤ 8 → am_AW G M (pc + 3) ls (v.toList ++ st) τ Q → am_AW G M pc ls (As.reverse ++ st) σ Q) : am_Snd G M pc P (ki_calS n F k) := by
  intro ls st σ r Q e hr
  unfold ki_calS at e
  split at e
  · rename_i hl hs
    obtain ⟨v, τ, hM, hK⟩ := hF _ _ _ _ _ e
    have h1 := go hM (Nat.eq_of_beq_eq_true hl) (Nat.le_of_ble_eq_true hs) (hk _ _ _ _ _ hK hr)
    rw [List.reverse_reverse, List.take_append_drop] at h1
    exact h1
  · cases e
theorem sn_callV {h ci idx n NN : Nat} {ks : List Nat} {T : u_T} {F : am_Fn} (d : decode M.2.1 pc = .ok (.invokevirtual idx, 3)) (hF : am_Cal G N F) (hs : am_shapes[h]? = some (.inr (ci, ks))) (hc : am_cl[ci]? = some (N.1.cls, T, NN))
    (w1 : am_in (.methodLink M.1.cls idx N.1)) (w2 : am_in (.instanceMethod N.1)) (w3 : am_in (.selects N.1.cls N.1 N.1)) (w4 : am_in (.initialized N.1.cls)) (w5 : am_in (.code N.1 N.2.1 N.2.2.1 N.2.2.2.1)) (hd : am_dsc N.1 n) (hR : am_fit M N = true) (hk : am_Snd G M (pc + 3) P k) : am_Snd G M pc P (ki_call h n F k) :=
  sn_call_of hF hk (fun hM hn hW kk => aw_callV d hM hs hc w1 w2 w3 w4 w5 hd hR hn hW kk)
theorem sn_callO {h ci idx n NN : Nat} {C owner : String} {x : MethodName} {b0 : ByteArray} {m0 : Nat} {r0 : Option FieldType} {ks : List Nat} {T : u_T} {F : am_Fn} (d : decode M.2.1 pc = .ok (.invokevirtual idx, 3)) (hF : am_Cal G N F) (hs : am_shapes[h]? = some (.inr (ci, ks))) (hc : am_cl[ci]? = some (C, T, NN))
    (w1 : am_in (.methodLink M.1.cls idx x)) (w6 : am_in (.sameMethod x.cls owner x.name x.desc)) (w7 : am_in (.instanceMethod ⟨owner, x.name, x.desc⟩)) (w8 : am_in (.code ⟨owner, x.name, x.desc⟩ b0 m0 r0)) (w2 : am_in (.instanceMethod N.1)) (w3 : am_in (.selects C x N.1)) (w4 : am_in (.initialized N.1.cls)) (w5 : am_in (.code N.1 N.2.1 N.2.2.1 N.2.2.2.1)) (hd : am_dsc ⟨owner, x.name, x.desc⟩ n) (hR : am_fit M N = true) (hk : am_Snd G M (pc + 3) P k) : am_Snd G M pc P (ki_call h n F k) :=
  sn_call_of hF hk (fun hM hn hW kk => aw_callO d hM hs hc w1 w6 w7 w8 w2 w3 w4 w5 hd hR hn hW kk)
theorem sn_callU {h ci idx n NN : Nat} {C : String} {ks : List Nat} {T : u_T} {F : am_Fn} (d : decode M.2.1 pc = .ok (.invokespecial idx, 3)) (hF : am_Cal G N F) (hs : am_shapes[h]? = some (.inr (ci, ks))) (hc : am_cl[ci]? = some (C, T, NN))
    (w1 : am_in (.methodLink M.1.cls idx N.1)) (w6 : am_in (.sameMethod N.1.cls N.1.cls N.1.name N.1.desc)) (w7 : am_in (.superclass M.1.cls N.1.cls)) (w2 : am_in (.instanceMethod N.1)) (w4 : am_in (.initialized N.1.cls)) (w5 : am_in (.code N.1 N.2.1 N.2.2.1 N.2.2.2.1)) (hd : N.1.name ≠ "<init>" ∧ (parseMethodDescriptor N.1.desc).map (fun d => d.parameters.length) = some n) (hR : am_fit M N = true) (hk : am_Snd G M (pc + 3) P k) : am_Snd G M pc P (ki_call h n F k) :=
  sn_call_of hF hk (fun hM hn hW kk => aw_callU d hM hs hc w1 w6 w7 w2 w4 w5 hd hR hn hW kk)
theorem sn_callU2 {h ci idx n NN : Nat} {C : String} {x : MethodName} {ks : List Nat} {T : u_T} {F : am_Fn} (d : decode M.2.1 pc = .ok (.invokespecial idx, 3)) (hF : am_Cal G N F) (hs : am_shapes[h]? = some (.inr (ci, ks))) (hc : am_cl[ci]? = some (C, T, NN))
    (hyx : N.1 = ⟨N.1.cls, x.name, x.desc⟩) (w1 : am_in (.methodLink M.1.cls idx x)) (w6 : am_in (.sameMethod x.cls N.1.cls x.name x.desc)) (w7 : am_in (.superclass M.1.cls x.cls)) (w8 : am_in (.superclass x.cls N.1.cls)) (w2 : am_in (.instanceMethod N.1)) (w4 : am_in (.initialized N.1.cls)) (w5 : am_in (.code N.1 N.2.1 N.2.2.1 N.2.2.2.1)) (hd : x.name ≠ "<init>" ∧ (parseMethodDescriptor x.desc).map (fun d => d.parameters.length) = some n) (hR : am_fit M N = true) (hk : am_Snd G M (pc + 3) P k) : am_Snd G M pc P (ki_call h n F k) :=
  sn_call_of hF hk (fun hM hn hW kk => aw_callU2 d hM hs hc hyx w1 w6 w7 w8 w2 w4 w5 hd hR hn hW kk)
theorem sn_callS {idx n : Nat} {F : am_Fn} (d : decode M.2.1 pc = .ok (.invokestatic idx, 3)) (hF : am_Cal G N F) (w1 : am_in (.methodLink M.1.cls idx N.1)) (w2 : am_in (.static N.1)) (w4 : am_in (.initialized N.1.cls)) (w5 : am_in (.code N.1 N.2.1 N.2.2.1 N.2.2.2.1)) (hd : am_dsc N.1 n) (hR : am_fit M N = true) (hk : am_Snd G M (pc + 3) P k) : am_Snd G M pc P (ki_calS n F k) :=
  sn_calS_of hF hk (fun hM hn hW kk => aw_callS d hM w1 w2 w4 w5 hd hR hn hW kk)
theorem sn_callSN {idx n : Nat} {host : String} {F : am_Fn} (d : decode M.2.1 pc = .ok (.invokestatic idx, 3)) (hF : am_Cal G N F) (w1 : (M.1.cls, idx, N.1, host) ∈ am_nest) (w2 : am_in (.static N.1)) (w4 : am_in (.initialized N.1.cls)) (w5 : am_in (.code N.1 N.2.1 N.2.2.1 N.2.2.2.1)) (hd : am_dsc N.1 n) (hR : am_fit M N = true) (hk : am_Snd G M (pc + 3) P k) : am_Snd G M pc P (ki_calS n F k) :=
  sn_calS_of hF hk (fun hM hn hW kk => aw_callSN d hM w1 w2 w4 w5 hd hR hn hW kk)
def am_mmax (x y : Int32) : Int32 := if x < y then y else x
def ki_mmax (k : am_K ρ) : am_K ρ := fun ls st σ => match st with
  | .int y :: .int x :: t => match Nat.ble (am_sum t) 8 with
    | true => k ls (.int (am_mmax x y) :: t) σ
    | false => none
  | _ => none
theorem sn_mmax {idx : Nat} (d : decode M.2.1 pc = .ok (.invokestatic idx, 3)) (w1 : am_in (.methodLink M.1.cls idx Lib.Math.max.name)) (w2 : am_in (.static Lib.Math.max.name)) (w4 : am_in (.initialized "java/lang/Math")) (w5 : am_in (.code Lib.Math.max.name Lib.Math.max.code 2 (some .int))) (hR : (decide (1 ≤ (am_rm M).frames) && decide (21 ≤ (am_rm M).locals)) = true) (hk : am_Snd G M (pc + 3) P k) : am_Snd G M pc P (ki_mmax k) := by
  simp only [Bool.and_eq_true, decide_eq_true_eq] at hR
  intro ls st σ r Q e hr
  unfold ki_mmax at e
  split at e
  · rename_i y x t
    split at e
    · rename_i hs
      have hs := Nat.le_of_ble_eq_true hs
      have k9 := hk _ _ _ _ _ e hr
      intro p e2 s m args below meth c A hC hA H locs lr hP hD hS hl
      obtain ⟨hx, hb, hr2, hml, hown, hts, hlk, hK, hN⟩ := id hC
      exact va_mmax hx hb (by rw [hml]; exact hl.1.symm) hown (hts _ w1.LT) (hts _ w2.LT) (hts _ w4.LT) (hts _ w5.LT) hR.1 (by rw [am_sum_cv]; exact Nat.le_trans (Nat.add_le_add_right hs _) hR.2) (Nat.zero_le _) (Nat.zero_le _) d (k9 p e2 s m args below meth c A hC hA H locs lr hP hD hS hl)
    · cases e
  · cases e
def am_mmin (x y : Int32) : Int32 := if y < x then y else x
def ki_mmin (k : am_K ρ) : am_K ρ := fun ls st σ => match st with
  | .int y :: .int x :: t => match Nat.ble (am_sum t) 8 with
    | true => k ls (.int (am_mmin x y) :: t) σ
    | false => none
  | _ => none
theorem sn_mmin {idx : Nat} (d : decode M.2.1 pc = .ok (.invokestatic idx, 3)) (w1 : am_in (.methodLink M.1.cls idx Lib.Math.min.name)) (w2 : am_in (.static Lib.Math.min.name)) (w4 : am_in (.initialized "java/lang/Math")) (w5 : am_in (.code Lib.Math.min.name Lib.Math.min.code 2 (some .int))) (hR : (decide (1 ≤ (am_rm M).frames) && decide (21 ≤ (am_rm M).locals)) = true) (hk : am_Snd G M (pc + 3) P k) : am_Snd G M pc P (ki_mmin k) := by
  simp only [Bool.and_eq_true, decide_eq_true_eq] at hR
  intro ls st σ r Q e hr
  unfold ki_mmin at e
  split at e
  · rename_i y x t
    split at e
    · rename_i hs
      have hs := Nat.le_of_ble_eq_true hs
      have k9 := hk _ _ _ _ _ e hr
      intro p e2 s m args below meth c A hC hA H locs lr hP hD hS hl
      obtain ⟨hx, hb, hr2, hml, hown, hts, hlk, hK, hN⟩ := id hC
      exact va_mmin hx hb (by rw [hml]; exact hl.1.symm) hown (hts _ w1.LT) (hts _ w2.LT) (hts _ w4.LT) (hts _ w5.LT) hR.1 (by rw [am_sum_cv]; exact Nat.le_trans (Nat.add_le_add_right hs _) hR.2) (Nat.zero_le _) (Nat.zero_le _) d (k9 p e2 s m args below meth c A hC hA H locs lr hP hD hS hl)
    · cases e
  · cases e
def am_mmaxL (x y : Int64) : Int64 := if y < x then x else y
def ki_mmaxL (k : am_K ρ) : am_K ρ := fun ls st σ => match st with
  | .long y :: .long x :: t => match Nat.ble (am_sum t) 8 with
    | true => k ls (.long (am_mmaxL x y) :: t) σ
    | false => none
  | _ => none
theorem sn_mmaxL {idx : Nat} (d : decode M.2.1 pc = .ok (.invokestatic idx, 3)) (w1 : am_in (.methodLink M.1.cls idx Lib.MathLoose.max_long.x)) (w2 : am_in (.static Lib.MathLoose.max_long.x)) (w4 : am_in (.initialized "java/lang/Math")) (w5 : am_in (.code Lib.MathLoose.max_long.x Lib.MathLoose.max_long.code 4 (some .long))) (hR : (decide (1 ≤ (am_rm M).frames) && decide (23 ≤ (am_rm M).locals)) = true) (hk : am_Snd G M (pc + 3) P k) : am_Snd G M pc P (ki_mmaxL k) := by
  simp only [Bool.and_eq_true, decide_eq_true_eq] at hR
  intro ls st σ r Q e hr
  unfold ki_mmaxL at e
  split at e
  · rename_i y x t
    split at e
    · rename_i hs
      have hs := Nat.le_of_ble_eq_true hs
      have k9 := hk _ _ _ _ _ e hr
      intro p e2 s m args below meth c A hC hA H locs lr hP hD hS hl
      obtain ⟨hx, hb, hr2, hml, hown, hts, hlk, hK, hN⟩ := id hC
      exact va_mmax_long hx hb (by rw [hml]; exact hl.1.symm) hown (hts _ w1.LT) (hts _ w2.LT) (hts _ w4.LT) (hts _ w5.LT) hR.1 (by rw [am_sum_cv]; exact Nat.le_trans (Nat.add_le_add_right hs _) hR.2) (Nat.zero_le _) (Nat.zero_le _) d (k9 p e2 s m args below meth c A hC hA H locs lr hP hD hS hl)
    · cases e
  · cases e
end AMC
