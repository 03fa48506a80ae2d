/-! THE ABSTRACT MACHINE: locals as a list, stack as a list, references as places in a table of shapes; the state is what the cells hold -/
abbrev am_Lc : Type := List (Nat × Value)
abbrev am_St : Type := (Nat → Nat → Int32) × (Nat → Nat → Int64) × Option Nat
abbrev am_AQ : Type := Option Value → am_St → Prop
/-- a method: its name, code, locals, answer; frames and words of its room -/
abbrev am_MD : Type := MethodName × ByteArray × Nat × Option FieldType × Nat × Nat
abbrev am_rm (M : am_MD) : Room := { frames := M.2.2.2.2.1, cells := 0, slots := 0, locals := M.2.2.2.2.2 }
abbrev am_G : Type := Launch × va_G × (Nat → ClassId) × (Nat → Nat)
def am_cv (ad : Nat → Nat) : Value → Value
  | .ref i => .ref (ad i)
  | v => v
theorem am_cv_cat (ad : Nat → Nat) (v : Value) : (am_cv ad v).category = v.category := by cases v <;> rfl
def am_fv (ad : Nat → Nat) (σ : am_St) (i k : Nat) (fk : Nat) : Value := match fk with
  | 0 => .int (σ.1 i k)
  | 1 => .long (σ.2.1 i k)
  | 2 => va_rf (σ.2.2.map ad)
  | r + 3 => .ref (ad r)
def am_fs (ad : Nat → Nat) (σ : am_St) (i : Nat) (ks : List Nat) : List Value := ks.mapIdx (fun k fk => am_fv ad σ i k fk)
def am_cs (ta : Nat → ClassId) (ad : Nat → Nat) (σ : am_St) (i : Nat) (sh : Option ((Nat × Nat) ⊕ (Nat × List Nat))) : va_E := match sh with
  | some (.inl (0, n)) => .inl (ta 0, n, .inl (σ.1 i))
  | some (.inl (1, n)) => .inl (ta 1, n, .inl (σ.1 i))
  | some (.inl (2, n)) => .inl (ta 2, n, .inr (.inl (σ.2.1 i)))
  | some (.inl (_, n)) => .inl (ta 3, n, .inr (.inr (.inr (.inr (fun j => some (ad (i + 1 + j)))))))
  | some (.inr (ci, ks)) => .inr (ci, am_fs ad σ i ks)
  | none => .inr (0, [])
def am_ce (ta : Nat → ClassId) (ad : Nat → Nat) (σ : am_St) (i : Nat) : va_E := am_cs ta ad σ i am_shapes[i]?
def am_ws (ta : Nat → ClassId) (ad : Nat → Nat) (σ : am_St) : va_W := (List.range am_NC).map (fun i => (ad i, am_ce ta ad σ i))
theorem am_ws_get {ta : Nat → ClassId} {ad : Nat → Nat} {σ : am_St} {i : Nat} (h : i < am_NC) : (am_ws ta ad σ)[i]? = some (ad i, am_ce ta ad σ i) := by
  simp [am_ws, h]
theorem am_ws_at {ta : Nat → ClassId} {ad : Nat → Nat} {σ : am_St} {i : Nat} {sh : (Nat × Nat) ⊕ (Nat × List Nat)} (h : am_shapes[i]? = some sh) : (am_ws ta ad σ)[i]? = some (ad i, am_cs ta ad σ i (some sh)) := by
  have hi : i < am_NC := (List.getElem?_eq_some_iff.mp h).1
  rw [am_ws_get hi, am_ce, h]
theorem am_ws_len {ta : Nat → ClassId} {ad : Nat → Nat} {σ : am_St} : (am_ws ta ad σ).length = am_NC := by simp [am_ws]
/-- one row of ints, of longs becomes another -/
def am_rI (σ : am_St) (i : Nat) (f : Nat → Int32) : am_St := (fun j => if j = i then f else σ.1 j, σ.2.1, σ.2.2)
def am_rL (σ : am_St) (i : Nat) (f : Nat → Int64) : am_St := (σ.1, fun j => if j = i then f else σ.2.1 j, σ.2.2)
def am_sI (σ : am_St) (i k : Nat) (x : Int32) : am_St := am_rI σ i (upd (σ.1 i) k x)
def am_sL (σ : am_St) (i k : Nat) (x : Int64) : am_St := am_rL σ i (vp_updL (σ.2.1 i) k x)
def am_sK (σ : am_St) (x : Option Nat) : am_St := (σ.1, σ.2.1, x)
theorem am_cs_congr {ta : Nat → ClassId} {ad : Nat → Nat} {σ τ : am_St} {i : Nat} {sh : Option ((Nat × Nat) ⊕ (Nat × List Nat))} (h1 : σ.1 i = τ.1 i) (h2 : σ.2.1 i = τ.2.1 i) (h3 : σ.2.2 = τ.2.2) : am_cs ta ad σ i sh = am_cs ta ad τ i sh := by
  have hf : ∀ k fk, am_fv ad σ i k fk = am_fv ad τ i k fk := by
    intro k fk
    unfold am_fv
    split <;> simp [h1, h2, h3]
  unfold am_cs
  split <;> simp [h1, h2, am_fs, hf]
theorem am_ws_set {ta : Nat → ClassId} {ad : Nat → Nat} {σ τ : am_St} {i : Nat} {e : va_E} (he : am_ce ta ad τ i = e) (ho : ∀ j, j ≠ i → am_ce ta ad τ j = am_ce ta ad σ j) : (am_ws ta ad σ).set i (ad i, e) = am_ws ta ad τ := by
  apply List.ext_getElem?
  intro j
  by_cases hj : j < am_NC
  · by_cases hji : i = j
    · subst hji
      rw [List.getElem?_set_self (by rw [am_ws_len]; exact hj), am_ws_get hj, he]
    · rw [List.getElem?_set_ne hji, am_ws_get hj, am_ws_get hj, ho j (fun h => hji h.symm)]
  · rw [List.getElem?_eq_none (by rw [List.length_set, am_ws_len]; omega), List.getElem?_eq_none (by rw [am_ws_len]; omega)]
theorem am_ce_rI_ne {ta : Nat → ClassId} {ad : Nat → Nat} {σ : am_St} {i : Nat} {f : Nat → Int32} (j : Nat) (h : j ≠ i) : am_ce ta ad (am_rI σ i f) j = am_ce ta ad σ j := by
  unfold am_ce
  exact am_cs_congr (by simp [am_rI, h]) rfl rfl
theorem am_ce_rL_ne {ta : Nat → ClassId} {ad : Nat → Nat} {σ : am_St} {i : Nat} {f : Nat → Int64} (j : Nat) (h : j ≠ i) : am_ce ta ad (am_rL σ i f) j = am_ce ta ad σ j := by
  unfold am_ce
  exact am_cs_congr rfl (by simp [am_rL, h]) rfl
theorem am_fs_get {ad : Nat → Nat} {σ : am_St} {i k fk : Nat} {ks : List Nat} (h : ks[k]? = some fk) : (am_fs ad σ i ks)[k]? = some (am_fv ad σ i k fk) := by
  simp [am_fs, h]
theorem am_fs_len {ad : Nat → Nat} {σ : am_St} {i : Nat} {ks : List Nat} : (am_fs ad σ i ks).length = ks.length := by simp [am_fs]
theorem am_fs_set {ad : Nat → Nat} {σ τ : am_St} {i k fk : Nat} {ks : List Nat} {v : Value} (h : ks[k]? = some fk) (hv : am_fv ad τ i k fk = v) (ho : ∀ j gk, j ≠ k → ks[j]? = some gk → am_fv ad τ i j gk = am_fv ad σ i j gk) : am_fs ad τ i ks = (am_fs ad σ i ks).set k v := by
  apply List.ext_getElem?
  intro j
  by_cases hj : j = k
  · subst hj
    have hl : j < ks.length := (List.getElem?_eq_some_iff.mp h).1
    rw [List.getElem?_set_self (by rw [am_fs_len]; exact hl), am_fs_get h, hv]
  · rw [List.getElem?_set_ne (Ne.symm hj)]
    cases hg : ks[j]? with
    | none => simp [am_fs, hg]
    | some gk => rw [am_fs_get hg, am_fs_get hg, ho j gk hj hg]
abbrev am_tys (ta : Nat → ClassId) : List (ClassId × FieldType) := [(ta 0, .int), (ta 1, .boolean), (ta 2, .long), (ta 3, .object "ItWasLikeThat$Child")]
/-- the tables' words that a method may use; those on nest mates apart -/
def am_T0 : List Cond := lw_tbl.filter goodWord
def am_LT (M : am_MD) : List Cond := .code M.1 M.2.1 M.2.2.1 M.2.2.2.1 :: am_T0
def am_in (w : Cond) : Prop := w ∈ lw_tbl ∧ goodWord w = true
theorem am_in.T0 {w : Cond} (h : am_in w) : w ∈ am_T0 := List.mem_filter.mpr h
theorem am_in.LT {M : am_MD} {w : Cond} (h : am_in w) : w ∈ am_LT M := List.mem_cons_of_mem _ h.T0
theorem am_good {M N : am_MD} (h : am_in (.code N.1 N.2.1 N.2.2.1 N.2.2.2.1)) : GoodIn (am_LT M) (am_LT N) := by
  intro w hw
  rcases List.mem_cons.mp hw with rfl | hw
  · exact ⟨h.LT, good_of_word h.2⟩
  · have h2 := List.mem_filter.mp hw
    exact ⟨List.mem_cons_of_mem _ hw, good_of_word h2.2⟩
def am_NW (U : State) : Prop := ∀ w ∈ am_nest, va_Nw (.methodLinkNest w.1 w.2.1 w.2.2.1 w.2.2.2) U
theorem am_NW.warm {s U : State} (hW : s.WarmedH U.vm) (h : am_NW s) : am_NW U := fun w hw => va_Nw.warmM hW (h w hw)
theorem am_NW.call {U : State} {g : JFrame} {mk : MethodId} {a : Array Value} (h : am_NW U) : am_NW (U.calling g mk a) := fun w hw => va_Nw.same rfl rfl (h w hw)
def am_Cx (G : am_G) (M : am_MD) (p : Program) (s : State) (m : MethodId) (args : Array Value) (meth : Method) (c : Code) : Prop :=
  p.tables.exec = Jvm.exec ∧ c.code = M.2.1 ∧ meth.sig.returnType = M.2.2.2.1 ∧ c.maxLocals = M.2.2.1 ∧ s.vm.findClass M.1.cls = some m.cls ∧ (∀ w ∈ am_LT M, w.before args s = true) ∧ meth.locks = false ∧ va_K G.2.1 am_cl (am_tys G.2.2.1) s ∧ am_NW s
abbrev am_wd (G : am_G) (σ : am_St) : va_W := am_ws G.2.2.1 G.2.2.2 σ
def am_Qc (G : am_G) (A : Nat → Prop) (Q : am_AQ) : Array Value → State → Outcome → State → Prop := fun _ st o t =>
  (∃ (v : Option Value) (τ : am_St), o = .returned (v.map (am_cv G.2.2.2)) ∧ Q v τ ∧ va_P G.2.1 am_cl (am_wd G τ) t.heap ∧ va_K G.2.1 am_cl (am_tys G.2.2.1) t ∧ va_D A (am_wd G τ)) ∧ va_F A st t
def am_ml (ad : Nat → Nat) (ls : am_Lc) : am_Lc := ls.map (fun q => (q.1, am_cv ad q.2))
/-- from here, with these locals, stack and state, the method comes to an end with Q -/
def am_AW (G : am_G) (M : am_MD) (pc : Nat) (ls : am_Lc) (st : List Value) (σ : am_St) (Q : am_AQ) : Prop :=
  ∀ (p : Program) (e : Env) (s : State) (m : MethodId) (args : Array Value) (below : List Frame) (meth : Method) (c : Code) (A : Nat → Prop), am_Cx G M p s m args meth c → (∀ q : Nat, s.heap.size ≤ q → A q) →
  ∀ (H : Heap) (locs : List Loc) (lr : Array Slot), va_P G.2.1 am_cl (am_wd G σ) H → va_D A (am_wd G σ) → va_S A s.heap H locs → lv_has lr M.2.2.1 (am_ml G.2.2.2 ls) →
  W p G.1 e (am_rm M) s m args below meth c H locs 0 0 (MQ below (am_Qc G A Q) args s 0 0 A) (F0 m pc lr (st.map (am_cv G.2.2.2)))
/-! locals -/
def am_gl : am_Lc → Nat → Option Value
  | [], _ => none
  | (j, v) :: t, i => match Nat.beq j i with
    | true => some v
    | false => am_gl t i
def am_sl (ls : am_Lc) (i : Nat) (v : Value) : am_Lc := (i, v) :: ls.filter (fun q => !(q.1 == i) && !(q.1 + 1 == i && q.2.category == 2))
def am_sl2 (ls : am_Lc) (i : Nat) (v : Value) : am_Lc := (i, v) :: ls.filter (fun q => !(q.1 == i) && (!(q.1 == i + 1) && !(q.1 + 1 == i && q.2.category == 2)))
theorem am_gl_mem : ∀ {ls : am_Lc} {i : Nat} {v : Value}, am_gl ls i = some v → (i, v) ∈ ls
  | [], i, v, h => by cases h
  | (j, w) :: t, i, v, h => by
    unfold am_gl at h
    split at h
    · rename_i hb
      cases h
      rw [Nat.eq_of_beq_eq_true hb]
      exact List.mem_cons_self
    · exact List.mem_cons_of_mem _ (am_gl_mem h)
theorem am_ml_get {G : am_G} {lr : Array Slot} {n : Nat} {ls : am_Lc} {i : Nat} {v : Value} (hl : lv_has lr n (am_ml G.2.2.2 ls)) (h : am_gl ls i = some v) : lr[i]? = some (.val (am_cv G.2.2.2 v)) :=
  hl.2.2 (i, am_cv G.2.2.2 v) (List.mem_map.mpr ⟨(i, v), am_gl_mem h, rfl⟩)
theorem am_ml_sl {ad : Nat → Nat} {ls : am_Lc} {i : Nat} {v : Value} : (i, am_cv ad v) :: (am_ml ad ls).filter (fun q => !(q.1 == i) && !(q.1 + 1 == i && q.2.category == 2)) = am_ml ad (am_sl ls i v) := by
  simp [am_ml, am_sl, List.filter_map, Function.comp_def, am_cv_cat]
theorem am_ml_sl2 {ad : Nat → Nat} {ls : am_Lc} {i : Nat} {v : Value} : (i, am_cv ad v) :: (am_ml ad ls).filter (fun q => !(q.1 == i) && (!(q.1 == i + 1) && !(q.1 + 1 == i && q.2.category == 2))) = am_ml ad (am_sl2 ls i v) := by
  simp [am_ml, am_sl2, List.filter_map, Function.comp_def, am_cv_cat]
/-- fewer locals say less -/
theorem am_AW.sub {G : am_G} {M : am_MD} {pc : Nat} {ls ls' : am_Lc} {st : List Value} {σ : am_St} {Q : am_AQ} (h : ∀ q ∈ ls', am_gl ls q.1 = some q.2) (k : am_AW G M pc ls' st σ Q) : am_AW G M pc ls st σ Q := by
  intro p e s m args below meth c A hC hA H locs lr hP hD hS hl
  refine k p e s m args below meth c A hC hA H locs lr hP hD hS ⟨hl.1, hl.2.1, fun q hq => ?_⟩
  obtain ⟨q0, h1, rfl⟩ := List.mem_map.mp hq
  exact am_ml_get hl (h q0 h1)
/-! a method's contract -/
def am_Met (G : am_G) (M : am_MD) (args : List Value) (σ : am_St) (Q : am_AQ) : Prop :=
  ∀ sz : Nat, Met G.1 M.1 (am_LT M) (am_rm M) (va_Pc (args.map (am_cv G.2.2.2)) (fun U => U.heap.size = sz ∧ va_P G.2.1 am_cl (am_wd G σ) U.heap ∧ va_K G.2.1 am_cl (am_tys G.2.2.1) U ∧ va_D (fun _ => True) (am_wd G σ) ∧ am_NW U))
    (am_Qc G (va_A (am_wd G σ) sz) Q) 0 0 (va_A (am_wd G σ) sz)
theorem am_args_map (ad : Nat → Nat) : ∀ (vs : List Value) (k : Nat), lv_args k (vs.map (am_cv ad)) = am_ml ad (lv_args k vs)
  | [], k => rfl
  | v :: vs, k => by
    simp only [List.map, lv_args, am_cv_cat, am_args_map ad vs]
    rfl
theorem am_sl_len (ad : Nat → Nat) : ∀ vs : List Value, (lg_sl (vs.map (am_cv ad))).length = (lg_sl vs).length
  | [] => rfl
  | v :: vs => by
    have h := am_sl_len ad vs
    by_cases hc : v.category = 2 <;> simp_all [lg_sl, am_cv_cat]
theorem am_Met.of {G : am_G} {M : am_MD} {args : List Value} {σ : am_St} {Q : am_AQ} (hn : plainName M.1.cls = true) (hlen : (lg_sl args).length ≤ M.2.2.1) (k : am_AW G M 0 (lv_args 0 args) [] σ Q) : am_Met G M args σ Q := by
  intro sz
  refine Met.ofW (cc := M.2.1) (maxL := M.2.2.1) (ret := M.2.2.2.1) hn rfl ?_
  intro p e s m a below meth c s₁ B hml hv
  obtain ⟨rfl, hsz, hP, hK, hD0, hN⟩ := hv
  subst hsz
  have hts := atoms_spec (ws := am_LT M) B.pre
  have hl : (lg_sl (args.map (am_cv G.2.2.2))).length ≤ M.2.2.1 := by
    rw [am_sl_len]
    exact hlen
  have hl := lv_entry (args.map (am_cv G.2.2.2)) hl
  rw [lg_entry_eq]
  rw [am_args_map] at hl
  exact k p e s m _ below meth c _ ⟨B.exec, B.bytes, B.returns, hml, findClass_of_methodNamed B.named, hts, B.notSynchronized, hK, hN⟩ (fun q h => Or.inr h) _ _ _ hP hD0.self va_S.rf hl
