/-! ends, joins, loops, switches -/
/-- a value that no unfolding looks into -/
noncomputable def am_lk {α : Type} (x : α) : α := Classical.choose (⟨x, rfl⟩ : ∃ y, y = x)
theorem am_lk_eq {α : Type} (x : α) : am_lk x = x := Classical.choose_spec (⟨x, rfl⟩ : ∃ y, y = x)
section AMX
variable {G : am_G} {M : am_MD} {pc : Nat} {ρ : Type} {P : ρ → am_AQ → Prop} {k k1 k2 : am_K ρ} {ls : am_Lc} {st : List Value} {σ : am_St} {Q : am_AQ}
theorem am_end {D : va_G} {tys : List (ClassId × FieldType)} {s : State} (hK : va_K D am_cl tys s) {t : State} (hW : s.WarmedH t.vm) : va_K D am_cl tys t := va_K.moved hW.alike hK
theorem aw_iret {x : Int32} (d : decode M.2.1 pc = .ok (.ireturn, 1)) (hret : M.2.2.2.1 = some .int) (hq : Q (some (.int x)) σ) : am_AW G M pc ls [.int x] σ Q := by
  intro p e s m args below meth c A hC hA H locs lr hP hD hS hl
  obtain ⟨hx, hb, hr, hml, hown, hts, hlk, hK, hN⟩ := id hC
  exact W.iret (v := x) hx hb (by rw [hr, hret]) (fun t ht hW => ⟨⟨some (.int x), σ, rfl, hq, by rw [ht]; exact hP, am_end hK hW, hD⟩, hS.F ht⟩) hS.2.2 d hlk
theorem aw_zret {x : Int32} (d : decode M.2.1 pc = .ok (.ireturn, 1)) (hret : M.2.2.2.1 = some .boolean) (hz : x &&& 1 = x) (hq : Q (some (.int x)) σ) : am_AW G M pc ls [.int x] σ Q := by
  intro p e s m args below meth c A hC hA H locs lr hP hD hS hl
  obtain ⟨hx, hb, hr, hml, hown, hts, hlk, hK, hN⟩ := id hC
  exact W.zret (v := x) hx hb (by rw [hr, hret]) (by simp [narrow, hz]) (fun t ht hW => ⟨⟨some (.int x), σ, rfl, hq, by rw [ht]; exact hP, am_end hK hW, hD⟩, hS.F ht⟩) hS.2.2 d hlk
theorem aw_lret {x : Int64} (d : decode M.2.1 pc = .ok (.lreturn, 1)) (hret : M.2.2.2.1 = some .long) (hq : Q (some (.long x)) σ) : am_AW G M pc ls [.long x] σ Q := by
  intro p e s m args below meth c A hC hA H locs lr hP hD hS hl
  obtain ⟨hx, hb, hr, hml, hown, hts, hlk, hK, hN⟩ := id hC
  exact W.lret (v := x) hx hb (by rw [hr, hret]) (fun t ht hW => ⟨⟨some (.long x), σ, rfl, hq, by rw [ht]; exact hP, am_end hK hW, hD⟩, hS.F ht⟩) hS.2.2 d hlk
theorem aw_vret (d : decode M.2.1 pc = .ok (.return_, 1)) (hret : M.2.2.2.1 = none) (hq : Q none σ) : am_AW G M pc ls [] σ Q := by
  intro p e s m args below meth c A hC hA H locs lr hP hD hS hl
  obtain ⟨hx, hb, hr, hml, hown, hts, hlk, hK, hN⟩ := id hC
  exact W.vret hx hb (by rw [hr, hret]) (fun t ht hW => ⟨⟨none, σ, rfl, hq, by rw [ht]; exact hP, am_end hK hW, hD⟩, hS.F ht⟩) hS.2.2 d hlk
theorem aw_aret {x : Nat} {n : String} (d : decode M.2.1 pc = .ok (.areturn, 1)) (hret : M.2.2.2.1 = some (.object n)) (hq : Q (some (.ref x)) σ) : am_AW G M pc ls [.ref x] σ Q := by
  intro p e s m args below meth c A hC hA H locs lr hP hD hS hl
  obtain ⟨hx, hb, hr, hml, hown, hts, hlk, hK, hN⟩ := id hC
  exact W.aret (v := .ref (G.2.2.2 x)) (rt := .object n) hx hb (by rw [hr, hret]) (Or.inl ⟨n, rfl⟩) (Or.inr ⟨_, rfl⟩) (fun t ht hW => ⟨⟨some (.ref x), σ, rfl, hq, by rw [ht]; exact hP, am_end hK hW, hD⟩, hS.F ht⟩) hS.2.2 d hlk
def ki_reti (R : Int32 → am_St → Option ρ) : am_K ρ := fun _ st σ => match st with
  | [.int x] => R x σ
  | _ => none
def ki_retz (R : Int32 → am_St → Option ρ) : am_K ρ := fun _ st σ => match st with
  | [.int x] => if x &&& 1 = x then R x σ else none
  | _ => none
def ki_retl (R : Int64 → am_St → Option ρ) : am_K ρ := fun _ st σ => match st with
  | [.long x] => R x σ
  | _ => none
def ki_reta (R : Nat → am_St → Option ρ) : am_K ρ := fun _ st σ => match st with
  | [.ref x] => R x σ
  | _ => none
def ki_retv (R : am_St → Option ρ) : am_K ρ := fun _ st σ => match st with
  | [] => R σ
  | _ => none
theorem sn_reti {R : Int32 → am_St → Option ρ} (d : decode M.2.1 pc = .ok (.ireturn, 1)) (hret : M.2.2.2.1 = some .int) (hR : ∀ x σ r Q, R x σ = some r → P r Q → Q (some (.int x)) σ) : am_Snd G M pc P (ki_reti R) := by
  intro ls st σ r Q e hr
  unfold ki_reti at e
  split at e
  · exact aw_iret d hret (hR _ _ _ _ e hr)
  · cases e
theorem sn_retz {R : Int32 → am_St → Option ρ} (d : decode M.2.1 pc = .ok (.ireturn, 1)) (hret : M.2.2.2.1 = some .boolean) (hR : ∀ x σ r Q, R x σ = some r → P r Q → Q (some (.int x)) σ) : am_Snd G M pc P (ki_retz R) := by
  intro ls st σ r Q e hr
  unfold ki_retz at e
  split at e
  · split at e
    · rename_i hz
      exact aw_zret d hret hz (hR _ _ _ _ e hr)
    · cases e
  · cases e
theorem sn_retl {R : Int64 → am_St → Option ρ} (d : decode M.2.1 pc = .ok (.lreturn, 1)) (hret : M.2.2.2.1 = some .long) (hR : ∀ x σ r Q, R x σ = some r → P r Q → Q (some (.long x)) σ) : am_Snd G M pc P (ki_retl R) := by
  intro ls st σ r Q e hr
  unfold ki_retl at e
  split at e
  · exact aw_lret d hret (hR _ _ _ _ e hr)
  · cases e
theorem sn_reta {n : String} {R : Nat → am_St → Option ρ} (d : decode M.2.1 pc = .ok (.areturn, 1)) (hret : M.2.2.2.1 = some (.object n)) (hR : ∀ x σ r Q, R x σ = some r → P r Q → Q (some (.ref x)) σ) : am_Snd G M pc P (ki_reta R) := by
  intro ls st σ r Q e hr
  unfold ki_reta at e
  split at e
  · exact aw_aret d hret (hR _ _ _ _ e hr)
  · cases e
theorem sn_retv {R : am_St → Option ρ} (d : decode M.2.1 pc = .ok (.return_, 1)) (hret : M.2.2.2.1 = none) (hR : ∀ σ r Q, R σ = some r → P r Q → Q none σ) : am_Snd G M pc P (ki_retv R) := by
  intro ls st σ r Q e hr
  unfold ki_retv at e
  split at e
  · exact aw_vret d hret (hR _ _ _ e hr)
  · cases e
/-- a jump to a place where roads meet: the locals that it needs are picked one by one, then the stack -/
def am_Lf (G : am_G) (M : am_MD) (pc : Nat) {ρ : Type} (P : ρ → am_AQ → Prop) (acc : am_Lc) (as : List Value) (k : am_K ρ) : Prop := ∀ (ls : am_Lc) (st : List Value) (σ : am_St) (r : ρ) (Q : am_AQ), (∀ q ∈ acc, am_gl ls q.1 = some q.2) → k ls st σ = some r → P r Q → am_AW G M pc ls (as ++ st) σ Q
def lf_i (i : Nat) (k : Int32 → am_K ρ) : am_K ρ := fun ls st σ => match am_gl ls i with
  | some (.int x) => k x ls st σ
  | _ => none
def lf_l (i : Nat) (k : Int64 → am_K ρ) : am_K ρ := fun ls st σ => match am_gl ls i with
  | some (.long x) => k x ls st σ
  | _ => none
def lf_a (i q : Nat) (k : am_K ρ) : am_K ρ := fun ls st σ => match am_gl ls i with
  | some (.ref x) => match Nat.beq x q with
    | true => k ls st σ
    | false => none
  | _ => none
def lf_si (k : Int32 → am_K ρ) : am_K ρ := fun ls st σ => match st with
  | .int x :: t => k x ls t σ
  | _ => none
def lf_sl (k : Int64 → am_K ρ) : am_K ρ := fun ls st σ => match st with
  | .long x :: t => k x ls t σ
  | _ => none
def lf_sa (q : Nat) (k : am_K ρ) : am_K ρ := fun ls st σ => match st with
  | .ref x :: t => match Nat.beq x q with
    | true => k ls t σ
    | false => none
  | _ => none
def lf_end (o : am_St → Option ρ) : am_K ρ := fun _ st σ => match st with
  | [] => o σ
  | _ => none
theorem ln_i {acc : am_Lc} {as : List Value} {i : Nat} {k : Int32 → am_K ρ} (h : ∀ x, am_Lf G M pc P ((i, .int x) :: acc) as (k x)) : am_Lf G M pc P acc as (lf_i i k) := by
  intro ls st σ r Q ha e hr
  unfold lf_i at e
  split at e
  · rename_i x hx
    exact h x ls st σ r Q (List.forall_mem_cons.mpr ⟨hx, ha⟩) e hr
  · cases e
theorem ln_l {acc : am_Lc} {as : List Value} {i : Nat} {k : Int64 → am_K ρ} (h : ∀ x, am_Lf G M pc P ((i, .long x) :: acc) as (k x)) : am_Lf G M pc P acc as (lf_l i k) := by
  intro ls st σ r Q ha e hr
  unfold lf_l at e
  split at e
  · rename_i x hx
    exact h x ls st σ r Q (List.forall_mem_cons.mpr ⟨hx, ha⟩) e hr
  · cases e
theorem ln_a {acc : am_Lc} {as : List Value} {i q : Nat} {k : am_K ρ} (h : am_Lf G M pc P ((i, .ref q) :: acc) as k) : am_Lf G M pc P acc as (lf_a i q k) := by
  intro ls st σ r Q ha e hr
  unfold lf_a at e
  split at e
  · rename_i x hx
    split at e
    · rename_i hq
      rw [Nat.eq_of_beq_eq_true hq] at hx
      exact h ls st σ r Q (List.forall_mem_cons.mpr ⟨hx, ha⟩) e hr
    · cases e
  · cases e
theorem ln_si {acc : am_Lc} {as : List Value} {k : Int32 → am_K ρ} (h : ∀ x, am_Lf G M pc P acc (as ++ [.int x]) (k x)) : am_Lf G M pc P acc as (lf_si k) := by
  intro ls st σ r Q ha e hr
  unfold lf_si at e
  split at e
  · rename_i x t
    have h1 := h x ls t σ r Q ha e hr
    rwa [List.append_assoc] at h1
  · cases e
theorem ln_sl {acc : am_Lc} {as : List Value} {k : Int64 → am_K ρ} (h : ∀ x, am_Lf G M pc P acc (as ++ [.long x]) (k x)) : am_Lf G M pc P acc as (lf_sl k) := by
  intro ls st σ r Q ha e hr
  unfold lf_sl at e
  split at e
  · rename_i x t
    have h1 := h x ls t σ r Q ha e hr
    rwa [List.append_assoc] at h1
  · cases e
theorem ln_sa {acc : am_Lc} {as : List Value} {q : Nat} {k : am_K ρ} (h : am_Lf G M pc P acc (as ++ [.ref q]) k) : am_Lf G M pc P acc as (lf_sa q k) := by
  intro ls st σ r Q ha e hr
  unfold lf_sa at e
  split at e
  · rename_i x t
    split at e
    · rename_i hq
      rw [Nat.eq_of_beq_eq_true hq]
      have h1 := h ls t σ r Q ha e hr
      rwa [List.append_assoc] at h1
    · cases e
  · cases e
theorem ln_end {acc : am_Lc} {as : List Value} {o : am_St → Option ρ} (h : ∀ σ r Q, o σ = some r → P r Q → am_AW G M pc acc as σ Q) : am_Lf G M pc P acc as (lf_end o) := by
  intro ls st σ r Q ha e hr
  unfold lf_end at e
  split at e
  · rw [List.append_nil]
    exact (h σ r Q e hr).sub ha
  · cases e
theorem sn_lf {k : am_K ρ} (h : am_Lf G M pc P [] [] k) : am_Snd G M pc P k := fun ls st σ r Q e hr => h ls st σ r Q (fun q hq => absurd hq List.not_mem_nil) e hr
theorem am_map_some {α β : Type} {x : Option α} {f : α → β} {r : β} (h : x.map f = some r) : ∃ a, x = some a ∧ f a = r := Option.map_eq_some_iff.mp h
theorem am_bind_some {α β : Type} {x : Option α} {f : α → Option β} {r : β} (h : x.bind f = some r) : ∃ a, x = some a ∧ f a = some r := Option.bind_eq_some_iff.mp h
/-- a case of a reference on the stack, n places down -/
def ki_spl (n c : Nat) (k1 k2 : am_K ρ) : am_K ρ := fun ls st σ => match st[n]? with
  | some (.ref q) => if q = c then k1 ls (st.set n (.ref c)) σ else k2 ls st σ
  | _ => none
theorem sn_spl {n c0 : Nat} (h1 : am_Snd G M pc P k1) (h2 : am_Snd G M pc P k2) : am_Snd G M pc P (ki_spl n c0 k1 k2) := by
  intro ls st σ r Q e hr
  unfold ki_spl at e
  split at e
  · rename_i q hq
    split at e
    · rename_i hc
      subst hc
      have hst : st.set n (.ref q) = st := by
        apply List.ext_getElem?
        intro j
        by_cases hj : n = j
        · subst hj
          rw [List.getElem?_set_self (List.getElem?_eq_some_iff.mp hq).1, hq]
        · rw [List.getElem?_set_ne hj]
      rw [hst] at e
      exact h1 _ _ _ _ _ e hr
    · exact h2 _ _ _ _ _ e hr
  · cases e
def ki_no : am_K ρ := fun _ _ _ => none
theorem sn_no : am_Snd G M pc P (ki_no : am_K ρ) := fun ls st σ r Q e _ => by cases e
/-! loops -/
def am_it {S R : Type} (body : S → Option (S ⊕ R)) : Nat → S → Option R
  | 0, _ => none
  | n + 1, s => match body s with
    | none => none
    | some (.inl s2) => am_it body n s2
    | some (.inr r) => some r
theorem am_it_succ {S R : Type} {body : S → Option (S ⊕ R)} : ∀ {n : Nat} {s : S} {r : R}, am_it body n s = some r → am_it body (n + 1) s = some r
  | 0, s, r, h => by cases h
  | n + 1, s, r, h => by
    unfold am_it at h ⊢
    split at h
    · cases h
    · rename_i s2 hb
      exact am_it_succ h
    · exact h
theorem am_it_le {S R : Type} {body : S → Option (S ⊕ R)} {n : Nat} {s : S} {r : R} (h : am_it body n s = some r) : ∀ k, am_it body (n + k) s = some r
  | 0 => h
  | k + 1 => am_it_succ (am_it_le h k)
theorem am_it_det {S R : Type} {body : S → Option (S ⊕ R)} {n m : Nat} {s : S} {r r2 : R} (h : am_it body n s = some r) (h2 : am_it body m s = some r2) : r = r2 := by
  have a := am_it_le h m
  have b := am_it_le h2 n
  rw [Nat.add_comm] at b
  rw [a] at b
  exact Option.some.inj b
noncomputable def am_lp {S R : Type} (body : S → Option (S ⊕ R)) (s : S) : Option R := @dite _ (∃ r n, am_it body n s = some r) (Classical.propDecidable _) (fun h => some h.choose) (fun _ => none)
theorem am_lp_iff {S R : Type} {body : S → Option (S ⊕ R)} {s : S} {r : R} : am_lp body s = some r ↔ ∃ n, am_it body n s = some r := by
  unfold am_lp
  constructor
  · intro h
    split at h
    · rename_i hx
      obtain ⟨n, hn⟩ := hx.choose_spec
      cases h
      exact ⟨n, hn⟩
    · cases h
  · rintro ⟨n, hn⟩
    have hx : ∃ r n, am_it body n s = some r := ⟨r, n, hn⟩
    rw [dif_pos hx]
    obtain ⟨m, hm⟩ := hx.choose_spec
    rw [am_it_det hm hn]
theorem am_lp_inl {S R : Type} {body : S → Option (S ⊕ R)} {s s2 : S} (h : body s = some (.inl s2)) : am_lp body s = am_lp body s2 := by
  apply Option.ext
  intro r
  show am_lp body s = some r ↔ am_lp body s2 = some r
  rw [am_lp_iff, am_lp_iff]
  constructor
  · rintro ⟨n, hn⟩
    cases n with
    | zero => cases hn
    | succ n =>
      unfold am_it at hn
      rw [h] at hn
      exact ⟨n, hn⟩
  · rintro ⟨n, hn⟩
    refine ⟨n + 1, ?_⟩
    unfold am_it
    rw [h]
    exact hn
theorem am_lp_inr {S R : Type} {body : S → Option (S ⊕ R)} {s : S} {x : Option R} (h : body s = x.map .inr) : am_lp body s = x := by
  apply Option.ext
  intro r
  show am_lp body s = some r ↔ x = some r
  rw [am_lp_iff]
  cases x with
  | none =>
    constructor
    · rintro ⟨n, hn⟩
      cases n with
      | zero => cases hn
      | succ n =>
        unfold am_it at hn
        rw [h] at hn
        cases hn
    · intro h; cases h
  | some y =>
    constructor
    · rintro ⟨n, hn⟩
      cases n with
      | zero => cases hn
      | succ n =>
        unfold am_it at hn
        rw [h] at hn
        exact hn
    · intro h2
      refine ⟨1, ?_⟩
      unfold am_it
      rw [h]
      exact h2
/-- a loop that counts: n steps, each as told -/
theorem am_lp_count {S R : Type} {body : S → Option (S ⊕ R)} (F : Nat → S) : ∀ (n : Nat), (∀ i, i < n → body (F i) = some (.inl (F (i + 1)))) → am_lp body (F 0) = am_lp body (F n)
  | 0, _ => rfl
  | n + 1, h => by rw [am_lp_count F n (fun i hi => h i (by omega)), am_lp_inl (h n (by omega))]
def am_PL (G : am_G) (M : am_MD) (pc : Nat) {S ρ : Type} (L : S → am_Lc) (g : S → am_St) (P : ρ → am_AQ → Prop) : (S ⊕ ρ) → am_AQ → Prop := fun o Q => match o with
  | .inl s => am_AW G M pc (L s) [] (g s) Q
  | .inr r => P r Q
theorem am_loop {S : Type} {L : S → am_Lc} {g : S → am_St} {body : S → Option (S ⊕ ρ)} (hb : ∀ s o Q, body s = some o → am_PL G M pc L g P o Q → am_AW G M pc (L s) [] (g s) Q) : ∀ s r Q, am_lp body s = some r → P r Q → am_AW G M pc (L s) [] (g s) Q := by
  intro s r Q h hr
  obtain ⟨n, hn⟩ := am_lp_iff.mp h
  clear h
  induction n generalizing s with
  | zero => cases hn
  | succ n ih =>
    unfold am_it at hn
    split at hn
    · cases hn
    · rename_i s2 h2
      exact hb s _ Q h2 (ih s2 hn)
    · rename_i r2 h2
      cases hn
      exact hb s _ Q h2 hr
/-! switches -/
def am_tsw : List Int32 → List (am_K ρ) → am_K ρ → am_K ρ
  | v :: vs, k :: ks, d => fun ls st σ => match st with
    | .int x :: t => if x = v then k ls t σ else am_tsw vs ks d ls st σ
    | _ => none
  | _, _, d => fun ls st σ => match st with
    | .int _ :: t => d ls t σ
    | _ => none
/-- the places of a table that begins with lo, from place i on -/
def am_tch (pc : Nat) (lo : Int) (offs : Array Int) : Nat → List Int32 → List Nat → Bool
  | i, v :: vs, t :: ts => decide (v.toInt = lo + i) && decide (offs[i]? = some ((t : Int) - pc)) && am_tch pc lo offs (i + 1) vs ts
  | i, [], [] => decide (offs.size = i)
  | _, _, _ => false
def am_all (G : am_G) (M : am_MD) (P : ρ → am_AQ → Prop) : List Nat → List (am_K ρ) → Prop
  | t :: ts, k :: ks => am_Snd G M t P k ∧ am_all G M P ts ks
  | [], [] => True
  | _, _ => False
theorem am_all_nil : am_all G M P [] ([] : List (am_K ρ)) := True.intro
theorem am_all_cons {t : Nat} {ts : List Nat} {ks : List (am_K ρ)} (h : am_Snd G M t P k) (hs : am_all G M P ts ks) : am_all G M P (t :: ts) (k :: ks) := ⟨h, hs⟩
theorem am_tsw_sound {lo hi dflt : Int} {offs : Array Int} {len dt : Nat} {d0 : am_K ρ} (d : decode M.2.1 pc = .ok (.tableswitch dflt lo hi offs, len)) (hhi : hi = lo + offs.size - 1) (hdt : (pc : Int) + dflt = (dt : Int)) (hd : am_Snd G M dt P d0) :
    ∀ (vs : List Int32) (ts : List Nat) (ks : List (am_K ρ)) (i : Nat), am_tch pc lo offs i vs ts = true → am_all G M P ts ks → ∀ (ls : am_Lc) (x : Int32) (t : List Value) (σ : am_St) (r : ρ) (Q : am_AQ), (x.toInt < lo ∨ lo + i ≤ x.toInt) → am_tsw vs ks d0 ls (.int x :: t) σ = some r → P r Q → am_AW G M pc ls (.int x :: t) σ Q
  | [], ts, ks, i, hc, ha, ls, x, t, σ, r, Q, hx, e, hr => by
    match ts, hc with
    | [], hc =>
      have hsz : offs.size = i := of_decide_eq_true hc
      have k9 := hd _ _ _ _ _ (show d0 ls t σ = some r from e) hr
      intro p e2 s m args below meth c A hC hA H locs lr hP hD hS hl
      obtain ⟨hx2, hb, -⟩ := id hC
      exact lv_tableOut hx2 hb d (by omega) hdt (k9 p e2 s m args below meth c A hC hA H locs lr hP hD hS hl)
  | v :: vs, ts, ks, i, hc, ha, ls, x, t, σ, r, Q, hx, e, hr => by
    match ts, ks, hc, ha with
    | t0 :: ts, k0 :: ks, hc, ha =>
      simp only [am_tch, Bool.and_eq_true, decide_eq_true_eq] at hc
      obtain ⟨⟨hv, ho⟩, hc⟩ := hc
      unfold am_tsw at e
      simp only [] at e
      split at e
      · rename_i hxv
        subst hxv
        have k9 := ha.1 _ _ _ _ _ e hr
        have hlt : i < offs.size := (Array.getElem?_eq_some_iff.mp ho).1
        intro p e2 s m args below meth c A hC hA H locs lr hP hD hS hl
        obtain ⟨hx2, hb, -⟩ := id hC
        exact lv_tableIn hx2 hb d (by omega) (by omega) (off := (t0 : Int) - pc) (by rw [hv, show (lo + (i : Int) - lo).toNat = i by omega]; exact ho) (by omega) (k9 p e2 s m args below meth c A hC hA H locs lr hP hD hS hl)
      · rename_i hxv
        refine am_tsw_sound d hhi hdt hd vs ts ks (i + 1) hc ha.2 ls x t σ r Q ?_ e hr
        have hne : x.toInt ≠ v.toInt := fun q => hxv (Int32.toInt_inj.mp q)
        omega
theorem sn_tsw {lo hi dflt : Int} {offs : Array Int} {len dt : Nat} {d0 : am_K ρ} {vs : List Int32} {ts : List Nat} {ks : List (am_K ρ)} (d : decode M.2.1 pc = .ok (.tableswitch dflt lo hi offs, len)) (hc : (am_tch pc lo offs 0 vs ts && decide (hi = lo + offs.size - 1) && decide ((pc : Int) + dflt = (dt : Int))) = true) (hd : am_Snd G M dt P d0) (ha : am_all G M P ts ks) : am_Snd G M pc P (am_tsw vs ks d0) := by
  simp only [Bool.and_eq_true, decide_eq_true_eq] at hc
  intro ls st σ r Q e hr
  have hst : ∃ x t, st = .int x :: t := by
    match vs, ks, st, e with
    | [], _, .int x :: t, _ => exact ⟨x, t, rfl⟩
    | _ :: _, [], .int x :: t, _ => exact ⟨x, t, rfl⟩
    | _ :: _, _ :: _, .int x :: t, _ => exact ⟨x, t, rfl⟩
  obtain ⟨x, t, rfl⟩ := hst
  exact am_tsw_sound d hc.1.2 hc.2 hd vs ts ks 0 hc.1.1 ha ls x t σ r Q (by omega) e hr
def am_lch (pc : Nat) : List (Int × Int) → List Int32 → List Nat → Bool
  | q :: ps, v :: vs, t :: ts => decide (v.toInt = q.1) && decide (q.2 = (t : Int) - pc) && am_lch pc ps vs ts
  | [], [], [] => true
  | _, _, _ => false
theorem am_lsw_sound {dflt : Int} {ps0 : Array (Int × Int)} {len dt : Nat} {d0 : am_K ρ} (d : decode M.2.1 pc = .ok (.lookupswitch dflt ps0, len)) (hp : (ps0.toList.zip (ps0.toList.drop 1)).all (fun (a, next) => a.1 < next.1) = true) (hdt : (pc : Int) + dflt = (dt : Int)) (hd : am_Snd G M dt P d0) :
    ∀ (ps : List (Int × Int)) (vs : List Int32) (ts : List Nat) (ks : List (am_K ρ)), am_lch pc ps vs ts = true → am_all G M P ts ks → ∀ (ls : am_Lc) (x : Int32) (t : List Value) (σ : am_St) (r : ρ) (Q : am_AQ), Op.lookupswitch.offset ps0.toList dflt x.toInt = Op.lookupswitch.offset ps dflt x.toInt → am_tsw vs ks d0 ls (.int x :: t) σ = some r → P r Q → am_AW G M pc ls (.int x :: t) σ Q
  | [], vs, ts, ks, hc, ha, ls, x, t, σ, r, Q, hx, e, hr => by
    match vs, ts, hc with
    | [], [], hc =>
      have k9 := hd _ _ _ _ _ (show d0 ls t σ = some r from e) hr
      intro p e2 s m args below meth c A hC hA H locs lr hP hD hS hl
      obtain ⟨hx2, hb, -⟩ := id hC
      exact lv_lookup hx2 hb d hp (by rw [hx]; rfl) hdt (k9 p e2 s m args below meth c A hC hA H locs lr hP hD hS hl)
  | (a, o) :: ps, vs, ts, ks, hc, ha, ls, x, t, σ, r, Q, hx, e, hr => by
    match vs, ts, ks, hc, ha with
    | v :: vs, t0 :: ts, k0 :: ks, hc, ha =>
      simp only [am_lch, Bool.and_eq_true, decide_eq_true_eq] at hc
      obtain ⟨⟨hv, ho⟩, hc⟩ := hc
      unfold am_tsw at e
      simp only [] at e
      split at e
      · rename_i hxv
        subst hxv
        have k9 := ha.1 _ _ _ _ _ e hr
        intro p e2 s m args below meth c A hC hA H locs lr hP hD hS hl
        obtain ⟨hx2, hb, -⟩ := id hC
        exact lv_lookup hx2 hb d hp (off := o) (by rw [hx, Op.lookupswitch.offset_cons, if_pos hv.symm]) (by omega) (k9 p e2 s m args below meth c A hC hA H locs lr hP hD hS hl)
      · rename_i hxv
        exact am_lsw_sound d hp hdt hd ps vs ts ks hc ha.2 ls x t σ r Q (by rw [hx, lv_osw hxv hv]) e hr
theorem sn_lsw {dflt : Int} {ps : Array (Int × Int)} {len dt : Nat} {d0 : am_K ρ} {vs : List Int32} {ts : List Nat} {ks : List (am_K ρ)} (d : decode M.2.1 pc = .ok (.lookupswitch dflt ps, len)) (hc : (am_lch pc ps.toList vs ts && (ps.toList.zip (ps.toList.drop 1)).all (fun (a, next) => a.1 < next.1) && decide ((pc : Int) + dflt = (dt : Int))) = true) (hd : am_Snd G M dt P d0) (ha : am_all G M P ts ks) : am_Snd G M pc P (am_tsw vs ks d0) := by
  simp only [Bool.and_eq_true, decide_eq_true_eq] at hc
  intro ls st σ r Q e hr
  have hst : ∃ x t, st = .int x :: t := by
    match vs, ks, st, e with
    | [], _, .int x :: t, _ => exact ⟨x, t, rfl⟩
    | _ :: _, [], .int x :: t, _ => exact ⟨x, t, rfl⟩
    | _ :: _, _ :: _, .int x :: t, _ => exact ⟨x, t, rfl⟩
  obtain ⟨x, t, rfl⟩ := hst
  exact am_lsw_sound d hc.1.2 hc.2 hd ps.toList vs ts ks hc.1.1 ha ls x t σ r Q rfl e hr
end AMX
