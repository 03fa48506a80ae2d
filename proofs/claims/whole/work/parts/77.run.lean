/-! PURE: the run of a text; the model's reading of it -/
noncomputable def hv_run (L : Nat → Nat) (mt : Nat) (g : hv) : Nat → Option hv
  | 0 => some g
  | k + 1 => (hv_run L mt g k).bind fun a => hv_do a (L (hv_pos L mt k).1) (hv_dg L (hv_pos L mt k).1) (hv_sg L (hv_pos L mt k).1)
theorem hv_run_0 (L : Nat → Nat) (mt : Nat) (g : hv) : hv_run L mt g 0 = some g := by rw [hv_run]
theorem hv_run_s (L : Nat → Nat) (mt : Nat) (g : hv) (k : Nat) : hv_run L mt g (k + 1) = (hv_run L mt g k).bind fun a => hv_do a (L (hv_pos L mt k).1) (hv_dg L (hv_pos L mt k).1) (hv_sg L (hv_pos L mt k).1) := by rw [hv_run]
theorem hv_dg_10 (L : Nat → Nat) (b i : Nat) : hv_dg L b i < 10 := by unfold hv_dg; omega
theorem hv_sg_2 (L : Nat → Nat) (b : Nat) : hv_sg L b < 2 := by unfold hv_sg; split <;> decide
/-- the digits of a right statement -/
theorem hv_rt_dg {L : Nat → Nat} {n b mt : Nat} (r : hv_rt L n b mt) : ∀ i, i < hv_many (L b) mt → 48 ≤ L (b + (1 + i)) ∧ L (b + (1 + i)) ≤ 57 := fun i hi => by
  have e := hv_len_many (mt := mt) (hv_len_let r.1)
  have e2 : hv_many (L b) mt + 2 ≤ hv_len (L b) mt := by split at e <;> omega
  have g := (r.2 (1 + i) (by omega)).2
  rw [if_neg (by omega), if_neg (by omega), if_neg (by
    rintro ⟨z1, z2⟩
    rw [z1] at hi
    have : hv_many 102 mt = 3 := rfl
    omega)] at g
  exact g
theorem hv_do_M {g g2 : hv} {L : Nat → Nat} {n b : Nat} {x : Nat} (r : hv_rt L n b g.M) (e : hv_do g (L b) (hv_dg L b) x = some g2) : g2.M = hv_mt L b g.M := by
  have iteE : ∀ {P : Prop} {a : hv}, @ite _ P (Classical.propDecidable _) (some a) none = some g2 → P ∧ a = g2 := fun {P a} q => by
    by_cases c : P
    · rw [if_pos c] at q; cases q; exact ⟨c, rfl⟩
    · rw [if_neg c] at q; cases q
  have hl := hv_len_let r.1
  have dg := hv_rt_dg r
  unfold hv_mt
  rcases hl with l | l | l | l | l | l
  · have q0 := dg 0 (by rw [l]; exact (by decide : (0:Nat) < 2))
    have q1 := dg 1 (by rw [l]; exact (by decide : (1:Nat) < 2))
    have D0 : hv_dg L b 0 = L (b + 1) - 48 := hv_dg_eq (i := 0) q0.2
    have D1 : hv_dg L b 1 = L (b + 2) - 48 := hv_dg_eq (i := 1) q1.2
    rw [l, hv_do_r, D0, D1] at e
    obtain ⟨c, rfl⟩ := iteE e
    rw [if_pos ⟨l, c⟩]; rfl
  · rw [if_neg (by omega)]
    rw [l, hv_do_d] at e
    obtain ⟨-, rfl⟩ := iteE e; rfl
  · rw [if_neg (by omega)]
    rw [l, hv_do_c] at e
    obtain ⟨-, rfl⟩ := iteE e; rfl
  · rw [if_neg (by omega)]
    rw [l, hv_do_t] at e
    obtain ⟨-, rfl⟩ := iteE e; rfl
  · rw [if_neg (by omega)]
    rw [l, hv_do_b] at e
    obtain ⟨-, rfl⟩ := iteE e; rfl
  · rw [if_neg (by omega)]
    rw [l, hv_do_f] at e
    obtain ⟨-, rfl⟩ := iteE e; rfl
/-- what the run keeps -/
theorem hv_run_ok {g0 : hv} {L : Nat → Nat} {n : Nat} (ok : hv_ok g0) (so : hv_some g0) (S0 : g0.S = 0) : ∀ k, (∀ j, j < k → hv_rt L n (hv_pos L g0.M j).1 (hv_pos L g0.M j).2) → ∀ g, hv_run L g0.M g0 k = some g → hv_ok g ∧ hv_some g ∧ g.S = 0 ∧ g.M = (hv_pos L g0.M k).2 := by
  intro k
  induction k with
  | zero => intro _ g e; rw [hv_run_0] at e; cases e; rw [hv_pos_0]; exact ⟨ok, so, S0, rfl⟩
  | succ k ih =>
    intro r g e
    rw [hv_run_s] at e
    obtain ⟨a, ea, e2⟩ := Option.bind_eq_some_iff.mp e
    obtain ⟨i1, i2, i3, i4⟩ := ih (fun j hj => r j (by omega)) a ea
    have rk := r k (by omega)
    obtain ⟨o1, o2, o3⟩ := hv_do_ok (hv_len_let rk.1) (fun i _ => hv_dg_10 _ _ i) (hv_sg_2 _ _) i1 i2 i3 e2
    refine ⟨o1, o2, o3, ?_⟩
    rw [hv_pos_s]
    rw [← i4] at rk ⊢
    exact hv_do_M rk e2
/-- run to the end, or stopped at a statement -/
theorem hv_run_end (L : Nat → Nat) (mt : Nat) (g : hv) : ∀ K, (∃ a, hv_run L mt g K = some a) ∨ ∃ j a, j < K ∧ hv_run L mt g j = some a ∧ hv_do a (L (hv_pos L mt j).1) (hv_dg L (hv_pos L mt j).1) (hv_sg L (hv_pos L mt j).1) = none := by
  intro K
  induction K with
  | zero => exact .inl ⟨g, hv_run_0 _ _ _⟩
  | succ k ih =>
    rcases ih with ⟨a, e⟩ | ⟨j, a, hj, q⟩
    · rcases c : hv_do a (L (hv_pos L mt k).1) (hv_dg L (hv_pos L mt k).1) (hv_sg L (hv_pos L mt k).1) with _ | b
      · exact .inr ⟨k, a, by omega, e, c⟩
      · exact .inl ⟨b, by rw [hv_run_s, e]; exact c⟩
    · exact .inr ⟨j, a, by omega, q⟩
/-- the statement j is told to the model -/
def hv_tl (L : Nat → Nat) (mt j : Nat) (τ : am_St) : Prop := τ.1 87 j = hI (hv_pos L mt j).1 ∧ τ.1 88 j = hI (L (hv_pos L mt j).1) ∧ (∀ i, i < hv_many (L (hv_pos L mt j).1) (hv_pos L mt j).2 → τ.1 89 (7 * j + i) = hI (hv_dg L (hv_pos L mt j).1 i)) ∧ (L (hv_pos L mt j).1 = 102 → τ.1 89 (7 * j + 3) = hI (hv_sg L (hv_pos L mt j).1))
theorem hv_many_7 {l mt : Nat} (h : mt ≤ 6) : hv_many l mt ≤ 7 := by
  unfold hv_many
  split
  · decide
  · split
    · omega
    · decide
theorem hv_tl.F9 {L : Nat → Nat} {mt j k : Nat} {σ τ : am_St} (t : hv_tl L mt j σ) (hm : 2 ≤ mt ∧ mt ≤ 6) (hj : j < k) (f : hv_F9 k σ τ) : hv_tl L mt j τ := by
  have m7 := hv_many_7 (l := L (hv_pos L mt j).1) (hv_pos_mt (L := L) hm j).2
  exact ⟨by rw [f 87 j (by omega) (by omega) (by omega)]; exact t.1, by rw [f 88 j (by omega) (by omega) (by omega)]; exact t.2.1, fun i hi => by rw [f 89 _ (by omega) (by omega) (by omega)]; exact t.2.2.1 i hi, fun e => by rw [f 89 _ (by omega) (by omega) (by omega)]; exact t.2.2.2 e⟩
/-- only where the model reads, and what is told -/
def hv_F8 (σ τ : am_St) : Prop := ∀ i j, ¬ (i = 66 ∧ 29 ≤ j ∧ j ≤ 32) → i ≠ 87 → i ≠ 88 → i ≠ 89 → τ.1 i j = σ.1 i j
theorem hv_F8.trans {σ τ υ : am_St} (a : hv_F8 σ τ) (b : hv_F8 τ υ) : hv_F8 σ υ := fun i j h1 h2 h3 h4 => (b i j h1 h2 h3 h4).trans (a i j h1 h2 h3 h4)
theorem hv_F9.F8 {k : Nat} {σ τ : am_St} (f : hv_F9 k σ τ) : hv_F8 σ τ := fun i j h1 h2 h3 h4 => f i j h1 (fun e => e.1.elim h2 h3) (fun e => h4 e.1)
theorem hv_F8.ltm {n : Nat} {L : Nat → Nat} {σ τ : am_St} (f : hv_F8 σ τ) (x : hv_ltm n L σ) : hv_ltm n L τ := ⟨x.1, by rw [f 66 28 (by omega) (by omega) (by omega) (by omega)]; exact x.2.1, fun i hi => by rw [f 86 i (by omega) (by omega) (by omega) (by omega)]; exact x.2.2 i hi⟩
/-- the model reads right statements -/
theorem hv_M_read {n : Nat} {L : Nat → Nat} {σ : am_St} (lt : hv_ltm n L σ) {mt K : Nat} (hm : 2 ≤ mt ∧ mt ≤ 6) (r : ∀ j, j < K → hv_rt L n (hv_pos L mt j).1 (hv_pos L mt j).2) (s29 : σ.1 66 29 = 0) (s30 : σ.1 66 30 = 0) (s31 : σ.1 66 31 = hI mt) (s32 : σ.1 66 32 = 0) : ∀ k, k ≤ K → ∃ τ, am_lp (fun s : am_St => b_M_house_28 s) σ = am_lp (fun s : am_St => b_M_house_28 s) τ ∧ hv_F8 σ τ ∧ τ.1 66 29 = hI (hv_pos L mt k).1 ∧ τ.1 66 30 = 0 ∧ τ.1 66 31 = hI (hv_pos L mt k).2 ∧ τ.1 66 32 = hI k ∧ ∀ j, j < k → hv_tl L mt j τ := by
  have kn := lt.1
  intro k
  induction k with
  | zero => intro _; rw [hv_pos_0]; exact ⟨σ, rfl, fun _ _ _ _ _ _ => rfl, s29, s30, s31, s32, fun j hj => absurd hj (Nat.not_lt_zero j)⟩
  | succ k ih =>
    intro hk
    obtain ⟨τ, e, f, t29, t30, t31, t32, tt⟩ := ih (by omega)
    have rk := r k (by omega)
    have hmk := hv_pos_mt (L := L) hm k
    have le := hv_len_in rk.1 hmk
    have en := hv_rt_end rk
    have ge := (hv_pos_ge (L := L) (n := n) hm k (fun j hj => r j (by omega))).1
    obtain ⟨υ, e2, f2, u32, rr, -⟩ := hv_M_stmt (f.ltm lt) (b := (hv_pos L mt k).1) (k := k) (by omega) (by omega) hmk t29 t30 t31 t32
    obtain ⟨a29, a30, a31, a87, a88, a89, as⟩ := rr rk
    refine ⟨υ, ?_, f.trans f2.F8, by rw [hv_pos_s]; exact a29, a30, by rw [hv_pos_s]; exact a31, u32, fun j hj => ?_⟩
    · rw [e]
      refine am_lp_inl ?_
      show b_M_house_28 τ = _
      have H : f_M_house_53 τ = some (.inl υ) := by
        rw [eq_M_house_53]; unfold g_M_house_53
        rw [e2]; rfl
      unfold b_M_house_28
      rw [if_pos t30, H]
      by_cases z : τ.1 66 32 = 0
      · rw [if_pos z]
      · rw [if_neg z, (f.ltm lt).2.1, t29, if_neg (hI_nle (by omega) (by omega) (by omega))]
    · by_cases z : j = k
      · subst z; exact ⟨a87, a88, a89, as⟩
      · exact (tt j (by omega)).F9 hm (by omega) f2
