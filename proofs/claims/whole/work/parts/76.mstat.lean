/-! PURE: the model reads a whole statement -/
theorem hv_sc.set {L : Nat → Nat} {n b len p : Nat} {σ : am_St} (s : hv_sc L n b len p σ) (i j : Nat) (v : Int32) (h : ¬ (i = 66 ∧ (j = 29 ∨ j = 30))) : hv_sc L n b len p (am_sI σ i j v) := by
  have e1 : (am_sI σ i j v).1 66 29 = σ.1 66 29 := by
    by_cases c : i = 66
    · subst c; rw [hv_g3 _ _ (by omega)]
    · rw [hv_g2 _ (show (66 : Nat) ≠ i from fun e => c e.symm)]
  have e2 : (am_sI σ i j v).1 66 30 = σ.1 66 30 := by
    by_cases c : i = 66
    · subst c; rw [hv_g3 _ _ (by omega)]
    · rw [hv_g2 _ (show (66 : Nat) ≠ i from fun e => c e.symm)]
  unfold hv_sc
  rw [e1, e2]; exact s
theorem hv_sc.of {L : Nat → Nat} {n b len p : Nat} {σ τ : am_St} (s : hv_sc L n b len p σ) (e1 : τ.1 66 29 = σ.1 66 29) (e2 : τ.1 66 30 = σ.1 66 30) : hv_sc L n b len p τ := by
  unfold hv_sc
  rw [e1, e2]; exact s
/-- only where it is, whether it is bad, and the digits told of the statement k -/
def hv_F4 (k : Nat) (σ τ : am_St) : Prop := ∀ i j, ¬ (i = 66 ∧ (j = 29 ∨ j = 30)) → ¬ (i = 89 ∧ 7 * k ≤ j ∧ j < 7 * k + 7) → τ.1 i j = σ.1 i j
theorem hv_F4.trans {k : Nat} {σ τ υ : am_St} (a : hv_F4 k σ τ) (b : hv_F4 k τ υ) : hv_F4 k σ υ := fun i j h1 h2 => (b i j h1 h2).trans (a i j h1 h2)
theorem hv_F4.set {k : Nat} {σ τ : am_St} (f : hv_F4 k σ τ) (b : Nat) (x : Int32) (e : 7 * k ≤ b ∧ b < 7 * k + 7) : hv_F4 k σ (am_sI τ 89 b x) := fun i j h1 h2 => by
  by_cases c : i = 89
  · subst c
    rw [hv_g3 _ _ (show j ≠ b from fun q => by subst q; exact h2 ⟨rfl, e⟩)]
    exact f 89 j h1 h2
  · rw [hv_g2 _ c]; exact f i j h1 h2
theorem hv_F2.F4 {σ τ : am_St} (f : hv_F2 σ τ) (k : Nat) : hv_F4 k σ τ := fun i j h1 _ => f i j h1
theorem hv_F4.F9 {k : Nat} {σ τ : am_St} (f : hv_F4 k σ τ) : hv_F9 k σ τ := fun i j h1 _ h3 => f i j (fun e => h1 ⟨e.1, by omega, by omega⟩) h3
theorem hv_F4.ltm {k n : Nat} {L : Nat → Nat} {σ τ : am_St} (f : hv_F4 k σ τ) (x : hv_ltm n L σ) : hv_ltm n L τ := f.F9.ltm x
/-- the minutes that are known then -/
noncomputable def hv_kn (σ : am_St) (k : Nat) (c : Int32) : Int32 := if c = 114 ∧ (2 ≤ (σ.1 89 (7 * k)).toInt64 ∧ (σ.1 89 (7 * k)).toInt64 ≤ 4) ∧ (2 ≤ (σ.1 89 (7 * k + 1)).toInt64 ∧ (σ.1 89 (7 * k + 1)).toInt64 ≤ 6) then σ.1 89 (7 * k + 1) else σ.1 66 31
theorem hv_M_158 {k : Nat} (hk : k < 32) (c : Int32) (σ : am_St) : f_M_readStatement_158 (hI k) c σ = f_M_readStatement_241 (hv_kn σ k c) σ := by
  have e7 : 7 * hI k = hI (7 * k) := by rw [show (7 : Int32) = hI 7 from rfl, hI_mul]
  have A : f_M_readStatement_214 (hI k) σ = f_M_readStatement_241 (σ.1 66 31) σ := by
    rw [eq_M_readStatement_214]; unfold g_M_readStatement_214
    rw [eq_M_readStatement_215]; unfold g_M_readStatement_215
    rw [if_pos rfl]
  have B : f_M_readStatement_210 (hI k) σ = f_M_readStatement_241 (σ.1 89 (7 * k + 1)) σ := by
    rw [eq_M_readStatement_210]; unfold g_M_readStatement_210
    rw [eq_M_readStatement_215]; unfold g_M_readStatement_215
    rw [if_neg (by decide), e7, hI_add1, if_pos (hI_ix (by omega) (by decide)), hI_clamp (by omega)]
  rw [eq_M_readStatement_158]; unfold g_M_readStatement_158 hv_kn
  by_cases c1 : c = 114
  · rw [if_pos c1, e7, if_pos (hI_ix (by omega) (by decide)), hI_clamp (by omega), hv_M_in]
    simp only [Option.bind_some]
    by_cases c2 : 2 ≤ (σ.1 89 (7 * k)).toInt64 ∧ (σ.1 89 (7 * k)).toInt64 ≤ 4
    · rw [if_pos c2, if_neg (by decide), hI_add1, if_pos (hI_ix (by omega) (by decide)), hI_clamp (by omega), hv_M_in]
      simp only [Option.bind_some]
      by_cases c3 : 2 ≤ (σ.1 89 (7 * k + 1)).toInt64 ∧ (σ.1 89 (7 * k + 1)).toInt64 ≤ 6
      · rw [if_pos c3, if_neg (by decide), if_pos ⟨c1, c2, c3⟩, B]
      · rw [if_neg c3, if_pos rfl, if_neg (fun e => c3 e.2.2), A]
    · rw [if_neg c2, if_pos rfl, if_neg (fun e => c2 e.2.1), A]
  · rw [if_neg c1, if_neg (fun e => c1 e.1), A]
/-- the digits of a statement -/
theorem hv_M_dgs {n : Nat} {L : Nat → Nat} {σ : am_St} (lt : hv_ltm n L σ) {b len k N : Nat} (c : Int32) (hb : b ≤ 96) (hk : k < 32) (hN : N < 8) (s : hv_sc L n b len 1 σ) (g : ∀ i, i < N → (∀ j, j < 1 + i → hv_gp L n b len j) → (hv_gp L n b len (1 + i) ↔ b + (1 + i) < n ∧ 48 ≤ L (b + (1 + i)) ∧ L (b + (1 + i)) ≤ 57)) : ∀ i, i ≤ N → ∃ τ, f_M_readStatement_109 (hI k) c (hI N) 0 σ = am_lp (fun s : Int32 × Int32 × Int32 × Int32 × am_St => b_M_readStatement_109 s.1 s.2.1 s.2.2.1 s.2.2.2.1 s.2.2.2.2) (hI k, c, hI N, hI i, τ) ∧ hv_sc L n b len (1 + i) τ ∧ hv_F4 k σ τ ∧ ((∀ j, j < 1 + i → hv_gp L n b len j) → ∀ m, m < i → τ.1 89 (7 * k + m) = hI (L (b + (1 + m)) - 48)) := by
  intro i
  induction i with
  | zero => intro _; exact ⟨σ, rfl, s, fun _ _ _ _ => rfl, fun _ m hm => absurd hm (Nat.not_lt_zero m)⟩
  | succ i ih =>
    intro hi
    obtain ⟨τ, e, s1, f1, d1⟩ := ih (by omega)
    obtain ⟨v, υ, e2, s2, f2, d2⟩ := hv_M_rd (f1.ltm lt) (p := 1 + i) hb (by omega) s1 (g i (by omega))
    refine ⟨am_sI υ 89 (7 * k + i) v, ?_, s2.set 89 _ _ (by omega), (f1.trans (f2.F4 k)).set _ _ (by omega), fun h m hm => ?_⟩
    · rw [e]
      refine am_lp_inl ?_
      show b_M_readStatement_109 (hI k) c (hI N) (hI i) τ = _
      unfold b_M_readStatement_109
      rw [if_neg (hI_nle (by omega) (by omega) (by omega)), e2]
      simp only [Option.bind_some]
      rw [show 7 * hI k = hI (7 * k) by rw [show (7 : Int32) = hI 7 from rfl, hI_mul], hI_add, if_pos (hI_ix (by omega) (by decide)), hI_clamp (by omega), hI_add1]
    · by_cases z : m = i
      · subst z
        rw [hv_g1]
        exact d2 h
      · rw [hv_g3 _ _ (by omega), f2 89 _ (by omega)]
        exact d1 (fun j hj => h j (by omega)) m (by omega)
theorem hv_M_76 {k : Nat} {c : Int32} {b : Nat} {σ : am_St} (s29 : σ.1 66 29 = hI b) (x : Nat) (hx : x < 2) : f_M_readStatement_76 (hI k) c (hI x) σ = (f_M_digitsFor c (am_sI (am_sI σ 66 30 (hI x)) 66 29 (hI (b + (1 - x))))).bind (fun p2 => f_M_readStatement_109 (hI k) c p2.1 0 p2.2) := by
  rw [eq_M_readStatement_76]; unfold g_M_readStatement_76
  have hx2 : x = 0 ∨ x = 1 := by omega
  rcases hx2 with rfl | rfl
  · rw [if_pos (by decide)]
    dsimp only
    rw [hv_g1, if_pos (by decide), eq_M_readStatement_96]
    unfold g_M_readStatement_96
    dsimp only
    rw [hv_g3 _ _ (show (29 : Nat) ≠ 30 by decide), s29, hI_add1]
  · rw [if_pos (by decide)]
    dsimp only
    rw [hv_g1, if_neg (by decide), eq_M_readStatement_96]
    unfold g_M_readStatement_96
    dsimp only
    rw [hv_g3 _ _ (show (29 : Nat) ≠ 30 by decide), s29, Int32.add_zero]
    rfl
theorem hv_M_27 {k : Nat} {c : Int32} {σ : am_St} (s30 : σ.1 66 30 = 0) (x : Nat) (hx : x = if c = 114 ∨ c = 100 ∨ c = 99 ∨ c = 116 ∨ c = 98 ∨ c = 102 then 0 else 1) : f_M_readStatement_27 (hI k) c σ = f_M_readStatement_76 (hI k) c (hI x) σ := by
  have A : f_M_readStatement_75 (hI k) c σ = f_M_readStatement_76 (hI k) c (hI 0) σ := by
    rw [eq_M_readStatement_75]; unfold g_M_readStatement_75; rfl
  have B : f_M_readStatement_71 (hI k) c σ = f_M_readStatement_76 (hI k) c (hI 1) σ := by
    rw [eq_M_readStatement_71]; unfold g_M_readStatement_71; rfl
  rw [eq_M_readStatement_27]; unfold g_M_readStatement_27
  rw [if_pos s30, hx, A, B]
  by_cases c1 : c = 114
  · rw [if_pos c1, if_pos (.inl c1)]
  rw [if_neg c1]
  by_cases c2 : c = 100
  · rw [if_pos c2, if_pos (.inr (.inl c2))]
  rw [if_neg c2]
  by_cases c3 : c = 99
  · rw [if_pos c3, if_pos (.inr (.inr (.inl c3)))]
  rw [if_neg c3]
  by_cases c4 : c = 116
  · rw [if_pos c4, if_pos (.inr (.inr (.inr (.inl c4))))]
  rw [if_neg c4]
  by_cases c5 : c = 98
  · rw [if_pos c5, if_pos (.inr (.inr (.inr (.inr (.inl c5)))))]
  rw [if_neg c5]
  by_cases c6 : c = 102
  · rw [if_pos c6, if_pos (.inr (.inr (.inr (.inr (.inr c6)))))]
  rw [if_neg c6, if_neg (fun e => by rcases e with e | e | e | e | e | e; exact c1 e; exact c2 e; exact c3 e; exact c4 e; exact c5 e; exact c6 e)]
theorem hv_M_df {mt : Nat} {σ : am_St} (s31 : σ.1 66 31 = hI mt) (hm : 2 ≤ mt ∧ mt ≤ 6) (c : Int32) : ∃ N, N < 8 ∧ f_M_digitsFor c σ = some (hI N, σ) ∧ ∀ l, l < 256 → c = hI l → N = hv_many l mt := by
  have E : ∀ l k, l < 256 → k < 256 → c = hI l → (c = hI k ↔ l = k) := fun l k hl hk e => by rw [e]; exact hI_inj (by omega) (by omega)
  rw [eq_M_digitsFor]; unfold g_M_digitsFor hv_many
  by_cases c1 : c = 98
  · rw [if_pos c1]
    refine ⟨2, by decide, rfl, fun l hl e => ?_⟩
    rw [if_pos (.inr (.inr ((E l 98 hl (by decide) e).mp c1)))]
  rw [if_neg c1]
  by_cases c2 : c = 100
  · rw [if_pos c2]
    refine ⟨2, by decide, rfl, fun l hl e => ?_⟩
    rw [if_pos (.inr (.inl ((E l 100 hl (by decide) e).mp c2)))]
  rw [if_neg c2]
  by_cases c3 : c = 114
  · rw [if_pos c3]
    refine ⟨2, by decide, rfl, fun l hl e => ?_⟩
    rw [if_pos (.inl ((E l 114 hl (by decide) e).mp c3))]
  rw [if_neg c3]
  have W : ∀ l, l < 256 → c = hI l → ¬ (l = 114 ∨ l = 100 ∨ l = 98) := fun l hl e z => by
    rcases z with z | z | z
    · exact c3 ((E l 114 hl (by decide) e).mpr z)
    · exact c2 ((E l 100 hl (by decide) e).mpr z)
    · exact c1 ((E l 98 hl (by decide) e).mpr z)
  by_cases c4 : c = 116
  · rw [if_pos c4, s31, show (1 : Int32) + hI mt = hI (1 + mt) from hI_add 1 mt]
    refine ⟨1 + mt, by omega, rfl, fun l hl e => ?_⟩
    rw [if_neg (W l hl e), if_pos ((E l 116 hl (by decide) e).mp c4)]
  · rw [if_neg c4]
    refine ⟨3, by decide, rfl, fun l hl e => ?_⟩
    rw [if_neg (W l hl e), if_neg (fun z => c4 ((E l 116 hl (by decide) e).mpr z))]
theorem hv_M_stmt {n : Nat} {L : Nat → Nat} {σ : am_St} (lt : hv_ltm n L σ) {b mt k : Nat} (hb : b ≤ n) (hk : k < 32) (hm : 2 ≤ mt ∧ mt ≤ 6) (s29 : σ.1 66 29 = hI b) (s30 : σ.1 66 30 = 0) (s31 : σ.1 66 31 = hI mt) (s32 : σ.1 66 32 = hI k) : ∃ τ, f_M_readStatement σ = some τ ∧ hv_F9 k σ τ ∧ τ.1 66 32 = hI (k + 1) ∧ (hv_rt L n b mt → τ.1 66 29 = hI (b + hv_len (L b) mt) ∧ τ.1 66 30 = 0 ∧ τ.1 66 31 = hI (hv_mt L b mt) ∧ τ.1 87 k = hI b ∧ τ.1 88 k = hI (L b) ∧ (∀ i, i < hv_many (L b) mt → τ.1 89 (7 * k + i) = hI (hv_dg L b i)) ∧ (L b = 102 → τ.1 89 (7 * k + 3) = hI (hv_sg L b))) ∧ (∀ w, ¬ hv_gp L n b (hv_len (L b) mt) w → (∀ p, p < w → hv_gp L n b (hv_len (L b) mt) p) → (w = 0 ∨ w < hv_len (L b) mt) → τ.1 66 29 = hI (b + w) ∧ τ.1 66 30 = 1) := by
  have kn := lt.1
  generalize hlen : hv_len (L b) mt = len
  generalize hc : (if b < n then hI (L b) else (-1 : Int32)) = c
  have eC : b < n → c = hI (L b) := fun q => by rw [← hc, if_pos q]
  have lb : b < n → L b < 256 := fun q => (lt.2.2 b q).2
  -- the state behind the letter
  have f0 : hv_F9 k σ (am_sI (am_sI σ 87 k (hI b)) 88 k c) := ((hv_F9.rfl' k σ).set 87 k _ (by omega)).set 88 k _ (by omega)
  generalize hσ1 : am_sI (am_sI σ 87 k (hI b)) 88 k c = σ1 at f0
  have k66 : ∀ j, σ1.1 66 j = σ.1 66 j := fun j => by rw [← hσ1, hv_g2 _ (by decide), hv_g2 _ (by decide)]
  have k87 : σ1.1 87 k = hI b := by rw [← hσ1, hv_g2 _ (by decide), hv_g1]
  have k88 : σ1.1 88 k = c := by rw [← hσ1, hv_g1]
  -- the letter
  generalize hx : (if c = 114 ∨ c = 100 ∨ c = 99 ∨ c = 116 ∨ c = 98 ∨ c = 102 then 0 else 1 : Nat) = x
  have EL : ∀ m, m < 256 → b < n → (c = hI m ↔ L b = m) := fun m hm q => by rw [eC q]; exact hI_inj (by have := lb q; omega) (by omega)
  have g0 : (x = 0 ↔ hv_gp L n b len 0) ∧ x < 2 := by
    refine ⟨?_, by rw [← hx]; split <;> decide⟩
    rw [← hx]
    unfold hv_gp
    rw [if_pos rfl]
    by_cases q : b < n
    · have e1 := EL 114 (by decide) q
      have e2 := EL 100 (by decide) q
      have e3 := EL 99 (by decide) q
      have e4 := EL 116 (by decide) q
      have e5 := EL 98 (by decide) q
      have e6 := EL 102 (by decide) q
      by_cases y : L b = 114 ∨ L b = 100 ∨ L b = 99 ∨ L b = 116 ∨ L b = 98 ∨ L b = 102
      · rw [if_pos (by rcases y with y | y | y | y | y | y; exact .inl (e1.mpr y); exact .inr (.inl (e2.mpr y)); exact .inr (.inr (.inl (e3.mpr y))); exact .inr (.inr (.inr (.inl (e4.mpr y)))); exact .inr (.inr (.inr (.inr (.inl (e5.mpr y))))); exact .inr (.inr (.inr (.inr (.inr (e6.mpr y))))))]
        refine ⟨fun _ => ⟨q, ?_⟩, fun _ => rfl⟩
        rw [← hlen]
        rcases y with y | y | y | y | y | y
        · rw [y]; exact (by decide : (0:Nat) < 4)
        · rw [y]; exact (by decide : (0:Nat) < 4)
        · rw [y]; exact (by decide : (0:Nat) < 5)
        · rw [y]; show 0 < 3 + mt; omega
        · rw [y]; exact (by decide : (0:Nat) < 4)
        · rw [y]; exact (by decide : (0:Nat) < 6)
      · rw [if_neg (fun z => y (by rcases z with z | z | z | z | z | z; exact .inl (e1.mp z); exact .inr (.inl (e2.mp z)); exact .inr (.inr (.inl (e3.mp z))); exact .inr (.inr (.inr (.inl (e4.mp z)))); exact .inr (.inr (.inr (.inr (.inl (e5.mp z))))); exact .inr (.inr (.inr (.inr (.inr (e6.mp z)))))))]
        refine ⟨fun z => absurd z (by decide), fun z => ?_⟩
        have := hv_len_let (l := L b) (mt := mt) (by rw [hlen]; exact z.2)
        exact absurd (by unfold hv_let at this; omega) y
    · have : c = -1 := by rw [← hc, if_neg q]
      rw [this, if_neg (by decide)]
      exact ⟨fun z => absurd z (by decide), fun z => absurd z.1 q⟩
  obtain ⟨g0, x2⟩ := g0
  have sc1 : hv_sc L n b len 1 (am_sI (am_sI σ1 66 30 (hI x)) 66 29 (hI (b + (1 - x)))) := by
    have x01 : x = 0 ∨ x = 1 := by omega
    rcases x01 with z | z
    · subst z
      refine .inl ⟨fun j hj => ?_, hv_g1 _ _ _ _, by rw [hv_g3 _ _ (by decide), hv_g1]; rfl⟩
      rw [show j = 0 by omega]; exact g0.mp rfl
    · subst z
      exact .inr ⟨0, by decide, fun q => absurd (g0.mpr q) (by decide), fun j hj => absurd hj (Nat.not_lt_zero j), hv_g1 _ _ _ _, by rw [hv_g3 _ _ (by decide), hv_g1]; rfl⟩
  have f2 : hv_F2 σ1 (am_sI (am_sI σ1 66 30 (hI x)) 66 29 (hI (b + (1 - x)))) := hv_F2.mk2 _ _ _
  generalize hσ2 : am_sI (am_sI σ1 66 30 (hI x)) 66 29 (hI (b + (1 - x))) = σ2 at sc1 f2
  obtain ⟨N, hN, eN, mN⟩ := hv_M_df (mt := mt) (σ := σ2) (by rw [f2 66 31 (by omega), k66, s31]) hm c
  have START : f_M_readStatement σ = f_M_readStatement_109 (hI k) c (hI N) 0 σ2 := by
    rw [eq_M_readStatement]; unfold g_M_readStatement
    dsimp only
    rw [lt.here (by omega) s29]
    simp only [Option.bind_some]
    rw [s32, if_pos (hI_ix (by omega) (by decide)), if_pos (hI_ix (by omega) (by decide)), hI_clamp (by omega), s29, hc, hσ1, hv_M_27 (by rw [k66, s30]) x hx.symm, hv_M_76 (b := b) (by rw [k66, s29]) x x2, hσ2, eN]
    rfl
  have lt2 : hv_ltm n L σ2 := (f0.trans (f2.F9 k)).ltm lt
  -- what the places are
  have lenE : hv_gp L n b len 0 → N = hv_many (L b) mt ∧ len = N + (if L b = 102 then 3 else 2) ∧ 2 ≤ N := fun q => by
    have q2 := q.2
    rw [if_pos rfl] at q2
    have bn : b < n := q.1
    have e := mN (L b) (lb bn) (eC bn)
    have := hv_len_many (mt := mt) (hv_len_let (l := L b) (mt := mt) (by rw [hlen]; exact q2))
    refine ⟨e, by rw [← hlen, this, e], ?_⟩
    rw [e]; unfold hv_many
    split
    · omega
    · split
      · omega
      · omega
  have gd : ∀ i, i < N → (∀ j, j < 1 + i → hv_gp L n b len j) → (hv_gp L n b len (1 + i) ↔ b + (1 + i) < n ∧ 48 ≤ L (b + (1 + i)) ∧ L (b + (1 + i)) ≤ 57) := fun i hi h => by
    obtain ⟨l1, l2, l3⟩ := lenE (h 0 (by omega))
    unfold hv_gp
    rw [if_neg (by omega), if_neg (by split at l2 <;> omega), if_neg (by
      rintro ⟨z1, z2⟩
      rw [z1] at l1
      have : hv_many 102 mt = 3 := rfl
      omega)]
  obtain ⟨σ3, e3, s3, f3, d3⟩ := hv_M_dgs lt2 (c := c) (by omega) hk hN sc1 gd N (Nat.le_refl _)
  have lt3 := f3.ltm lt2
  have r32 : σ3.1 66 32 = hI k := by rw [f3 66 32 (by omega) (by omega), f2 66 32 (by omega), k66, s32]
  have r31 : σ3.1 66 31 = hI mt := by rw [f3 66 31 (by omega) (by omega), f2 66 31 (by omega), k66, s31]
  have r87 : σ3.1 87 k = hI b := by rw [f3 87 k (by omega) (by omega), f2 87 k (by omega), k87]
  have r88 : σ3.1 88 k = c := by rw [f3 88 k (by omega) (by omega), f2 88 k (by omega), k88]
  have F3 : hv_F9 k σ σ3 := f0.trans ((f2.F9 k).trans f3.F9)
  -- the known minutes, then the end
  have FIN : ∀ (σ4 : am_St) (p : Nat), p < 20 → 0 < p → hv_F4 k σ3 σ4 → hv_sc L n b len p σ4 → (hv_gp L n b len 0 → p = len - 1) → (hv_gp L n b len 0 → ∀ m, m < N → σ4.1 89 (7 * k + m) = σ3.1 89 (7 * k + m)) → (hv_rt L n b mt → L b = 102 → σ4.1 89 (7 * k + 3) = hI (hv_sg L b)) → ∃ τ, f_M_readStatement_158 (hI k) c σ4 = some τ ∧ hv_F9 k σ τ ∧ τ.1 66 32 = hI (k + 1) ∧ (hv_rt L n b mt → τ.1 66 29 = hI (b + len) ∧ τ.1 66 30 = 0 ∧ τ.1 66 31 = hI (hv_mt L b mt) ∧ τ.1 87 k = hI b ∧ τ.1 88 k = hI (L b) ∧ (∀ i, i < hv_many (L b) mt → τ.1 89 (7 * k + i) = hI (hv_dg L b i)) ∧ (L b = 102 → τ.1 89 (7 * k + 3) = hI (hv_sg L b))) ∧ (∀ w, ¬ hv_gp L n b len w → (∀ p, p < w → hv_gp L n b len p) → (w = 0 ∨ w < len) → τ.1 66 29 = hI (b + w) ∧ τ.1 66 30 = 1) := by
    intro σ4 p hp p0 f4 s4 pe d4 sg4
    rw [hv_M_158 hk]
    obtain ⟨τ, e, s, y, z32, fr⟩ := hv_M_end (f4.ltm lt3) (p := p) (k := k) (by omega) hp (hv_kn σ4 k c) (by rw [f4 66 32 (by omega) (by omega), r32]) s4 (fun h => by
      have q0 := h 0 p0
      unfold hv_gp
      rw [if_neg (by omega), if_pos (pe q0)])
    have G : ∀ i j, i ≠ 66 → τ.1 i j = σ4.1 i j := fun i j q => fr i j (fun z => q z.1)
    refine ⟨τ, e, F3.trans (f4.F9.trans (fun i j h1 _ _ => fr i j h1)), z32, fun r => ?_, fun w w1 w2 w3 => ?_⟩
    · have rl : ∀ p, p < len → hv_gp L n b len p := fun p hp => by have := r.2 p (by rw [hlen]; exact hp); rw [hlen] at this; exact this
      have l0 : 0 < len := by have := r.1; rw [hlen] at this; exact this
      have q0 := rl 0 l0
      have pl := pe q0
      obtain ⟨le1, le2, le3⟩ := lenE q0
      have le4 : N + 2 ≤ len := by split at le2 <;> omega
      have dd : ∀ m, m < N → σ4.1 89 (7 * k + m) = hI (hv_dg L b m) := fun m hm' => by
        rw [d4 q0 m hm', d3 (fun j hj => rl j (by omega)) m hm']
        have gm := (gd m hm' (fun j hj => rl j (by omega))).mp (rl (1 + m) (by omega))
        rw [hv_dg_eq (by rw [show b + 1 + m = b + (1 + m) by omega]; exact gm.2.2), show b + 1 + m = b + (1 + m) by omega]
      have DONE : τ.1 66 29 = hI (b + len) ∧ τ.1 66 30 = 0 := by
        rcases s with ⟨-, a1, a2⟩ | ⟨w, w1, w2, -⟩
        · exact ⟨by rw [a1, show p + 1 = len by omega], a2⟩
        · exact absurd (rl w (by omega)) w2
      refine ⟨DONE.1, DONE.2, ?_, by rw [G _ _ (by decide), f4 87 k (by omega) (by omega), r87], by rw [G _ _ (by decide), f4 88 k (by omega) (by omega), r88, eC q0.1], fun i hi => by rw [G _ _ (by decide), dd i (by omega)], fun q => by rw [G _ _ (by decide)]; exact sg4 r q⟩
      rw [y]
      unfold hv_kn hv_mt
      have D0 : σ4.1 89 (7 * k) = hI (hv_dg L b 0) := dd 0 (by omega)
      have D1 : σ4.1 89 (7 * k + 1) = hI (hv_dg L b 1) := dd 1 (by omega)
      have h0 : b + 1 < n ∧ 48 ≤ L (b + 1) ∧ L (b + 1) ≤ 57 := (gd 0 (by omega) (fun j hj => rl j (by omega))).mp (rl (1 + 0) (by omega))
      have h1 : b + 2 < n ∧ 48 ≤ L (b + 2) ∧ L (b + 2) ≤ 57 := (gd 1 (by omega) (fun j hj => rl j (by omega))).mp (rl (1 + 1) (by omega))
      rw [show hv_dg L b 0 = L (b + 1) - 48 from hv_dg_eq (i := 0) h0.2.2] at D0
      rw [show hv_dg L b 1 = L (b + 2) - 48 from hv_dg_eq (i := 1) h1.2.2] at D1
      rw [D0, D1, f4 66 31 (by omega) (by omega), r31, hI_long (by omega), hI_long (by omega)]
      have E1 := EL 114 (by decide) q0.1
      have i1 := hL_le (n := 2) (m := L (b + 1) - 48) (by decide) (by omega)
      have i2 := hL_le (n := L (b + 1) - 48) (m := 4) (by omega) (by decide)
      have i3 := hL_le (n := 2) (m := L (b + 2) - 48) (by decide) (by omega)
      have i4 := hL_le (n := L (b + 2) - 48) (m := 6) (by omega) (by decide)
      by_cases q : L b = 114 ∧ 2 ≤ L (b + 1) - 48 ∧ L (b + 1) - 48 ≤ 4 ∧ 2 ≤ L (b + 2) - 48 ∧ L (b + 2) - 48 ≤ 6
      · rw [if_pos q, if_pos ⟨E1.mpr q.1, ⟨i1.mpr q.2.1, i2.mpr q.2.2.1⟩, i3.mpr q.2.2.2.1, i4.mpr q.2.2.2.2⟩]
      · rw [if_neg q, if_neg (fun z => q ⟨E1.mp z.1, i1.mp z.2.1.1, i2.mp z.2.1.2, i3.mp z.2.2.1, i4.mp z.2.2.2⟩)]
    · rcases s with ⟨a0, a1, a2⟩ | ⟨v, v1, v2, v3, v4, v5⟩
      · exfalso
        by_cases q0 : hv_gp L n b len 0
        · have := pe q0
          have := lenE q0
          rcases w3 with w3 | w3
          · subst w3; exact w1 q0
          · exact w1 (a0 w (by omega))
        · exact q0 (a0 0 (by omega))
      · have : v = w := by
          by_cases c1 : v < w
          · exact absurd (w2 v c1) v2
          · by_cases c2 : w < v
            · exact absurd (v3 w c2) w1
            · omega
        rw [← this]; exact ⟨v4, v5⟩
  rw [START, e3]
  have PK : hv_F4 k σ3 σ3 := fun _ _ _ _ => rfl
  by_cases q : c = 102
  · have bn : b < n := by
      by_cases z : b < n
      · exact z
      · exfalso; rw [← hc, if_neg z] at q; exact absurd q (by decide)
    have l102 : L b = 102 := (EL 102 (by decide) bn).mp q
    have q0 : hv_gp L n b len 0 := ⟨bn, by rw [if_pos rfl, ← hlen, l102]; exact (by decide : (0:Nat) < 6)⟩
    obtain ⟨l1, l2, l3⟩ := lenE q0
    rw [l102] at l1
    have N3 : N = 3 := l1
    rw [if_pos l102] at l2
    obtain ⟨v, υ, eS, sS, fS, dS⟩ := hv_M_sg lt3 (p := 1 + N) (by omega) (by omega) s3 (fun h => by
      unfold hv_gp
      rw [if_neg (by omega), if_neg (by omega), if_pos ⟨l102, by omega⟩])
    obtain ⟨τ, eT, rest⟩ := FIN (am_sI υ 89 (7 * k + 3) v) (1 + N + 1) (by omega) (by omega) ((fS.F4 k).set _ _ (by omega)) (sS.set 89 _ _ (by omega)) (fun _ => by omega) (fun _ m hm' => by rw [hv_g3 _ _ (by omega), fS 89 _ (by omega)]) (fun r _ => by
      rw [hv_g1, dS (fun j hj => by have := r.2 j (by rw [hlen]; omega); rw [hlen] at this; exact this)]
      unfold hv_sg
      rw [show b + (1 + N) = b + 4 by omega])
    refine ⟨τ, ?_, rest⟩
    refine am_lp_inr (x := some τ) ?_
    show b_M_readStatement_109 (hI k) c (hI N) (hI N) σ3 = _
    unfold b_M_readStatement_109
    rw [if_pos (Int32.le_refl _), if_pos q, eS]
    simp only [Option.bind_some]
    rw [show 7 * hI k = hI (7 * k) by rw [show (7 : Int32) = hI 7 from rfl, hI_mul], show hI (7 * k) + 3 = hI (7 * k + 3) from hI_add _ 3, if_pos (hI_ix (by omega) (by decide)), hI_clamp (by omega), eT]
  · obtain ⟨τ, eT, rest⟩ := FIN σ3 (1 + N) (by omega) (by omega) PK s3 (fun q0 => by
      obtain ⟨l1, l2, l3⟩ := lenE q0
      rw [if_neg (fun z => q ((EL 102 (by decide) q0.1).mpr z))] at l2
      omega) (fun _ _ _ => rfl) (fun r z => by
      exfalso
      have q0 := r.2 0 (by rw [hlen]; have := r.1; rw [hlen] at this; exact this)
      exact q ((EL 102 (by decide) q0.1).mpr z))
    refine ⟨τ, ?_, rest⟩
    refine am_lp_inr (x := some τ) ?_
    show b_M_readStatement_109 (hI k) c (hI N) (hI N) σ3 = _
    unfold b_M_readStatement_109
    rw [if_pos (Int32.le_refl _), if_neg q, eT]
