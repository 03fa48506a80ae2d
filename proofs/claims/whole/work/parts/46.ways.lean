/-! PURE: the class counts the ways -/
theorem hv_back1 : ∀ a, a < 6 → ∀ k, k ≤ a → hI a + hI k * (-1) = hI (a - k) := by
  have : ∀ a, a < 6 → ∀ k, k < 6 → k ≤ a → hI a + hI k * (-1) = hI (a - k) := by decide +kernel
  exact fun a ha k hk => this a ha k (by omega) hk
theorem hv_back2 : ∀ m, m < 6 → hI m - (-1) = hI (m + 1) := by decide +kernel
theorem hv_back3 : ∀ m, m < 16 → 0 < m → hI m - 1 = hI (m - 1) := by decide +kernel
theorem hv_back4 : ∀ m, m < 6 → 0 + hI m * 1 = hI m := by decide +kernel
theorem hv_wo.keep {h : hv} {may : Nat → Nat → Bool} {σ τ : am_St} (w : hv_wo h may σ) (e : ∀ i, i < 57 → τ.1 i = σ.1 i) : hv_wo h may τ := hv_wo.mk
  (by rw [e 54 (by decide)]; exact w.R) (by rw [e 54 (by decide)]; exact w.M) (fun m hm => by rw [e 55 (by decide)]; exact w.op m hm) (fun r hr => by rw [e 56 (by decide)]; exact w.st r hr)
theorem hv_W_next_57 {h : hv} (ok : hv_ok h) {may : Nat → Nat → Bool} {σ : am_St} (w : hv_wo h may σ) {m r : Nat} (hm : m < 6) (hr : r < h.R) (v : Nat → Nat) (hv' : ∀ q, q < h.R → σ.1 57 (m * 4 + q) = hI (v q)) : f_W_sumNextTo_57 (hI m) (hI r) σ = some (hI (hv_sum h.R fun q => if hv_step h r q then v q else 0), σ) := by
  have kR := ok.R
  rw [eq_W_sumNextTo_57]; unfold g_W_sumNextTo_57
  rw [if_neg (hI_lt0 (show r < 2 ^ 31 by omega)), if_neg (hI_nge4 (show r < 4 by omega)), if_pos (hI_ix (show r < 4 by omega) (by decide)), hI_clamp (show r < 2 ^ 31 by omega), w.st r (by omega), eq_W_sumNextTo_57_26]
  unfold g_W_sumNextTo_57_26 f_W_sumNextTo_57_31
  have L := hv_up (body := fun s : Int32 × Int32 × Int32 × Int32 × am_St => b_W_sumNextTo_57_31 s.1 s.2.1 s.2.2.1 s.2.2.2.1 s.2.2.2.2) (P := fun x => x = (hI (hv_sum h.R fun q => if hv_step h r q then v q else 0), σ)) h.R (fun i s => s = (hI m, hI (hv_sum i fun q => if hv_step h r q then v q else 0), hI (h.door r ||| 2 ^ r), hI i, σ)) 0 (Nat.zero_le _) (hI m, 0, hI (h.door r ||| 2 ^ r), 0, σ) rfl ?_ ?_
  · obtain ⟨x, e, rfl⟩ := L
    exact e
  · rintro i s hi rfl
    refine .inl ⟨_, ?_, rfl⟩
    show b_W_sumNextTo_57_31 (hI m) (hI _) (hI (h.door r ||| 2 ^ r)) (hI i) σ = _
    unfold b_W_sumNextTo_57_31
    have e3 : hI m * 4 + hI i = hI (m * 4 + i) := by rw [show (4 : Int32) = hI 4 from rfl, hI_mul, hI_add]
    rw [w.R, if_neg (hI_nle (by omega) (by omega) (by omega))]
    dsimp only
    rw [e3, if_neg (hI_lt0 (by omega)), if_neg (hI_nge24 (n := m * 4 + i) (by omega))]
    rw [hv_sum_succ]
    by_cases c : hv_step h r i = true
    · rw [if_pos ((hv_step_bit ok (by omega) (by omega)).mpr c), if_pos (hI_ix (show m * 4 + i < 24 by omega) (by decide)), hI_clamp (by omega), hv' i hi, if_pos c, eq_W_sumNextTo_57_80]
      unfold g_W_sumNextTo_57_80
      dsimp only
      rw [hI_add, hI_add1]
    · rw [if_neg (fun e => c ((hv_step_bit ok (by omega) (by omega)).mp e)), if_neg c, eq_W_sumNextTo_57_80]
      unfold g_W_sumNextTo_57_80
      dsimp only
      rw [Nat.add_zero, hI_add1]
  · rintro s rfl
    refine ⟨_, ?_, rfl⟩
    show b_W_sumNextTo_57_31 (hI m) (hI _) (hI (h.door r ||| 2 ^ r)) (hI h.R) σ = _
    unfold b_W_sumNextTo_57_31
    rw [w.R, if_pos (Int32.le_refl _)]
theorem hv_W_row_57 {h : hv} (ok : hv_ok h) {may : Nat → Nat → Bool} {σ : am_St} (w : hv_wo h may σ) (x2 x3 : Int32) (k m p : Nat) (hk : k < 6) (hm : m < 6) (hp : k ≠ 0 → hI m - x3 = hI p ∧ p < 6 ∧ p ≠ m) (V : Nat → Nat → Nat) (hV : ∀ r, r < h.R → V m r = (if k = 0 then 1 else hv_sum h.R fun q => if hv_step h r q then V p q else 0) * (if may m r then 1 else 0)) (old : k ≠ 0 → ∀ q, q < h.R → σ.1 57 (p * 4 + q) = hI (V p q)) : ∃ x, f_W_sum_57_23 x2 x3 (hI k) (hI m) 0 σ = some x ∧ ∃ τ, x = .inl (x2, x3, hI (k + 1), τ) ∧ τ.2 = σ.2 ∧ (∀ i, i ≠ 57 → τ.1 i = σ.1 i) ∧ (∀ q, q < h.R → τ.1 57 (m * 4 + q) = hI (V m q)) ∧ (∀ j, j < m * 4 ∨ m * 4 + 4 ≤ j → τ.1 57 j = σ.1 57 j) := by
  have kR := ok.R
  unfold f_W_sum_57_23
  refine hv_up h.R (fun i s => s.1 = x2 ∧ s.2.1 = x3 ∧ s.2.2.1 = hI k ∧ s.2.2.2.1 = hI m ∧ s.2.2.2.2.1 = hI i ∧ s.2.2.2.2.2.2 = σ.2 ∧ (∀ i, i ≠ 57 → s.2.2.2.2.2.1 i = σ.1 i) ∧ (∀ q, q < i → s.2.2.2.2.2.1 57 (m * 4 + q) = hI (V m q)) ∧ (∀ j, j < m * 4 ∨ m * 4 + 4 ≤ j → s.2.2.2.2.2.1 57 j = σ.1 57 j)) 0 (Nat.zero_le _) _ ⟨rfl, rfl, rfl, rfl, rfl, rfl, fun _ _ => rfl, fun q hq => absurd hq (Nat.not_lt_zero q), fun _ _ => rfl⟩ ?_ ?_
  · rintro i ⟨y2, y3, y4, y5, y6, τ⟩ hi ⟨e1, e2, e3, e4, e5, t1, t2, t3, t4⟩
    dsimp only at e1 e2 e3 e4 e5 t1 t2 t3 t4
    subst e1 e2 e3 e4 e5
    refine .inl ?_
    have w2 : hv_wo h may τ := w.keep fun j hj => t2 j (by omega)
    have e3 : hI m * 4 + hI i = hI (m * 4 + i) := by rw [show (4 : Int32) = hI 4 from rfl, hI_mul, hI_add]
    have B : ∀ n : Nat, V m i = n * (if may m i then 1 else 0) → ∃ s2, f_W_sum_57_86 y2 y3 (hI k) (hI m) (hI i) (hI (m * 4 + i)) (hI (m * 4 + i)) (hI n) τ = some (.inl s2) ∧ s2.1 = y2 ∧ s2.2.1 = y3 ∧ s2.2.2.1 = hI k ∧ s2.2.2.2.1 = hI m ∧ s2.2.2.2.2.1 = hI (i + 1) ∧ s2.2.2.2.2.2.2 = σ.2 ∧ (∀ i, i ≠ 57 → s2.2.2.2.2.2.1 i = σ.1 i) ∧ (∀ q, q < i + 1 → s2.2.2.2.2.2.1 57 (m * 4 + q) = hI (V m q)) ∧ (∀ j, j < m * 4 ∨ m * 4 + 4 ≤ j → s2.2.2.2.2.2.1 57 j = σ.1 57 j) := by
      intro n hn
      rw [eq_W_sum_57_86]; unfold g_W_sum_57_86
      have ix : am_ix (hI (m * 4 + i)) 24 = true := hI_ix (by omega) (by decide)
      rw [if_pos ix]
      dsimp only
      rw [if_pos ix, if_pos (hI_ix hm (by decide)), if_pos ix, hI_clamp (by omega), hI_clamp (by omega), hv_g1, hv_g2 _ (show (55 : Nat) ≠ 57 by decide), (w2.op m hm).has (show i < 4 by omega) hi, eq_W_sum_57_106]
      unfold g_W_sum_57_106
      refine ⟨_, rfl, rfl, rfl, rfl, rfl, hI_add1 i, t1, fun j hj => ?_, fun q hq => ?_, fun j hj => ?_⟩
      · dsimp only
        rw [hv_g2 _ hj, hv_g2 _ hj]; exact t2 j hj
      · dsimp only
        by_cases c : q = i
        · subst c
          rw [hv_g1, hn]
          cases may m q
          · rw [if_neg (by decide), if_neg (by decide), Nat.mul_zero, Int32.mul_zero]; rfl
          · rw [if_pos rfl, if_pos rfl, Nat.mul_one, Int32.mul_one]
        · rw [hv_g3 _ _ (by omega), hv_g3 _ _ (by omega)]; exact t3 q (by omega)
      · dsimp only
        rw [hv_g3 _ _ (by omega), hv_g3 _ _ (by omega)]; exact t4 j hj
    show ∃ s2, b_W_sum_57_23 y2 y3 (hI k) (hI m) (hI i) τ = _ ∧ _
    unfold b_W_sum_57_23
    rw [w2.R, if_neg (hI_nle (by omega) (by omega) (by omega))]
    dsimp only
    rw [e3, if_neg (hI_lt0 (show m < 2 ^ 31 by omega)), if_neg (hI_nge6 hm), if_neg (hI_nge24 (n := m * 4 + i) (by omega))]
    by_cases c : k = 0
    · subst c
      rw [if_pos (show hI 0 = 0 from rfl)]
      exact B 1 (by rw [hV i hi, if_pos rfl])
    · obtain ⟨p1, p2, p3⟩ := hp c
      rw [if_neg (hI_ne0 (by omega) c), p1, hv_W_next_57 ok w2 p2 hi (V p) (fun q hq => by rw [t4 _ (by omega)]; exact old c q hq)]
      simp only [Option.bind_some]
      exact B _ (by rw [hV i hi, if_neg c])
  · rintro ⟨y2, y3, y4, y5, y6, τ⟩ ⟨e1, e2, e3, e4, e5, t1, t2, t3, t4⟩
    dsimp only at e1 e2 e3 e4 e5 t1 t2 t3 t4
    subst e1 e2 e3 e4 e5
    have w2 : hv_wo h may τ := w.keep fun j hj => t2 j (by omega)
    show ∃ s2, b_W_sum_57_23 y2 y3 (hI k) (hI m) (hI h.R) τ = _ ∧ _
    unfold b_W_sum_57_23
    rw [w2.R, if_pos (Int32.le_refl _)]
    dsimp only
    rw [hI_add1]
    exact ⟨_, rfl, τ, rfl, t1, t2, t3, t4⟩
theorem hv_W_next_58 {h : hv} (ok : hv_ok h) {may : Nat → Nat → Bool} {σ : am_St} (w : hv_wo h may σ) {m r : Nat} (hm : m < 6) (hr : r < h.R) (v : Nat → Nat) (hv' : ∀ q, q < h.R → σ.1 58 (m * 4 + q) = hI (v q)) : f_W_sumNextTo_58 (hI m) (hI r) σ = some (hI (hv_sum h.R fun q => if hv_step h r q then v q else 0), σ) := by
  have kR := ok.R
  rw [eq_W_sumNextTo_58]; unfold g_W_sumNextTo_58
  rw [if_neg (hI_lt0 (show r < 2 ^ 31 by omega)), if_neg (hI_nge4 (show r < 4 by omega)), if_pos (hI_ix (show r < 4 by omega) (by decide)), hI_clamp (show r < 2 ^ 31 by omega), w.st r (by omega), eq_W_sumNextTo_58_26]
  unfold g_W_sumNextTo_58_26 f_W_sumNextTo_58_31
  have L := hv_up (body := fun s : Int32 × Int32 × Int32 × Int32 × am_St => b_W_sumNextTo_58_31 s.1 s.2.1 s.2.2.1 s.2.2.2.1 s.2.2.2.2) (P := fun x => x = (hI (hv_sum h.R fun q => if hv_step h r q then v q else 0), σ)) h.R (fun i s => s = (hI m, hI (hv_sum i fun q => if hv_step h r q then v q else 0), hI (h.door r ||| 2 ^ r), hI i, σ)) 0 (Nat.zero_le _) (hI m, 0, hI (h.door r ||| 2 ^ r), 0, σ) rfl ?_ ?_
  · obtain ⟨x, e, rfl⟩ := L
    exact e
  · rintro i s hi rfl
    refine .inl ⟨_, ?_, rfl⟩
    show b_W_sumNextTo_58_31 (hI m) (hI _) (hI (h.door r ||| 2 ^ r)) (hI i) σ = _
    unfold b_W_sumNextTo_58_31
    have e3 : hI m * 4 + hI i = hI (m * 4 + i) := by rw [show (4 : Int32) = hI 4 from rfl, hI_mul, hI_add]
    rw [w.R, if_neg (hI_nle (by omega) (by omega) (by omega))]
    dsimp only
    rw [e3, if_neg (hI_lt0 (by omega)), if_neg (hI_nge24 (n := m * 4 + i) (by omega))]
    rw [hv_sum_succ]
    by_cases c : hv_step h r i = true
    · rw [if_pos ((hv_step_bit ok (by omega) (by omega)).mpr c), if_pos (hI_ix (show m * 4 + i < 24 by omega) (by decide)), hI_clamp (by omega), hv' i hi, if_pos c, eq_W_sumNextTo_58_80]
      unfold g_W_sumNextTo_58_80
      dsimp only
      rw [hI_add, hI_add1]
    · rw [if_neg (fun e => c ((hv_step_bit ok (by omega) (by omega)).mp e)), if_neg c, eq_W_sumNextTo_58_80]
      unfold g_W_sumNextTo_58_80
      dsimp only
      rw [Nat.add_zero, hI_add1]
  · rintro s rfl
    refine ⟨_, ?_, rfl⟩
    show b_W_sumNextTo_58_31 (hI m) (hI _) (hI (h.door r ||| 2 ^ r)) (hI h.R) σ = _
    unfold b_W_sumNextTo_58_31
    rw [w.R, if_pos (Int32.le_refl _)]
theorem hv_W_row_58 {h : hv} (ok : hv_ok h) {may : Nat → Nat → Bool} {σ : am_St} (w : hv_wo h may σ) (x2 x3 : Int32) (k m p : Nat) (hk : k < 6) (hm : m < 6) (hp : k ≠ 0 → hI m - x3 = hI p ∧ p < 6 ∧ p ≠ m) (V : Nat → Nat → Nat) (hV : ∀ r, r < h.R → V m r = (if k = 0 then 1 else hv_sum h.R fun q => if hv_step h r q then V p q else 0) * (if may m r then 1 else 0)) (old : k ≠ 0 → ∀ q, q < h.R → σ.1 58 (p * 4 + q) = hI (V p q)) : ∃ x, f_W_sum_58_23 x2 x3 (hI k) (hI m) 0 σ = some x ∧ ∃ τ, x = .inl (x2, x3, hI (k + 1), τ) ∧ τ.2 = σ.2 ∧ (∀ i, i ≠ 58 → τ.1 i = σ.1 i) ∧ (∀ q, q < h.R → τ.1 58 (m * 4 + q) = hI (V m q)) ∧ (∀ j, j < m * 4 ∨ m * 4 + 4 ≤ j → τ.1 58 j = σ.1 58 j) := by
  have kR := ok.R
  unfold f_W_sum_58_23
  refine hv_up h.R (fun i s => s.1 = x2 ∧ s.2.1 = x3 ∧ s.2.2.1 = hI k ∧ s.2.2.2.1 = hI m ∧ s.2.2.2.2.1 = hI i ∧ s.2.2.2.2.2.2 = σ.2 ∧ (∀ i, i ≠ 58 → s.2.2.2.2.2.1 i = σ.1 i) ∧ (∀ q, q < i → s.2.2.2.2.2.1 58 (m * 4 + q) = hI (V m q)) ∧ (∀ j, j < m * 4 ∨ m * 4 + 4 ≤ j → s.2.2.2.2.2.1 58 j = σ.1 58 j)) 0 (Nat.zero_le _) _ ⟨rfl, rfl, rfl, rfl, rfl, rfl, fun _ _ => rfl, fun q hq => absurd hq (Nat.not_lt_zero q), fun _ _ => rfl⟩ ?_ ?_
  · rintro i ⟨y2, y3, y4, y5, y6, τ⟩ hi ⟨e1, e2, e3, e4, e5, t1, t2, t3, t4⟩
    dsimp only at e1 e2 e3 e4 e5 t1 t2 t3 t4
    subst e1 e2 e3 e4 e5
    refine .inl ?_
    have w2 : hv_wo h may τ := w.keep fun j hj => t2 j (by omega)
    have e3 : hI m * 4 + hI i = hI (m * 4 + i) := by rw [show (4 : Int32) = hI 4 from rfl, hI_mul, hI_add]
    have B : ∀ n : Nat, V m i = n * (if may m i then 1 else 0) → ∃ s2, f_W_sum_58_86 y2 y3 (hI k) (hI m) (hI i) (hI (m * 4 + i)) (hI (m * 4 + i)) (hI n) τ = some (.inl s2) ∧ s2.1 = y2 ∧ s2.2.1 = y3 ∧ s2.2.2.1 = hI k ∧ s2.2.2.2.1 = hI m ∧ s2.2.2.2.2.1 = hI (i + 1) ∧ s2.2.2.2.2.2.2 = σ.2 ∧ (∀ i, i ≠ 58 → s2.2.2.2.2.2.1 i = σ.1 i) ∧ (∀ q, q < i + 1 → s2.2.2.2.2.2.1 58 (m * 4 + q) = hI (V m q)) ∧ (∀ j, j < m * 4 ∨ m * 4 + 4 ≤ j → s2.2.2.2.2.2.1 58 j = σ.1 58 j) := by
      intro n hn
      rw [eq_W_sum_58_86]; unfold g_W_sum_58_86
      have ix : am_ix (hI (m * 4 + i)) 24 = true := hI_ix (by omega) (by decide)
      rw [if_pos ix]
      dsimp only
      rw [if_pos ix, if_pos (hI_ix hm (by decide)), if_pos ix, hI_clamp (by omega), hI_clamp (by omega), hv_g1, hv_g2 _ (show (55 : Nat) ≠ 58 by decide), (w2.op m hm).has (show i < 4 by omega) hi, eq_W_sum_58_106]
      unfold g_W_sum_58_106
      refine ⟨_, rfl, rfl, rfl, rfl, rfl, hI_add1 i, t1, fun j hj => ?_, fun q hq => ?_, fun j hj => ?_⟩
      · dsimp only
        rw [hv_g2 _ hj, hv_g2 _ hj]; exact t2 j hj
      · dsimp only
        by_cases c : q = i
        · subst c
          rw [hv_g1, hn]
          cases may m q
          · rw [if_neg (by decide), if_neg (by decide), Nat.mul_zero, Int32.mul_zero]; rfl
          · rw [if_pos rfl, if_pos rfl, Nat.mul_one, Int32.mul_one]
        · rw [hv_g3 _ _ (by omega), hv_g3 _ _ (by omega)]; exact t3 q (by omega)
      · dsimp only
        rw [hv_g3 _ _ (by omega), hv_g3 _ _ (by omega)]; exact t4 j hj
    show ∃ s2, b_W_sum_58_23 y2 y3 (hI k) (hI m) (hI i) τ = _ ∧ _
    unfold b_W_sum_58_23
    rw [w2.R, if_neg (hI_nle (by omega) (by omega) (by omega))]
    dsimp only
    rw [e3, if_neg (hI_lt0 (show m < 2 ^ 31 by omega)), if_neg (hI_nge6 hm), if_neg (hI_nge24 (n := m * 4 + i) (by omega))]
    by_cases c : k = 0
    · subst c
      rw [if_pos (show hI 0 = 0 from rfl)]
      exact B 1 (by rw [hV i hi, if_pos rfl])
    · obtain ⟨p1, p2, p3⟩ := hp c
      rw [if_neg (hI_ne0 (by omega) c), p1, hv_W_next_58 ok w2 p2 hi (V p) (fun q hq => by rw [t4 _ (by omega)]; exact old c q hq)]
      simp only [Option.bind_some]
      exact B _ (by rw [hV i hi, if_neg c])
  · rintro ⟨y2, y3, y4, y5, y6, τ⟩ ⟨e1, e2, e3, e4, e5, t1, t2, t3, t4⟩
    dsimp only at e1 e2 e3 e4 e5 t1 t2 t3 t4
    subst e1 e2 e3 e4 e5
    have w2 : hv_wo h may τ := w.keep fun j hj => t2 j (by omega)
    show ∃ s2, b_W_sum_58_23 y2 y3 (hI k) (hI m) (hI h.R) τ = _ ∧ _
    unfold b_W_sum_58_23
    rw [w2.R, if_pos (Int32.le_refl _)]
    dsimp only
    rw [hI_add1]
    exact ⟨_, rfl, τ, rfl, t1, t2, t3, t4⟩
theorem hv_W_sum_57 {h : hv} (ok : hv_ok h) {may : Nat → Nat → Bool} {σ : am_St} (w : hv_wo h may σ) : ∃ τ, f_W_sum_57 0 1 σ = some τ ∧ τ.2 = σ.2 ∧ (∀ i, i ≠ 57 → τ.1 i = σ.1 i) ∧ ∀ m, m < h.M → ∀ r, r < h.R → τ.1 57 (m * 4 + r) = hI (hv_cnt h may m r) := by
  have kM := ok.M
  have kR := ok.R
  rw [eq_W_sum_57]; unfold g_W_sum_57 f_W_sum_57_3
  refine hv_up h.M (fun i s => s.1 = 0 ∧ s.2.1 = 1 ∧ s.2.2.1 = hI i ∧ s.2.2.2.2 = σ.2 ∧ (∀ i, i ≠ 57 → s.2.2.2.1 i = σ.1 i) ∧ ∀ m, m < i → ∀ r, r < h.R → s.2.2.2.1 57 (m * 4 + r) = hI (hv_cnt h may m r)) 0 (Nat.zero_le _) _ ⟨rfl, rfl, rfl, rfl, fun _ _ => rfl, fun q hq => absurd hq (Nat.not_lt_zero q)⟩ ?_ ?_
  · rintro i ⟨y2, y3, y4, τ⟩ hi ⟨e1, e2, e3, t1, t2, t3⟩
    dsimp only at e1 e2 e3 t1 t2 t3
    subst e1 e2 e3
    refine .inl ?_
    have w2 : hv_wo h may τ := w.keep fun j hj => t2 j (by omega)
    show ∃ s2, b_W_sum_57_3 0 1 (hI i) τ = _ ∧ _
    unfold b_W_sum_57_3
    rw [w2.M, if_neg (hI_nle (by omega) (by omega) (by omega))]
    dsimp only
    rw [hv_back4 i (by omega)]
    obtain ⟨x, ex, υ, rfl, u1, u2, u3, u4⟩ := hv_W_row_57 ok w2 0 1 i i (i - 1) (by omega) (by omega) (fun c => ⟨hv_back3 i (by omega) (by omega), by omega, by omega⟩) (fun m r => hv_cnt h may m r) (fun r hr => by
      cases i with
      | zero => rw [hv_cnt_zero, if_pos rfl, Nat.one_mul]
      | succ i =>
        rw [if_neg (Nat.succ_ne_zero i), hv_cnt_succ, Nat.add_sub_cancel]
        cases may (i + 1) r
        · rw [if_neg (by decide), if_neg (by decide), Nat.mul_zero]
        · rw [if_pos rfl, if_pos rfl, Nat.mul_one]) (fun c q hq => t3 _ (by omega) q hq)
    refine ⟨_, ex, rfl, rfl, rfl, u1.trans t1, fun j hj => (u2 j hj).trans (t2 j hj), fun m hm r hr => ?_⟩
    dsimp only
    by_cases c : m = i
    · subst c; exact u3 r hr
    · rw [u4 _ (by omega)]; exact t3 m (by omega) r hr
  · rintro ⟨y2, y3, y4, τ⟩ ⟨e1, e2, e3, t1, t2, t3⟩
    dsimp only at e1 e2 e3 t1 t2 t3
    subst e1 e2 e3
    have w2 : hv_wo h may τ := w.keep fun j hj => t2 j (by omega)
    show ∃ s2, b_W_sum_57_3 0 1 (hI h.M) τ = _ ∧ _
    unfold b_W_sum_57_3
    rw [w2.M, if_pos (Int32.le_refl _)]
    exact ⟨_, rfl, t1, t2, t3⟩
/-- the ways on from a room, its own minute told too -/
def hv_on (h : hv) (may : Nat → Nat → Bool) (m r : Nat) : Nat := if may m r then hv_bk h may (h.M - 1 - m) m r else 0
theorem hv_W_sum_58 {h : hv} (ok : hv_ok h) {may : Nat → Nat → Bool} {σ : am_St} (w : hv_wo h may σ) : ∃ τ, f_W_sum_58 (hI (h.M - 1)) (-1) σ = some τ ∧ τ.2 = σ.2 ∧ (∀ i, i ≠ 58 → τ.1 i = σ.1 i) ∧ ∀ m, m < h.M → ∀ r, r < h.R → τ.1 58 (m * 4 + r) = hI (hv_on h may m r) := by
  have kM := ok.M
  have kR := ok.R
  rw [eq_W_sum_58]; unfold g_W_sum_58 f_W_sum_58_3
  refine hv_up h.M (fun i s => s.1 = hI (h.M - 1) ∧ s.2.1 = -1 ∧ s.2.2.1 = hI i ∧ s.2.2.2.2 = σ.2 ∧ (∀ i, i ≠ 58 → s.2.2.2.1 i = σ.1 i) ∧ ∀ m, m < h.M → h.M - 1 < m + i → ∀ r, r < h.R → s.2.2.2.1 58 (m * 4 + r) = hI (hv_on h may m r)) 0 (Nat.zero_le _) _ ⟨rfl, rfl, rfl, rfl, fun _ _ => rfl, fun q hq hq2 => absurd hq2 (by omega)⟩ ?_ ?_
  · rintro i ⟨y2, y3, y4, τ⟩ hi ⟨e1, e2, e3, t1, t2, t3⟩
    dsimp only at e1 e2 e3 t1 t2 t3
    subst e1 e2 e3
    refine .inl ?_
    have w2 : hv_wo h may τ := w.keep fun j hj => t2 j (by omega)
    show ∃ s2, b_W_sum_58_3 (hI (h.M - 1)) (-1) (hI i) τ = _ ∧ _
    unfold b_W_sum_58_3
    rw [w2.M, if_neg (hI_nle (by omega) (by omega) (by omega))]
    dsimp only
    rw [hv_back1 (h.M - 1) (by omega) i (by omega)]
    obtain ⟨x, ex, υ, rfl, u1, u2, u3, u4⟩ := hv_W_row_58 ok w2 (hI (h.M - 1)) (-1) i (h.M - 1 - i) (h.M - 1 - i + 1) (by omega) (by omega) (fun c => ⟨hv_back2 _ (by omega), by omega, by omega⟩) (hv_on h may) (fun r hr => by
      unfold hv_on
      rw [show h.M - 1 - (h.M - 1 - i) = i by omega]
      cases i with
      | zero => rw [hv_bk_zero, if_pos rfl, Nat.one_mul]
      | succ i =>
        rw [if_neg (Nat.succ_ne_zero i), hv_bk_succ, show h.M - 1 - (h.M - 1 - (i + 1) + 1) = i by omega]
        cases may (h.M - 1 - (i + 1)) r
        · rw [if_neg (by decide), if_neg (by decide), Nat.mul_zero]
        · rw [if_pos rfl, if_pos rfl, Nat.mul_one]) (fun c q hq => t3 _ (by omega) (by omega) q hq)
    refine ⟨_, ex, rfl, rfl, rfl, u1.trans t1, fun j hj => (u2 j hj).trans (t2 j hj), fun m hm hm2 r hr => ?_⟩
    dsimp only
    by_cases c : m = h.M - 1 - i
    · subst c; exact u3 r hr
    · rw [u4 _ (by omega)]; exact t3 m hm (by omega) r hr
  · rintro ⟨y2, y3, y4, τ⟩ ⟨e1, e2, e3, t1, t2, t3⟩
    dsimp only at e1 e2 e3 t1 t2 t3
    subst e1 e2 e3
    have w2 : hv_wo h may τ := w.keep fun j hj => t2 j (by omega)
    show ∃ s2, b_W_sum_58_3 (hI (h.M - 1)) (-1) (hI h.M) τ = _ ∧ _
    unfold b_W_sum_58_3
    rw [w2.M, if_pos (Int32.le_refl _)]
    exact ⟨_, rfl, t1, t2, fun m hm r hr => t3 m hm (by omega) r hr⟩
/-- the class has counted forward -/
def hv_wu (h : hv) (may : Nat → Nat → Bool) (τ : am_St) : Prop :=
  (hv_wo h may τ)
  ∧ (∀ m, m < h.M → ∀ r, r < h.R → τ.1 57 (m * 4 + r) = hI (hv_cnt h may m r))
theorem hv_wu.wo {h : hv} {may : Nat → Nat → Bool} {τ : am_St} (x : hv_wu h may τ) : hv_wo h may τ := x.1
theorem hv_wu.up {h : hv} {may : Nat → Nat → Bool} {τ : am_St} (x : hv_wu h may τ) : ∀ m, m < h.M → ∀ r, r < h.R → τ.1 57 (m * 4 + r) = hI (hv_cnt h may m r) := x.2
theorem hv_wu.mk {h : hv} {may : Nat → Nat → Bool} {τ : am_St} (fwo : hv_wo h may τ) (fup : ∀ m, m < h.M → ∀ r, r < h.R → τ.1 57 (m * 4 + r) = hI (hv_cnt h may m r)) : hv_wu h may τ := ⟨fwo, fup⟩
/-- the class has counted forward and backward -/
def hv_wl (h : hv) (may : Nat → Nat → Bool) (τ : am_St) : Prop :=
  (hv_wu h may τ)
  ∧ (∀ m, m < h.M → ∀ r, r < h.R → τ.1 58 (m * 4 + r) = hI (hv_on h may m r))
theorem hv_wl.wu {h : hv} {may : Nat → Nat → Bool} {τ : am_St} (x : hv_wl h may τ) : hv_wu h may τ := x.1
theorem hv_wl.on {h : hv} {may : Nat → Nat → Bool} {τ : am_St} (x : hv_wl h may τ) : ∀ m, m < h.M → ∀ r, r < h.R → τ.1 58 (m * 4 + r) = hI (hv_on h may m r) := x.2
theorem hv_wl.mk {h : hv} {may : Nat → Nat → Bool} {τ : am_St} (fwu : hv_wu h may τ) (fon : ∀ m, m < h.M → ∀ r, r < h.R → τ.1 58 (m * 4 + r) = hI (hv_on h may m r)) : hv_wl h may τ := ⟨fwu, fon⟩
theorem hv_wu.all {h : hv} (ok : hv_ok h) {may : Nat → Nat → Bool} {σ : am_St} (w : hv_wu h may σ) : f_W_all σ = some (hI (hv_all h may), σ) := by
  have kR := ok.R
  have kM := ok.M
  rw [eq_W_all]; unfold g_W_all f_W_all_4
  have L := hv_up (body := fun s : Int32 × Int32 × am_St => b_W_all_4 s.1 s.2.1 s.2.2) (P := fun x => x = (hI (hv_all h may), σ)) h.R (fun i s => s = (hI (hv_sum i fun r => hv_cnt h may (h.M - 1) r), hI i, σ)) 0 (Nat.zero_le _) (0, 0, σ) rfl ?_ ?_
  · obtain ⟨x, e, rfl⟩ := L
    exact e
  · rintro i s hi rfl
    refine .inl ⟨_, ?_, rfl⟩
    show b_W_all_4 (hI _) (hI i) σ = _
    unfold b_W_all_4
    have e3 : (hI h.M - 1) * 4 + hI i = hI ((h.M - 1) * 4 + i) := by rw [hv_back3 h.M (by omega) (by omega), show (4 : Int32) = hI 4 from rfl, hI_mul, hI_add]
    rw [w.wo.R, if_neg (hI_nle (by omega) (by omega) (by omega)), w.wo.M]
    dsimp only
    rw [e3, if_neg (hI_lt0 (by omega)), if_neg (hI_nge24 (by omega)), if_pos (hI_ix (by omega) (by decide)), hI_clamp (by omega), w.up _ (by omega) i hi, eq_W_all_45]
    unfold g_W_all_45
    dsimp only
    rw [hv_sum_succ, hI_add, hI_add1]
  · rintro s rfl
    refine ⟨_, ?_, rfl⟩
    show b_W_all_4 (hI _) (hI h.R) σ = _
    unfold b_W_all_4
    rw [w.wo.R, if_pos (Int32.le_refl _)]
    rfl
theorem hv_wl.through {h : hv} (ok : hv_ok h) {may : Nat → Nat → Bool} {σ : am_St} (w : hv_wl h may σ) {m r : Nat} (hm : m < h.M) (hr : r < h.R) : f_W_through (hI m) (hI r) σ = some (hI (hv_all h (hv_pin may m r)), σ) := by
  have kR := ok.R
  have kM := ok.M
  rw [eq_W_through]; unfold g_W_through
  have e3 : hI m * 4 + hI r = hI (m * 4 + r) := by rw [show (4 : Int32) = hI 4 from rfl, hI_mul, hI_add]
  rw [if_neg (hI_lt0 (by omega)), w.wu.wo.M, if_neg (hI_nle (by omega) (by omega) (by omega)), if_neg (hI_lt0 (by omega)), w.wu.wo.R, if_pos ((hI_lt (by omega) (by omega)).mpr hr)]
  dsimp only
  rw [e3, if_neg (hI_nge24 (n := m * 4 + r) (by omega)), if_neg (hI_nge24 (n := m * 4 + r) (by omega)), if_pos (hI_ix (by omega) (by decide)), if_pos (hI_ix (by omega) (by decide)), hI_clamp (by omega), w.wu.up m hm r hr, w.on m hm r hr, hI_mul, hv_through ok may hm hr]
  unfold hv_on
  cases c : may m r
  · rw [hv_cnt_may c, Nat.zero_mul, Nat.zero_mul]
  · rw [if_pos rfl]
theorem hv_W_some_1 {h : hv} {σ : am_St} (d : hv_dev 1 h σ) (ok : hv_ok h) (c : Nat) (hc : c < 4) : ∃ τ, f_W_someFor_1 (hI c) σ = some (if 0 < hv_all h (hv_may h c) then 1 else 0, τ) ∧ hv_fr hv_pw σ τ := by
  obtain ⟨τ, e1, f1, w1⟩ := hv_W_open_1 d ok c hc
  obtain ⟨υ, e2, f2, f3, w2⟩ := hv_W_sum_57 ok w1
  have w3 : hv_wu h (hv_may h c) υ := hv_wu.mk (w1.keep fun i hi => f3 i (by omega)) w2
  have kb := hv_all_big ok (hv_may h c)
  refine ⟨υ, ?_, f1.trans ⟨f2, fun i hi => f3 i (fun e => by rw [e] at hi; cases hi)⟩⟩
  rw [eq_W_someFor_1]; unfold g_W_someFor_1
  rw [e1]
  simp only [Option.bind_some]
  rw [e2]
  simp only [Option.bind_some]
  rw [w3.all ok]
  simp only [Option.bind_some]
  by_cases c : 0 < hv_all h (hv_may h c)
  · rw [if_pos c, if_neg (hI_le0 (by omega) (by omega))]
  · rw [if_neg c, if_pos (show hI (hv_all h _) ≤ 0 from (hI_le (m := 0) (by omega) (by decide)).mpr (by omega))]
theorem hv_W_some_37 {h : hv} {σ : am_St} (d : hv_dev 37 h σ) (ok : hv_ok h) (c : Nat) (hc : c < 4) : ∃ τ, f_W_someFor_37 (hI c) σ = some (if 0 < hv_all h (hv_may h c) then 1 else 0, τ) ∧ hv_fr hv_pw σ τ := by
  obtain ⟨τ, e1, f1, w1⟩ := hv_W_open_37 d ok c hc
  obtain ⟨υ, e2, f2, f3, w2⟩ := hv_W_sum_57 ok w1
  have w3 : hv_wu h (hv_may h c) υ := hv_wu.mk (w1.keep fun i hi => f3 i (by omega)) w2
  have kb := hv_all_big ok (hv_may h c)
  refine ⟨υ, ?_, f1.trans ⟨f2, fun i hi => f3 i (fun e => by rw [e] at hi; cases hi)⟩⟩
  rw [eq_W_someFor_37]; unfold g_W_someFor_37
  rw [e1]
  simp only [Option.bind_some]
  rw [e2]
  simp only [Option.bind_some]
  rw [w3.all ok]
  simp only [Option.bind_some]
  by_cases c : 0 < hv_all h (hv_may h c)
  · rw [if_pos c, if_neg (hI_le0 (by omega) (by omega))]
  · rw [if_neg c, if_pos (show hI (hv_all h _) ≤ 0 from (hI_le (m := 0) (by omega) (by decide)).mpr (by omega))]
theorem hv_W_look {h : hv} {σ : am_St} (d : hv_dev 1 h σ) (ok : hv_ok h) (c : Nat) (hc : c < 4) : ∃ τ, f_W_look_1 (hI c) σ = some τ ∧ hv_fr hv_pw σ τ ∧ hv_wl h (hv_may h c) τ := by
  have kM := ok.M
  obtain ⟨τ, e1, f1, w1⟩ := hv_W_open_1 d ok c hc
  obtain ⟨υ, e2, f2, f3, w2⟩ := hv_W_sum_57 ok w1
  have w3 : hv_wu h (hv_may h c) υ := hv_wu.mk (w1.keep fun i hi => f3 i (by omega)) w2
  obtain ⟨ω, e3, g2, g3, w4⟩ := hv_W_sum_58 ok w3.wo
  refine ⟨ω, ?_, (f1.trans ⟨f2, fun i hi => f3 i (fun e => by rw [e] at hi; cases hi)⟩).trans ⟨g2, fun i hi => g3 i (fun e => by rw [e] at hi; cases hi)⟩, hv_wl.mk (hv_wu.mk (w3.wo.keep fun i hi => g3 i (by omega)) (fun m hm r hr => by rw [g3 57 (by decide)]; exact w2 m hm r hr)) w4⟩
  rw [eq_W_look_1]; unfold g_W_look_1
  rw [e1]
  simp only [Option.bind_some]
  rw [e2]
  simp only [Option.bind_some]
  rw [w3.wo.M, hv_back3 h.M (by omega) (by omega), e3]
  rfl
