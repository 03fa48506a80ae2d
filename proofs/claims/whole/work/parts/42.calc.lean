/-! PURE: how a query and a change are shown -/
/-- both hold h -/
def hv_at (h : hv) (σ : am_St) : Prop :=
  (hv_ok h)
  ∧ (hv_some h)
  ∧ (hv_dev 1 h σ)
  ∧ (hv_mod h σ)
theorem hv_at.ok {h : hv} {σ : am_St} (x : hv_at h σ) : hv_ok h := x.1
theorem hv_at.so {h : hv} {σ : am_St} (x : hv_at h σ) : hv_some h := x.2.1
theorem hv_at.d {h : hv} {σ : am_St} (x : hv_at h σ) : hv_dev 1 h σ := x.2.2.1
theorem hv_at.m {h : hv} {σ : am_St} (x : hv_at h σ) : hv_mod h σ := x.2.2.2
theorem hv_at.mk {h : hv} {σ : am_St} (fok : hv_ok h) (fso : hv_some h) (fd : hv_dev 1 h σ) (fm : hv_mod h σ) : hv_at h σ := ⟨fok, fso, fd, fm⟩
/-- equal but for what a call may leave as it likes, and for one more refusal k in the row b (0: none) -/
def hv_Sx (k b : Nat) (σ τ : am_St) : Prop := ∀ i j, hv_scr i j = false → τ.1 i j = if i = b ∧ j = k ∧ k ≠ 0 then σ.1 i j + 1 else σ.1 i j
theorem hv_Sx.of {b : Nat} {σ τ : am_St} (h : hv_Sm σ τ) : hv_Sx 0 b σ τ := fun i j s => by rw [if_neg (fun e => e.2.2 rfl)]; exact h i j s
theorem hv_Sx.same (b : Nat) (σ : am_St) : hv_Sx 0 b σ σ := hv_Sx.of (hv_Sm.rfl' σ)
theorem hv_Sx.pre {k b : Nat} {σ τ υ : am_St} (s : hv_Sm σ τ) (x : hv_Sx k b τ υ) : hv_Sx k b σ υ := fun i j e => by rw [x i j e, s i j e]
theorem hv_Sx.ref {b k : Nat} (σ : am_St) (hk : k ≠ 0) : hv_Sx k b σ (am_sI σ b k (σ.1 b k + 1)) := by
  intro i j _
  by_cases c : i = b
  · subst c
    by_cases c2 : j = k
    · subst c2
      rw [hv_g1, if_pos ⟨rfl, rfl, hk⟩]
    · rw [hv_g3 _ _ c2, if_neg (fun e => c2 e.2.1)]
  · rw [hv_g2 _ c, if_neg (fun e => c e.1)]
theorem hv_Sm.thrown (σ : am_St) : hv_Sm σ (am_sI σ 66 22 0) := (hv_Sm.rfl' σ).set 0 rfl
theorem hv_at.fr {h : hv} {σ τ : am_St} (x : hv_at h σ) (F : ∀ i j, hv_scr i j = false → i ≠ 65 → i ≠ 82 → τ.1 i j = σ.1 i j) : hv_at h τ := hv_at.mk x.ok x.so
  (x.d.frame fun i k h1 h2 => F i k (hv_scr_dev (.inl rfl) h1 h2) (by omega) (by omega))
  (x.m.frame (fun k hk => F 66 k (hv_scr_66 hk) (by decide) (by decide)) (fun i k h1 h2 => F i k (hv_scr_mod h1 (by omega)) (by omega) (by omega)))
theorem hv_Sm.at {h : hv} {σ τ : am_St} (s : hv_Sm σ τ) (x : hv_at h σ) : hv_at h τ := x.fr fun i j e _ _ => s i j e
theorem hv_Sx.at {h : hv} {k b : Nat} (hb : b = 65 ∨ b = 82) {σ τ : am_St} (s : hv_Sx k b σ τ) (x : hv_at h σ) : hv_at h τ := x.fr fun i j e h1 h2 => by
  rw [s i j e, if_neg (fun q => by rcases hb with rfl | rfl <;> omega)]
theorem hv_at.thrown {h : hv} {σ : am_St} (x : hv_at h σ) : hv_at h (am_sI σ 66 22 0) := (hv_Sm.thrown σ).at x
theorem hv_inv.at {σ : am_St} (x : hv_inv σ) : ∃ h, hv_at h σ := by
  obtain ⟨⟨h, ok, so, d, m⟩, -⟩ := x
  exact ⟨h, hv_at.mk ok so d m⟩
theorem hv_Sx.inv {k : Nat} {σ τ υ : am_St} (hi : hv_inv σ) (s1 : hv_Sx k 65 σ τ) (s2 : hv_Sx k 82 τ υ) : hv_inv υ := by
  rw [hv_inv_iff] at hi ⊢
  refine ⟨hi.1.frame fun i j e h1 h2 => ?_, fun i hi' => ?_⟩
  · rw [s2 i j e, if_neg (fun q => h2 q.1), s1 i j e, if_neg (fun q => h1 q.1)]
  · rw [s2 65 i rfl, if_neg (fun q => by omega), s1 65 i rfl, s2 82 i (hv_scr_mod (by decide) (by decide)), s1 82 i (hv_scr_mod (by decide) (by decide)), if_neg (fun q : (82 : Nat) = 65 ∧ _ => by omega), hi.2 i hi']
    by_cases c : i = k ∧ k ≠ 0
    · rw [if_pos ⟨rfl, c⟩, if_pos ⟨rfl, c⟩]
    · rw [if_neg (fun q => c q.2), if_neg (fun q => c q.2)]
/-- a query: both answer the same and leave the same -/
theorem hv_qry {α : Type} {h : hv} {σ : am_St} (hi : hv_inv σ) (H : hv_at h σ) {X Y : am_St → Option (α × am_St)} (k : Nat) (v : α) (h1 : ∃ τ, X σ = some (v, τ) ∧ hv_Sx k 65 σ τ) (h2 : ∀ τ, hv_at h τ → hv_Sx k 65 σ τ → ∃ υ, Y τ = some (v, υ) ∧ hv_Sx k 82 τ υ) : ∃ r τ1 τ2, X σ = some (r, τ1) ∧ Y τ1 = some (r, τ2) ∧ hv_inv τ2 := by
  obtain ⟨τ, e1, s1⟩ := h1
  obtain ⟨υ, e2, s2⟩ := h2 τ (s1.at (.inl rfl) H) s1
  exact ⟨v, τ, υ, e1, e2, hv_Sx.inv hi s1 s2⟩
/-- the model begins -/
theorem hv_thr {α : Type} {k : Nat} {v : α} {X : Option (α × am_St)} {σ : am_St} (h : ∃ υ, X = some (v, υ) ∧ hv_Sx k 82 (am_sI σ 66 22 0) υ) : ∃ υ, X = some (v, υ) ∧ hv_Sx k 82 σ υ := by
  obtain ⟨υ, e, s⟩ := h
  exact ⟨υ, e, s.pre (hv_Sm.thrown σ)⟩
theorem hv_X_r1 (σ : am_St) : f_X_refuse (-1) σ = some (-1, am_sI σ 65 1 (σ.1 65 1 + 1)) := hv_X_refuse (n := 1) (by decide) σ
theorem hv_X_r2 (σ : am_St) : f_X_refuse (-2) σ = some (-2, am_sI σ 65 2 (σ.1 65 2 + 1)) := hv_X_refuse (n := 2) (by decide) σ
theorem hv_X_r3 (σ : am_St) : f_X_refuse (-3) σ = some (-3, am_sI σ 65 3 (σ.1 65 3 + 1)) := hv_X_refuse (n := 3) (by decide) σ
theorem hv_X_r4 (σ : am_St) : f_X_refuse (-4) σ = some (-4, am_sI σ 65 4 (σ.1 65 4 + 1)) := hv_X_refuse (n := 4) (by decide) σ
theorem hv_X_r6 (σ : am_St) : f_X_refuse (-6) σ = some (-6, am_sI σ 65 6 (σ.1 65 6 + 1)) := hv_X_refuse (n := 6) (by decide) σ
theorem hv_M_r1 (σ : am_St) : f_M_refuse (-1) σ = some (-1, am_sI σ 82 1 (σ.1 82 1 + 1)) := hv_M_refuse (n := 1) (by decide) σ
theorem hv_M_r2 (σ : am_St) : f_M_refuse (-2) σ = some (-2, am_sI σ 82 2 (σ.1 82 2 + 1)) := hv_M_refuse (n := 2) (by decide) σ
theorem hv_M_r3 (σ : am_St) : f_M_refuse (-3) σ = some (-3, am_sI σ 82 3 (σ.1 82 3 + 1)) := hv_M_refuse (n := 3) (by decide) σ
theorem hv_M_r4 (σ : am_St) : f_M_refuse (-4) σ = some (-4, am_sI σ 82 4 (σ.1 82 4 + 1)) := hv_M_refuse (n := 4) (by decide) σ
theorem hv_M_r6 (σ : am_St) : f_M_refuse (-6) σ = some (-6, am_sI σ 82 6 (σ.1 82 6 + 1)) := hv_M_refuse (n := 6) (by decide) σ
theorem hv_10 : ((1 : Int32) = 0) = False := eq_false (by decide)
theorem hv_01 : ((0 : Int32) = 1) = False := eq_false (by decide)
theorem hv_rng_cases (a : Int32) {n : Nat} (hn : n < 2 ^ 31) : hv_rng a n = 0 ∨ ∃ k, k < n ∧ a = hI k ∧ hv_rng (hI k) n = 1 := by
  by_cases c : hv_rng a n = 0
  · exact .inl c
  · obtain ⟨k, hk, rfl⟩ := hv_rng_in hn c
    refine .inr ⟨k, hk, rfl, ?_⟩
    unfold hv_rng at c ⊢
    by_cases q : 0 ≤ hI k ∧ hI k < hI n
    · rw [if_pos q]
    · rw [if_neg q] at c; exact absurd rfl c
theorem hv_rng_lt {k n : Nat} (hn : n < 2 ^ 31) (h : k < n) : hv_rng (hI k) n = 1 := by
  unfold hv_rng
  rw [if_pos ⟨(hI_le (n := 0) (by decide) (by omega)).mpr (Nat.zero_le _), (hI_lt (by omega) hn).mpr h⟩]
theorem hv_at.C31 {h : hv} {σ : am_St} (x : hv_at h σ) : h.C < 2 ^ 31 := by have := x.ok.C; omega
theorem hv_at.R31 {h : hv} {σ : am_St} (x : hv_at h σ) : h.R < 2 ^ 31 := by have := x.ok.R; omega
theorem hv_at.M31 {h : hv} {σ : am_St} (x : hv_at h σ) : h.M < 2 ^ 31 := by have := x.ok.M; omega
theorem hv_at.isRoom {h : hv} {σ : am_St} (H : hv_at h σ) (x : Int32) : f_M_isRoom x σ = some (hv_rng x h.R, σ) := H.m.isRoom H.ok x
theorem hv_at.isMinute {h : hv} {σ : am_St} (H : hv_at h σ) (x : Int32) : f_M_isMinute x σ = some (hv_rng x h.M, σ) := H.m.isMinute H.ok x
theorem hv_at.isChild {h : hv} {σ : am_St} (H : hv_at h σ) (x : Int32) : f_M_isChild x σ = some (hv_rng x h.C, σ) := H.m.isChild H.ok x
theorem hv_at.hasRoom {h : hv} {σ : am_St} (H : hv_at h σ) (x : Int32) : f_H_hasRoom_1 x σ = some (hv_rng x h.R, σ) := H.d.hasRoom x
theorem hv_at.hasMinute {h : hv} {σ : am_St} (H : hv_at h σ) (x : Int32) : f_H_hasMinute_1 x σ = some (hv_rng x h.M, σ) := H.d.hasMinute x
theorem hv_at.hasChild {h : hv} {σ : am_St} (H : hv_at h σ) (x : Int32) : f_H_hasChild_1 x σ = some (hv_rng x h.C, σ) := H.d.hasChild x
/-- loops: to their end, or out on the way -/
theorem hv_lp {S R : Type} {body : S → Option (S ⊕ R)} {P : R → Prop} (I : Nat → S → Prop) : ∀ (n : Nat) (s : S), I n s → (∀ i s, I (i + 1) s → (∃ s2, body s = some (.inl s2) ∧ I i s2) ∨ (∃ x, body s = some (.inr x) ∧ P x)) → (∀ s, I 0 s → ∃ x, body s = some (.inr x) ∧ P x) → ∃ x, am_lp body s = some x ∧ P x := by
  intro n
  induction n with
  | zero =>
    intro s h0 _ he
    obtain ⟨x, e, p⟩ := he s h0
    exact ⟨x, am_lp_inr (x := some x) e, p⟩
  | succ n ih =>
    intro s h0 hs he
    rcases hs n s h0 with ⟨s2, e, i2⟩ | ⟨x, e, p⟩
    · rw [am_lp_inl e]; exact ih s2 i2 hs he
    · exact ⟨x, am_lp_inr (x := some x) e, p⟩
/-- a loop that counts up from a to n -/
theorem hv_up {S R : Type} {body : S → Option (S ⊕ R)} {P : R → Prop} (n : Nat) (I : Nat → S → Prop) (a : Nat) (ha : a ≤ n) (s : S) (h0 : I a s) (hs : ∀ i s, i < n → I i s → (∃ s2, body s = some (.inl s2) ∧ I (i + 1) s2) ∨ (∃ x, body s = some (.inr x) ∧ P x)) (he : ∀ s, I n s → ∃ x, body s = some (.inr x) ∧ P x) : ∃ x, am_lp body s = some x ∧ P x := by
  refine hv_lp (P := P) (fun k s => k ≤ n ∧ I (n - k) s) (n - a) s ⟨by omega, by rw [show n - (n - a) = a by omega]; exact h0⟩ (fun i s q => ?_) (fun s q => he s q.2)
  have hq := q.2
  rcases hs (n - (i + 1)) s (by omega) hq with ⟨s2, e, i2⟩ | w
  · exact .inl ⟨s2, e, by omega, by rw [show n - i = n - (i + 1) + 1 by omega]; exact i2⟩
  · exact .inr w
/-- the cells of the house of the class, and of the model -/
def hv_hd (i : Nat) : Bool := Nat.ble 1 i && Nat.ble i 10
def hv_hm (i j : Nat) : Bool := (Nat.beq i 66 && Nat.ble j 6) || (Nat.ble 67 i && Nat.ble i 81)
/-- a change of the house -/
theorem hv_chg {α : Type} {g : hv} {σ : am_St} (hi : hv_inv σ) (ok : hv_ok g) (so : hv_some g) {X Y : am_St → Option (α × am_St)} (v : α) (h1 : ∃ τ, X σ = some (v, τ) ∧ hv_dev 1 g τ ∧ ∀ i j, hv_scr i j = false → hv_hd i = false → τ.1 i j = σ.1 i j) (h2 : ∀ τ, (∀ i j, hv_scr i j = false → hv_hd i = false → τ.1 i j = σ.1 i j) → ∃ υ, Y τ = some (v, υ) ∧ hv_mod g υ ∧ ∀ i j, hv_scr i j = false → hv_hm i j = false → υ.1 i j = τ.1 i j) : ∃ r τ1 τ2, X σ = some (r, τ1) ∧ Y τ1 = some (r, τ2) ∧ hv_inv τ2 := by
  obtain ⟨τ, e1, d, F1⟩ := h1
  obtain ⟨υ, e2, m, F2⟩ := h2 τ F1
  refine ⟨v, τ, υ, e1, e2, ?_⟩
  have F : ∀ i j, hv_scr i j = false → hv_hd i = false → hv_hm i j = false → υ.1 i j = σ.1 i j := fun i j a b c => by rw [F2 i j a c, F1 i j a b]
  obtain ⟨-, im, ⟨n, hn, l1, l2, l3⟩, ⟨q, hq, r1, r2, r3⟩, rf⟩ := hi
  refine ⟨⟨g, ok, so, d.frame fun i j a b => F2 i j (hv_scr_dev (.inl rfl) a b) ?_, m⟩, ?_, ⟨n, hn, (F 35 1 rfl rfl rfl).trans l1, (F 66 28 rfl rfl rfl).trans l2, fun i hi => ?_⟩, ⟨q, hq, (F 0 7 rfl rfl rfl).trans r1, (F 66 46 rfl rfl rfl).trans r2, fun i hi => ?_⟩, fun i hi => ?_⟩
  · have e : i = 1 ∨ i = 2 ∨ i = 3 ∨ i = 4 ∨ i = 5 ∨ i = 6 ∨ i = 7 ∨ i = 8 ∨ i = 9 ∨ i = 10 := by omega
    rcases e with rfl | rfl | rfl | rfl | rfl | rfl | rfl | rfl | rfl | rfl <;> rfl
  · rw [F 0 2 rfl rfl rfl, F 66 38 rfl rfl rfl]
    rcases im with im | ⟨i1, i2, g', g1, g2, g3, g4⟩
    · exact .inl im
    · refine .inr ⟨i1, i2, g', g1, g2, g3.frame fun i j b1 b2 => ?_, g4.frame fun j => F 91 j rfl rfl rfl⟩
      have e : i = 18 ∨ i = 19 ∨ i = 20 ∨ i = 21 ∨ i = 22 ∨ i = 23 ∨ i = 24 ∨ i = 25 ∨ i = 26 ∨ i = 27 := by omega
      rcases e with rfl | rfl | rfl | rfl | rfl | rfl | rfl | rfl | rfl | rfl <;> exact F _ j rfl rfl rfl
  · rw [F 36 i rfl rfl rfl, F 86 i rfl rfl rfl]; exact l3 i hi
  · rw [F 64 i rfl rfl rfl, F 94 i rfl rfl rfl]; exact r3 i hi
  · rw [F 65 i rfl rfl rfl, F 82 i (hv_scr_mod (by decide) (by decide)) rfl rfl]; exact rf i hi
theorem hv_mod.hd {h : hv} {σ τ : am_St} (x : hv_mod h σ) (F : ∀ i j, hv_scr i j = false → hv_hd i = false → τ.1 i j = σ.1 i j) : hv_mod h τ := by
  refine x.frame (fun k hk => F 66 k (hv_scr_66 hk) rfl) (fun i k h1 h2 => F i k (hv_scr_mod h1 (by omega)) ?_)
  have e : i = 67 ∨ i = 68 ∨ i = 69 ∨ i = 70 ∨ i = 71 ∨ i = 72 ∨ i = 73 ∨ i = 74 ∨ i = 75 ∨ i = 76 ∨ i = 77 ∨ i = 78 ∨ i = 79 ∨ i = 80 ∨ i = 81 := by omega
  rcases e with rfl | rfl | rfl | rfl | rfl | rfl | rfl | rfl | rfl | rfl | rfl | rfl | rfl | rfl | rfl <;> rfl
theorem hI_lt0 {n : Nat} (h : n < 2 ^ 31) : ¬ hI n < 0 := fun e => Nat.not_lt_zero n ((hI_lt (m := 0) h (by decide)).mp e)
theorem hI_nlt {n m : Nat} (h1 : n < 2 ^ 31) (h2 : m < 2 ^ 31) (h : m ≤ n) : ¬ hI n < hI m := fun e => by have := (hI_lt h1 h2).mp e; omega
theorem hI_nle {n m : Nat} (h1 : n < 2 ^ 31) (h2 : m < 2 ^ 31) (h : m < n) : ¬ hI n ≤ hI m := fun e => by have := (hI_le h1 h2).mp e; omega
theorem hI_ne {n m : Nat} (h1 : n < 2 ^ 31) (h2 : m < 2 ^ 31) (h : n ≠ m) : ¬ hI n = hI m := fun e => h ((hI_inj h1 h2).mp e)
theorem hI_nge1 {n : Nat} (h : n < 1) : ¬ (1 : Int32) ≤ hI n := hI_nle (n := 1) (by decide) (by omega) h
theorem hI_ge1 {n : Nat} (h : 1 ≤ n) (h2 : n < 2 ^ 31) : (1 : Int32) ≤ hI n := (hI_le (n := 1) (by decide) h2).mpr h
theorem hI_ne1 {n : Nat} (h : n < 2 ^ 31) (e : n ≠ 1) : ¬ hI n = 1 := hI_ne h (m := 1) (by decide) e
theorem hI_nge3 {n : Nat} (h : n < 3) : ¬ (3 : Int32) ≤ hI n := hI_nle (n := 3) (by decide) (by omega) h
theorem hI_ge3 {n : Nat} (h : 3 ≤ n) (h2 : n < 2 ^ 31) : (3 : Int32) ≤ hI n := (hI_le (n := 3) (by decide) h2).mpr h
theorem hI_ne3 {n : Nat} (h : n < 2 ^ 31) (e : n ≠ 3) : ¬ hI n = 3 := hI_ne h (m := 3) (by decide) e
theorem hI_nge4 {n : Nat} (h : n < 4) : ¬ (4 : Int32) ≤ hI n := hI_nle (n := 4) (by decide) (by omega) h
theorem hI_ge4 {n : Nat} (h : 4 ≤ n) (h2 : n < 2 ^ 31) : (4 : Int32) ≤ hI n := (hI_le (n := 4) (by decide) h2).mpr h
theorem hI_ne4 {n : Nat} (h : n < 2 ^ 31) (e : n ≠ 4) : ¬ hI n = 4 := hI_ne h (m := 4) (by decide) e
theorem hI_nge5 {n : Nat} (h : n < 5) : ¬ (5 : Int32) ≤ hI n := hI_nle (n := 5) (by decide) (by omega) h
theorem hI_ge5 {n : Nat} (h : 5 ≤ n) (h2 : n < 2 ^ 31) : (5 : Int32) ≤ hI n := (hI_le (n := 5) (by decide) h2).mpr h
theorem hI_ne5 {n : Nat} (h : n < 2 ^ 31) (e : n ≠ 5) : ¬ hI n = 5 := hI_ne h (m := 5) (by decide) e
theorem hI_nge6 {n : Nat} (h : n < 6) : ¬ (6 : Int32) ≤ hI n := hI_nle (n := 6) (by decide) (by omega) h
theorem hI_ge6 {n : Nat} (h : 6 ≤ n) (h2 : n < 2 ^ 31) : (6 : Int32) ≤ hI n := (hI_le (n := 6) (by decide) h2).mpr h
theorem hI_ne6 {n : Nat} (h : n < 2 ^ 31) (e : n ≠ 6) : ¬ hI n = 6 := hI_ne h (m := 6) (by decide) e
theorem hI_nge7 {n : Nat} (h : n < 7) : ¬ (7 : Int32) ≤ hI n := hI_nle (n := 7) (by decide) (by omega) h
theorem hI_ge7 {n : Nat} (h : 7 ≤ n) (h2 : n < 2 ^ 31) : (7 : Int32) ≤ hI n := (hI_le (n := 7) (by decide) h2).mpr h
theorem hI_ne7 {n : Nat} (h : n < 2 ^ 31) (e : n ≠ 7) : ¬ hI n = 7 := hI_ne h (m := 7) (by decide) e
theorem hI_nge8 {n : Nat} (h : n < 8) : ¬ (8 : Int32) ≤ hI n := hI_nle (n := 8) (by decide) (by omega) h
theorem hI_ge8 {n : Nat} (h : 8 ≤ n) (h2 : n < 2 ^ 31) : (8 : Int32) ≤ hI n := (hI_le (n := 8) (by decide) h2).mpr h
theorem hI_ne8 {n : Nat} (h : n < 2 ^ 31) (e : n ≠ 8) : ¬ hI n = 8 := hI_ne h (m := 8) (by decide) e
theorem hI_nge10 {n : Nat} (h : n < 10) : ¬ (10 : Int32) ≤ hI n := hI_nle (n := 10) (by decide) (by omega) h
theorem hI_ge10 {n : Nat} (h : 10 ≤ n) (h2 : n < 2 ^ 31) : (10 : Int32) ≤ hI n := (hI_le (n := 10) (by decide) h2).mpr h
theorem hI_ne10 {n : Nat} (h : n < 2 ^ 31) (e : n ≠ 10) : ¬ hI n = 10 := hI_ne h (m := 10) (by decide) e
theorem hI_nge16 {n : Nat} (h : n < 16) : ¬ (16 : Int32) ≤ hI n := hI_nle (n := 16) (by decide) (by omega) h
theorem hI_ge16 {n : Nat} (h : 16 ≤ n) (h2 : n < 2 ^ 31) : (16 : Int32) ≤ hI n := (hI_le (n := 16) (by decide) h2).mpr h
theorem hI_ne16 {n : Nat} (h : n < 2 ^ 31) (e : n ≠ 16) : ¬ hI n = 16 := hI_ne h (m := 16) (by decide) e
theorem hI_nge20 {n : Nat} (h : n < 20) : ¬ (20 : Int32) ≤ hI n := hI_nle (n := 20) (by decide) (by omega) h
theorem hI_ge20 {n : Nat} (h : 20 ≤ n) (h2 : n < 2 ^ 31) : (20 : Int32) ≤ hI n := (hI_le (n := 20) (by decide) h2).mpr h
theorem hI_ne20 {n : Nat} (h : n < 2 ^ 31) (e : n ≠ 20) : ¬ hI n = 20 := hI_ne h (m := 20) (by decide) e
theorem hI_nge24 {n : Nat} (h : n < 24) : ¬ (24 : Int32) ≤ hI n := hI_nle (n := 24) (by decide) (by omega) h
theorem hI_ge24 {n : Nat} (h : 24 ≤ n) (h2 : n < 2 ^ 31) : (24 : Int32) ≤ hI n := (hI_le (n := 24) (by decide) h2).mpr h
theorem hI_ne24 {n : Nat} (h : n < 2 ^ 31) (e : n ≠ 24) : ¬ hI n = 24 := hI_ne h (m := 24) (by decide) e
theorem hI_nge32 {n : Nat} (h : n < 32) : ¬ (32 : Int32) ≤ hI n := hI_nle (n := 32) (by decide) (by omega) h
theorem hI_ge32 {n : Nat} (h : 32 ≤ n) (h2 : n < 2 ^ 31) : (32 : Int32) ≤ hI n := (hI_le (n := 32) (by decide) h2).mpr h
theorem hI_ne32 {n : Nat} (h : n < 2 ^ 31) (e : n ≠ 32) : ¬ hI n = 32 := hI_ne h (m := 32) (by decide) e
theorem hI_nge99 {n : Nat} (h : n < 99) : ¬ (99 : Int32) ≤ hI n := hI_nle (n := 99) (by decide) (by omega) h
theorem hI_ge99 {n : Nat} (h : 99 ≤ n) (h2 : n < 2 ^ 31) : (99 : Int32) ≤ hI n := (hI_le (n := 99) (by decide) h2).mpr h
theorem hI_ne99 {n : Nat} (h : n < 2 ^ 31) (e : n ≠ 99) : ¬ hI n = 99 := hI_ne h (m := 99) (by decide) e
theorem hI_nge100 {n : Nat} (h : n < 100) : ¬ (100 : Int32) ≤ hI n := hI_nle (n := 100) (by decide) (by omega) h
theorem hI_ge100 {n : Nat} (h : 100 ≤ n) (h2 : n < 2 ^ 31) : (100 : Int32) ≤ hI n := (hI_le (n := 100) (by decide) h2).mpr h
theorem hI_ne100 {n : Nat} (h : n < 2 ^ 31) (e : n ≠ 100) : ¬ hI n = 100 := hI_ne h (m := 100) (by decide) e
theorem hI_nge256 {n : Nat} (h : n < 256) : ¬ (256 : Int32) ≤ hI n := hI_nle (n := 256) (by decide) (by omega) h
theorem hI_ge256 {n : Nat} (h : 256 ≤ n) (h2 : n < 2 ^ 31) : (256 : Int32) ≤ hI n := (hI_le (n := 256) (by decide) h2).mpr h
theorem hI_ne256 {n : Nat} (h : n < 2 ^ 31) (e : n ≠ 256) : ¬ hI n = 256 := hI_ne h (m := 256) (by decide) e
theorem hI_ne0 {n : Nat} (h : n < 2 ^ 31) (e : n ≠ 0) : ¬ hI n = 0 := hI_ne h (m := 0) (by decide) e
theorem hI_le0 {n : Nat} (h : n < 2 ^ 31) (e : 0 < n) : ¬ hI n ≤ 0 := hI_nle (m := 0) h (by decide) e
