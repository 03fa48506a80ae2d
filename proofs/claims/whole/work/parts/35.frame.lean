/-! PURE: what a call may leave as it likes; refusals; numbers -/
theorem hI_lt {n m : Nat} (h1 : n < 2 ^ 31) (h2 : m < 2 ^ 31) : hI n < hI m ↔ n < m := Int32.ofNat_lt_ofNat h1 h2
theorem hI_le {n m : Nat} (h1 : n < 2 ^ 31) (h2 : m < 2 ^ 31) : hI n ≤ hI m ↔ n ≤ m := Int32.ofNat_le_ofNat h1 h2
theorem hI_clamp {n : Nat} (h : n < 2 ^ 31) : (hI n).toNatClampNeg = n := Int32.toNatClampNeg_ofNat_of_lt h
theorem hI_inj {n m : Nat} (h1 : n < 2 ^ 31) (h2 : m < 2 ^ 31) : hI n = hI m ↔ n = m := ⟨fun e => by rw [← hI_clamp h1, e, hI_clamp h2], fun e => by rw [e]⟩
theorem hI_add (n m : Nat) : hI n + hI m = hI (n + m) := (Int32.ofNat_add n m).symm
theorem hI_add1 (n : Nat) : hI n + 1 = hI (n + 1) := hI_add n 1
theorem hI_ix {n N : Nat} (h : n < N) (hN : N < 2 ^ 31) : am_ix (hI n) N = true := by
  have h1 : ¬ hI n < 0 := by
    rw [show (0 : Int32) = hI 0 from rfl, hI_lt (by omega) (by decide)]; omega
  have h2 : ¬ N ≤ (hI n).toNatClampNeg := by rw [hI_clamp (by omega)]; omega
  unfold am_ix
  exact decide_eq_true (fun e => e.elim h1 h2)
theorem hI_of {a : Int32} (h : 0 ≤ a) : ∃ n, n < 2 ^ 31 ∧ a = hI n := by
  have h1 : 0 ≤ a.toInt := Int32.le_iff_toInt_le.mp h
  have h2 := a.toInt_lt
  refine ⟨a.toInt.toNat, by omega, ?_⟩
  have : a = Int32.ofInt a.toInt := (Int32.ofInt_toInt a).symm
  rw [this]
  show _ = Int32.ofNat _
  rw [← Int32.ofInt_eq_ofNat, Int32.ofInt_toInt, Int.toNat_of_nonneg h1, Int32.ofInt_toInt]
theorem hv_g1 (σ : am_St) (i k : Nat) (x : Int32) : (am_sI σ i k x).1 i k = x := by simp [am_sI, am_rI, upd]
theorem hv_g2 (σ : am_St) {i j : Nat} (h : j ≠ i) (k : Nat) (x : Int32) : (am_sI σ i k x).1 j = σ.1 j := by simp [am_sI, am_rI, h]
theorem hv_g3 (σ : am_St) (i : Nat) {k q : Nat} (h : q ≠ k) (x : Int32) : (am_sI σ i k x).1 i q = σ.1 i q := by simp [am_sI, am_rI, upd, h]
/-- the cells that a call may leave as it likes -/
def hv_scr (i k : Nat) : Bool := (Nat.ble 37 i && Nat.ble i 47) || (Nat.ble 54 i && Nat.ble i 63) || (Nat.beq i 66 && (Nat.beq k 22 || (Nat.ble 29 k && Nat.ble k 32) || Nat.beq k 39 || Nat.beq k 40 || Nat.beq k 43 || Nat.beq k 47)) || Nat.beq i 83 || Nat.beq i 84 || Nat.beq i 85 || Nat.beq i 87 || Nat.beq i 88 || Nat.beq i 89 || Nat.beq i 90 || Nat.beq i 92 || Nat.beq i 93
def hv_Sm (σ τ : am_St) : Prop := ∀ i k, hv_scr i k = false → τ.1 i k = σ.1 i k
theorem hv_Sm.rfl' (σ : am_St) : hv_Sm σ σ := fun _ _ _ => rfl
theorem hv_Sm.trans {σ τ υ : am_St} (h1 : hv_Sm σ τ) (h2 : hv_Sm τ υ) : hv_Sm σ υ := fun i k h => (h2 i k h).trans (h1 i k h)
theorem hv_Sm.set {σ τ : am_St} (h : hv_Sm σ τ) {i k : Nat} (x : Int32) (hs : hv_scr i k = true) : hv_Sm σ (am_sI τ i k x) := by
  intro j q hq
  by_cases hj : j = i
  · subst hj
    by_cases hk : q = k
    · subst hk; rw [hs] at hq; cases hq
    · rw [hv_g3 _ _ hk]; exact h _ _ hq
  · rw [hv_g2 _ hj]; exact h _ _ hq
theorem hv_dev.frame {b : Nat} {h : hv} {σ τ : am_St} (x : hv_dev b h σ) (H : ∀ i k, b ≤ i → i ≤ b + 9 → τ.1 i k = σ.1 i k) : hv_dev b h τ := hv_dev.mk
  (fR := (H _ _ (by omega) (by omega)).trans x.R)
  (fM := (H _ _ (by omega) (by omega)).trans x.M)
  (fC := (H _ _ (by omega) (by omega)).trans x.C)
  (fdr := (H _ _ (by omega) (by omega)).trans x.dr)
  (fdm := (H _ _ (by omega) (by omega)).trans x.dm)
  (fF := (H _ _ (by omega) (by omega)).trans x.F)
  (fS := (H _ _ (by omega) (by omega)).trans x.S)
  (fdoor := fun r hr => (H _ _ (by omega) (by omega)).trans (x.door r hr))
  (fkind := fun r hr => (H _ _ (by omega) (by omega)).trans (x.kind r hr))
  (ffig := fun r hr => (H _ _ (by omega) (by omega)).trans (x.fig r hr))
  (ftie := fun r hr => (H _ _ (by omega) (by omega)).trans (x.tie r hr))
  (fskill := fun r hr => (H _ _ (by omega) (by omega)).trans (x.skill r hr))
  (fplace := fun r hr m hm => (H _ _ (by omega) (by omega)).trans (x.place r hr m hm))
  (fchance := fun r hr => (H _ _ (by omega) (by omega)).trans (x.chance r hr))
  (ffact := fun r hr => (H _ _ (by omega) (by omega)).trans (x.fact r hr))
  (fsay := fun r hr => (H _ _ (by omega) (by omega)).trans (x.say r hr))
theorem hv_mod.frame {h : hv} {σ τ : am_St} (x : hv_mod h σ) (H0 : ∀ k, k < 7 → τ.1 66 k = σ.1 66 k) (H : ∀ i k, 67 ≤ i → i ≤ 81 → τ.1 i k = σ.1 i k) : hv_mod h τ := hv_mod.mk
  (fR := (H0 _ (by omega)).trans x.R)
  (fM := (H0 _ (by omega)).trans x.M)
  (fC := (H0 _ (by omega)).trans x.C)
  (fF := (H0 _ (by omega)).trans x.F)
  (fS := (H0 _ (by omega)).trans x.S)
  (fdr := (H0 _ (by omega)).trans x.dr)
  (fdm := (H0 _ (by omega)).trans x.dm)
  (fdoor := fun r hr => (H _ _ (by omega) (by omega)).trans (x.door r hr))
  (fkind := fun r hr => (H _ _ (by omega) (by omega)).trans (x.kind r hr))
  (ffig := fun r hr => (H _ _ (by omega) (by omega)).trans (x.fig r hr))
  (ftie := fun r hr => (H _ _ (by omega) (by omega)).trans (x.tie r hr))
  (fskill := fun r hr => (H _ _ (by omega) (by omega)).trans (x.skill r hr))
  (fplace := fun r hr m hm => (H _ _ (by omega) (by omega)).trans (x.place r hr m hm))
  (fchance := fun r hr => (H _ _ (by omega) (by omega)).trans (x.chance r hr))
  (ffc := fun r hr => (H _ _ (by omega) (by omega)).trans (x.fc r hr))
  (ffm := fun r hr => (H _ _ (by omega) (by omega)).trans (x.fm r hr))
  (ffr := fun r hr => (H _ _ (by omega) (by omega)).trans (x.fr r hr))
  (ffi := fun r hr => (H _ _ (by omega) (by omega)).trans (x.fi r hr))
  (fsp := fun r hr => (H _ _ (by omega) (by omega)).trans (x.sp r hr))
  (fsc := fun r hr => (H _ _ (by omega) (by omega)).trans (x.sc r hr))
  (fsm := fun r hr => (H _ _ (by omega) (by omega)).trans (x.sm r hr))
  (fsr := fun r hr => (H _ _ (by omega) (by omega)).trans (x.sr r hr))
theorem hv_img.frame {id : Nat} {h : hv} {σ τ : am_St} (x : hv_img id h σ) (H : ∀ k, τ.1 id k = σ.1 id k) : hv_img id h τ := hv_img.mk
  (fR := (H _).trans x.R)
  (fM := (H _).trans x.M)
  (fC := (H _).trans x.C)
  (fF := (H _).trans x.F)
  (fS := (H _).trans x.S)
  (fdr := (H _).trans x.dr)
  (fdm := (H _).trans x.dm)
  (fdoor := fun r hr => (H _).trans (x.door r hr))
  (fkind := fun r hr => (H _).trans (x.kind r hr))
  (ffig := fun r hr => (H _).trans (x.fig r hr))
  (ftie := fun r hr => (H _).trans (x.tie r hr))
  (fskill := fun r hr => (H _).trans (x.skill r hr))
  (fplace := fun r hr m hm => (H _).trans (x.place r hr m hm))
  (fchance := fun r hr => (H _).trans (x.chance r hr))
  (ffc := fun r hr => (H _).trans (x.fc r hr))
  (ffm := fun r hr => (H _).trans (x.fm r hr))
  (ffr := fun r hr => (H _).trans (x.fr r hr))
  (ffi := fun r hr => (H _).trans (x.fi r hr))
  (fsp := fun r hr => (H _).trans (x.sp r hr))
  (fsc := fun r hr => (H _).trans (x.sc r hr))
  (fsm := fun r hr => (H _).trans (x.sm r hr))
  (fsr := fun r hr => (H _).trans (x.sr r hr))
theorem hv_scr_dev {b i k : Nat} (hb : b = 1 ∨ b = 18) (h1 : b ≤ i) (h2 : i ≤ b + 9) : hv_scr i k = false := by
  rcases hb with rfl | rfl
  · have e : i = 1 ∨ i = 2 ∨ i = 3 ∨ i = 4 ∨ i = 5 ∨ i = 6 ∨ i = 7 ∨ i = 8 ∨ i = 9 ∨ i = 10 := by omega
    rcases e with rfl | rfl | rfl | rfl | rfl | rfl | rfl | rfl | rfl | rfl <;> rfl
  · have e : i = 18 ∨ i = 19 ∨ i = 20 ∨ i = 21 ∨ i = 22 ∨ i = 23 ∨ i = 24 ∨ i = 25 ∨ i = 26 ∨ i = 27 := by omega
    rcases e with rfl | rfl | rfl | rfl | rfl | rfl | rfl | rfl | rfl | rfl <;> rfl
theorem hv_scr_mod {i k : Nat} (h1 : 67 ≤ i) (h2 : i ≤ 82) : hv_scr i k = false := by
  have e : i = 67 ∨ i = 68 ∨ i = 69 ∨ i = 70 ∨ i = 71 ∨ i = 72 ∨ i = 73 ∨ i = 74 ∨ i = 75 ∨ i = 76 ∨ i = 77 ∨ i = 78 ∨ i = 79 ∨ i = 80 ∨ i = 81 ∨ i = 82 := by omega
  rcases e with rfl | rfl | rfl | rfl | rfl | rfl | rfl | rfl | rfl | rfl | rfl | rfl | rfl | rfl | rfl | rfl <;> rfl
theorem hv_scr_66 {k : Nat} (h : k < 7) : hv_scr 66 k = false := by
  have e : k = 0 ∨ k = 1 ∨ k = 2 ∨ k = 3 ∨ k = 4 ∨ k = 5 ∨ k = 6 := by omega
  rcases e with rfl | rfl | rfl | rfl | rfl | rfl | rfl <;> rfl
/-- the invariant without the refusals -/
def hv_in5 (σ : am_St) : Prop :=
  (∃ h, hv_ok h ∧ hv_some h ∧ hv_dev 1 h σ ∧ hv_mod h σ)
  ∧ ((σ.1 0 2 = 0 ∧ σ.1 66 38 = 0) ∨ (σ.1 0 2 = 1 ∧ σ.1 66 38 = 1 ∧ ∃ h, hv_ok h ∧ hv_some h ∧ hv_dev 18 h σ ∧ hv_img 91 h σ))
  ∧ (∃ n, n ≤ 96 ∧ σ.1 35 1 = hI n ∧ σ.1 66 28 = hI n ∧ ∀ i, i < n → ∃ k, k < 256 ∧ σ.1 36 i = hI k ∧ σ.1 86 i = hI k)
  ∧ (∃ n, n ≤ 12 ∧ σ.1 0 7 = hI n ∧ σ.1 66 46 = hI n ∧ ∀ i, i < n → ∃ k, k < 10 ∧ σ.1 64 i = hI k ∧ σ.1 94 i = hI k)
/-- equal but for what a call may leave as it likes, and for the refusals -/
def hv_Sr (σ τ : am_St) : Prop := ∀ i k, hv_scr i k = false → i ≠ 65 → i ≠ 82 → τ.1 i k = σ.1 i k
theorem hv_in5.frame {σ τ : am_St} (x : hv_in5 σ) (H : hv_Sr σ τ) : hv_in5 τ := by
  obtain ⟨⟨h, ok, so, d, m⟩, im, ⟨n, hn, l1, l2, l3⟩, ⟨q, hq, r1, r2, r3⟩⟩ := x
  refine ⟨⟨h, ok, so, d.frame fun i k h1 h2 => H i k (hv_scr_dev (.inl rfl) h1 h2) (by omega) (by omega), m.frame (fun k hk => H 66 k (hv_scr_66 hk) (by decide) (by decide)) (fun i k h1 h2 => H i k (hv_scr_mod h1 (by omega)) (by omega) (by omega))⟩, ?_, ⟨n, hn, (H 35 1 rfl (by decide) (by decide)).trans l1, (H 66 28 rfl (by decide) (by decide)).trans l2, fun i hi => ?_⟩, ⟨q, hq, (H 0 7 rfl (by decide) (by decide)).trans r1, (H 66 46 rfl (by decide) (by decide)).trans r2, fun i hi => ?_⟩⟩
  · rw [H 0 2 rfl (by decide) (by decide), H 66 38 rfl (by decide) (by decide)]
    rcases im with im | ⟨i1, i2, g, g1, g2, g3, g4⟩
    · exact .inl im
    · exact .inr ⟨i1, i2, g, g1, g2, g3.frame fun i k h1 h2 => H i k (hv_scr_dev (.inr rfl) h1 h2) (by omega) (by omega), g4.frame fun k => H 91 k rfl (by decide) (by decide)⟩
  · obtain ⟨k, k1, k2, k3⟩ := l3 i hi
    exact ⟨k, k1, (H 36 i rfl (by decide) (by decide)).trans k2, (H 86 i rfl (by decide) (by decide)).trans k3⟩
  · obtain ⟨k, k1, k2, k3⟩ := r3 i hi
    exact ⟨k, k1, (H 64 i rfl (by decide) (by decide)).trans k2, (H 94 i rfl (by decide) (by decide)).trans k3⟩
theorem hv_inv_iff (σ : am_St) : hv_inv σ ↔ hv_in5 σ ∧ ∀ i, i < 7 → σ.1 65 i = σ.1 82 i := ⟨fun ⟨a, b, c, d, e⟩ => ⟨⟨a, b, c, d⟩, e⟩, fun ⟨⟨a, b, c, d⟩, e⟩ => ⟨a, b, c, d, e⟩⟩
theorem hv_Sm.Sr {σ τ : am_St} (h : hv_Sm σ τ) : hv_Sr σ τ := fun i k a _ _ => h i k a
theorem hv_Sm.inv {σ τ : am_St} (h : hv_Sm σ τ) (x : hv_inv σ) : hv_inv τ := by
  rw [hv_inv_iff] at x ⊢
  exact ⟨x.1.frame h.Sr, fun i hi => by rw [h 65 i rfl, h 82 i (hv_scr_mod (by decide) (by decide))]; exact x.2 i hi⟩
