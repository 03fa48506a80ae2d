/-! PURE: what a call may leave as it likes; refusals; numbers -/
theorem hI_lt {n m : Nat} (h1 : n < 2 ^ 31) (h2 : m < 2 ^ 31) : hI n < hI m ↔ n < m := Int32.ofNat_lt_ofNat h1 h2
theorem hI_le {n m : Nat} (h1 : n < 2 ^ 31) (h2 : m < 2 ^ 31) : hI n ≤ hI m ↔ n ≤ m := Int32.ofNat_le_ofNat h1 h2
theorem hI_clamp {n : Nat} (h : n < 2 ^ 31) : (hI n).toNatClampNeg = n := Int32.toNatClampNeg_ofNat_of_lt h
theorem hI_inj {n m : Nat} (h1 : n < 2 ^ 31) (h2 : m < 2 ^ 31) : hI n = hI m ↔ n = m := ⟨fun e => by rw [← hI_clamp h1, e, hI_clamp h2], fun e => by rw [e]⟩
theorem hI_add (n m : Nat) : hI n + hI m = hI (n + m) := (Int32.ofNat_add n m).symm
theorem hI_add1 (n : Nat) : hI n + 1 = hI (n + 1) := hI_add n 1
theorem hI_ix {n N : Nat} (h : n < N) (hN : N < 2 ^ 31) : am_ix (hI n) N = true := by
  have h1 : ¬ hI n < 0 := by
    rw [show (0 : Int32) = hI 0 from rfl, hI_lt (by omega) (by decide)]; omega
  have h2 : ¬ N ≤ (hI n).toNatClampNeg := by rw [hI_clamp (by omega)]; omega
  unfold am_ix
  exact decide_eq_true (fun e => e.elim h1 h2)
theorem hI_of {a : Int32} (h : 0 ≤ a) : ∃ n, n < 2 ^ 31 ∧ a = hI n := by
  have h1 : 0 ≤ a.toInt := Int32.le_iff_toInt_le.mp h
  have h2 := a.toInt_lt
  refine ⟨a.toInt.toNat, by omega, ?_⟩
  have : a = Int32.ofInt a.toInt := (Int32.ofInt_toInt a).symm
  rw [this]
  show _ = Int32.ofNat _
  rw [← Int32.ofInt_eq_ofNat, Int32.ofInt_toInt, Int.toNat_of_nonneg h1, Int32.ofInt_toInt]
theorem hv_g1 (σ : am_St) (i k : Nat) (x : Int32) : (am_sI σ i k x).1 i k = x := by simp [am_sI, am_rI, upd]
theorem hv_g2 (σ : am_St) {i j : Nat} (h : j ≠ i) (k : Nat) (x : Int32) : (am_sI σ i k x).1 j = σ.1 j := by simp [am_sI, am_rI, h]
theorem hv_g3 (σ : am_St) (i : Nat) {k q : Nat} (h : q ≠ k) (x : Int32) : (am_sI σ i k x).1 i q = σ.1 i q := by simp [am_sI, am_rI, upd, h]
/-- the cells that a call may leave as it likes -/
def hv_scr (i k : Nat) : Bool := (Nat.ble 37 i && Nat.ble i 47) || (Nat.ble 54 i && Nat.ble i 63) || (Nat.beq i 66 && (Nat.beq k 22 || (Nat.ble 29 k && Nat.ble k 32) || Nat.beq k 39 || Nat.beq k 40 || Nat.beq k 43 || Nat.beq k 47)) || Nat.beq i 83 || Nat.beq i 84 || Nat.beq i 85 || Nat.beq i 87 || Nat.beq i 88 || Nat.beq i 89 || Nat.beq i 90 || Nat.beq i 92 || Nat.beq i 93
def hv_Sm (σ τ : am_St) : Prop := ∀ i k, hv_scr i k = false → τ.1 i k = σ.1 i k
theorem hv_Sm.rfl' (σ : am_St) : hv_Sm σ σ := fun _ _ _ => rfl
theorem hv_Sm.trans {σ τ υ : am_St} (h1 : hv_Sm σ τ) (h2 : hv_Sm τ υ) : hv_Sm σ υ := fun i k h => (h2 i k h).trans (h1 i k h)
theorem hv_Sm.set {σ τ : am_St} (h : hv_Sm σ τ) {i k : Nat} (x : Int32) (hs : hv_scr i k = true) : hv_Sm σ (am_sI τ i k x) := by
  intro j q hq
  by_cases hj : j = i
  · subst hj
    by_cases hk : q = k
    · subst hk; rw [hs] at hq; cases hq
    · rw [hv_g3 _ _ hk]; exact h _ _ hq
  · rw [hv_g2 _ hj]; exact h _ _ hq
theorem hv_dev.frame {b : Nat} {h : hv} {σ τ : am_St} (x : hv_dev b h σ) (H : ∀ i k, b ≤ i → i ≤ b + 9 → τ.1 i k = σ.1 i k) : hv_dev b h τ := hv_dev.mk
  (fR := (H _ _ (by omega) (by omega)).trans x.R)
  (fM := (H _ _ (by omega) (by omega)).trans x.M)
  (fC := (H _ _ (by omega) (by omega)).trans x.C)
  (fdr := (H _ _ (by omega) (by omega)).trans x.dr)
  (fdm := (H _ _ (by omega) (by omega)).trans x.dm)
  (fF := (H _ _ (by omega) (by omega)).trans x.F)
  (fS := (H _ _ (by omega) (by omega)).trans x.S)
  (fdoor := fun r hr => (H _ _ (by omega) (by omega)).trans (x.door r hr))
  (fkind := fun r hr => (H _ _ (by omega) (by omega)).trans (x.kind r hr))
  (ffig := fun r hr => (H _ _ (by omega) (by omega)).trans (x.fig r hr))
  (ftie := fun r hr => (H _ _ (by omega) (by omega)).trans (x.tie r hr))
  (fskill := fun r hr => (H _ _ (by omega) (by omega)).trans (x.skill r hr))
  (fplace := fun r hr m hm => (H _ _ (by omega) (by omega)).trans (x.place r hr m hm))
  (fchance := fun r hr => (H _ _ (by omega) (by omega)).trans (x.chance r hr))
  (ffact := fun r hr => (H _ _ (by omega) (by omega)).trans (x.fact r hr))
  (fsay := fun r hr => (H _ _ (by omega) (by omega)).trans (x.say r hr))
theorem hv_mod.frame {h : hv} {σ τ : am_St} (x : hv_mod h σ) (H0 : ∀ k, k < 7 → τ.1 66 k = σ.1 66 k) (H : ∀ i k, 67 ≤ i → i ≤ 81 → τ.1 i k = σ.1 i k) : hv_mod h τ := hv_mod.mk
  (fR := (H0 _ (by omega)).trans x.R)
  (fM := (H0 _ (by omega)).trans x.M)
  (fC := (H0 _ (by omega)).trans x.C)
  (fF := (H0 _ (by omega)).trans x.F)
  (fS := (H0 _ (by omega)).trans x.S)
  (fdr := (H0 _ (by omega)).trans x.dr)
  (fdm := (H0 _ (by omega)).trans x.dm)
  (fdoor := fun r hr => (H _ _ (by omega) (by omega)).trans (x.door r hr))
  (fkind := fun r hr => (H _ _ (by omega) (by omega)).trans (x.kind r hr))
  (ffig := fun r hr => (H _ _ (by omega) (by omega)).trans (x.fig r hr))
  (ftie := fun r hr => (H _ _ (by omega) (by omega)).trans (x.tie r hr))
  (fskill := fun r hr => (H _ _ (by omega) (by omega)).trans (x.skill r hr))
  (fplace := fun r hr m hm => (H _ _ (by omega) (by omega)).trans (x.place r hr m hm))
  (fchance := fun r hr => (H _ _ (by omega) (by omega)).trans (x.chance r hr))
  (ffc := fun r hr => (H _ _ (by omega) (by omega)).trans (x.fc r hr))
  (ffm := fun r hr => (H _ _ (by omega) (by omega)).trans (x.fm r hr))
  (ffr := fun r hr => (H _ _ (by omega) (by omega)).trans (x.fr r hr))
  (ffi := fun r hr => (H _ _ (by omega) (by omega)).trans (x.fi r hr))
  (fsp := fun r hr => (H _ _ (by omega) (by omega)).trans (x.sp r hr))
  (fsc := fun r hr => (H _ _ (by omega) (by omega)).trans (x.sc r hr))
  (fsm := fun r hr => (H _ _ (by omega) (by omega)).trans (x.sm r hr))
  (fsr := fun r hr => (H _ _ (by omega) (by omega)).trans (x.sr r hr))
theorem hv_img.frame {id : Nat} {h : hv} {σ τ : am_St} (x : hv_img id h σ) (H : ∀ k, τ.1 id k = σ.1 id k) : hv_img id h τ := hv_img.mk
  (fR := (H _).trans x.R)
  (fM := (H _).trans x.M)
  (fC := (H _).trans x.C)
  (fF := (H _).trans x.F)
  (fS := (H _).trans x.S)
  (fdr := (H _).trans x.dr)
  (fdm := (H _).trans x.dm)
  (fdoor := fun r hr => (H _).trans (x.door r hr))
  (fkind := fun r hr => (H _).trans (x.kind r hr))
  (ffig := fun r hr => (H _).trans (x.fig r hr))
  (ftie := fun r hr => (H _).trans (x.tie r hr))
  (fskill := fun r hr => (H _).trans (x.skill r hr))
  (fplace := fun r hr m hm => (H _).trans (x.place r hr m hm))
  (fchance := fun r hr => (H _).trans (x.chance r hr))
  (ffc := fun r hr => (H _).trans (x.fc r hr))
  (ffm := fun r hr => (H _).trans (x.fm r hr))
  (ffr := fun r hr => (H _).trans (x.fr r hr))
  (ffi := fun r hr => (H _).trans (x.fi r hr))
  (fsp := fun r hr => (H _).trans (x.sp r hr))
  (fsc := fun r hr => (H _).trans (x.sc r hr))
  (fsm := fun r hr => (H _).trans (x.sm r hr))
  (fsr := fun r hr => (H _).trans (x.sr r hr))
theorem hv_scr_dev {b i k : Nat} (hb : b = 1 ∨ b = 18) (h1 : b ≤ i) (h2 : i ≤ b + 9) : hv_scr i k = false := by
  simp [hv_scr, Nat.ble_eq, ← Nat.not_lt]
  omega
