/-! PURE: the abstract house, how the class and the model hold it, and the invariant -/
/-- a number in the class's words -/
def hI (n : Nat) : Int32 := Int32.ofNat n
/-- the abstract house: all that the image holds -/
def hv : Type := (Nat) × (Nat) × (Nat) × (Nat) × (Nat) × (Nat) × (Nat) × (Nat → Nat) × (Nat → Nat) × (Nat → Nat) × (Nat → Nat) × (Nat → Nat) × (Nat → Nat → Nat) × (Nat → Nat) × (Nat → Nat) × (Nat → Nat) × (Nat → Nat) × (Nat → Nat) × (Nat → Nat) × (Nat → Nat) × (Nat → Nat) × (Nat → Nat)
def hv.R (x : hv) : Nat := x.1
def hv.M (x : hv) : Nat := x.2.1
def hv.C (x : hv) : Nat := x.2.2.1
def hv.dr (x : hv) : Nat := x.2.2.2.1
def hv.dm (x : hv) : Nat := x.2.2.2.2.1
def hv.F (x : hv) : Nat := x.2.2.2.2.2.1
def hv.S (x : hv) : Nat := x.2.2.2.2.2.2.1
def hv.door (x : hv) : Nat → Nat := x.2.2.2.2.2.2.2.1
def hv.kind (x : hv) : Nat → Nat := x.2.2.2.2.2.2.2.2.1
def hv.fig (x : hv) : Nat → Nat := x.2.2.2.2.2.2.2.2.2.1
def hv.tie (x : hv) : Nat → Nat := x.2.2.2.2.2.2.2.2.2.2.1
def hv.skill (x : hv) : Nat → Nat := x.2.2.2.2.2.2.2.2.2.2.2.1
def hv.place (x : hv) : Nat → Nat → Nat := x.2.2.2.2.2.2.2.2.2.2.2.2.1
def hv.chance (x : hv) : Nat → Nat := x.2.2.2.2.2.2.2.2.2.2.2.2.2.1
def hv.fc (x : hv) : Nat → Nat := x.2.2.2.2.2.2.2.2.2.2.2.2.2.2.1
def hv.fm (x : hv) : Nat → Nat := x.2.2.2.2.2.2.2.2.2.2.2.2.2.2.2.1
def hv.fr (x : hv) : Nat → Nat := x.2.2.2.2.2.2.2.2.2.2.2.2.2.2.2.2.1
def hv.fi (x : hv) : Nat → Nat := x.2.2.2.2.2.2.2.2.2.2.2.2.2.2.2.2.2.1
def hv.sp (x : hv) : Nat → Nat := x.2.2.2.2.2.2.2.2.2.2.2.2.2.2.2.2.2.2.1
def hv.sc (x : hv) : Nat → Nat := x.2.2.2.2.2.2.2.2.2.2.2.2.2.2.2.2.2.2.2.1
def hv.sm (x : hv) : Nat → Nat := x.2.2.2.2.2.2.2.2.2.2.2.2.2.2.2.2.2.2.2.2.1
def hv.sr (x : hv) : Nat → Nat := x.2.2.2.2.2.2.2.2.2.2.2.2.2.2.2.2.2.2.2.2.2
def hv.mk (fR : Nat) (fM : Nat) (fC : Nat) (fdr : Nat) (fdm : Nat) (fF : Nat) (fS : Nat) (fdoor : Nat → Nat) (fkind : Nat → Nat) (ffig : Nat → Nat) (ftie : Nat → Nat) (fskill : Nat → Nat) (fplace : Nat → Nat → Nat) (fchance : Nat → Nat) (ffc : Nat → Nat) (ffm : Nat → Nat) (ffr : Nat → Nat) (ffi : Nat → Nat) (fsp : Nat → Nat) (fsc : Nat → Nat) (fsm : Nat → Nat) (fsr : Nat → Nat) : hv := (fR, fM, fC, fdr, fdm, fF, fS, fdoor, fkind, ffig, ftie, fskill, fplace, fchance, ffc, ffm, ffr, ffi, fsp, fsc, fsm, fsr)
/-- the numbers are what the document lets them be -/
def hv_ok (h : hv) : Prop :=
  (2 ≤ h.R ∧ h.R ≤ 4)
  ∧ (2 ≤ h.M ∧ h.M ≤ 6)
  ∧ (h.C ≤ 4)
  ∧ (h.dr < h.R)
  ∧ (h.dm < h.M)
  ∧ (h.F ≤ 16)
  ∧ (h.S ≤ 8)
  ∧ (∀ r, r < 4 → h.door r < 2 ^ h.R ∧ (h.R ≤ r → h.door r = 0) ∧ (h.door r).testBit r = false)
  ∧ (∀ r q, r < 4 → q < 4 → (h.door r).testBit q = (h.door q).testBit r)
  ∧ (∀ c, c < h.C → h.kind c < 6 ∧ h.fig c < 10 ∧ h.tie c < 4 ∧ h.skill c < 10)
  ∧ (∀ c, c < h.C → ∀ m, m < h.M → h.place c m < h.R)
  ∧ (∀ k, k < 3 → h.chance k < 100)
  ∧ (∀ i, i < h.F → h.fc i < h.C ∧ h.fm i < h.M ∧ h.fr i < h.R ∧ h.fi i < 2)
  ∧ (∀ i, i < h.S → h.sp i < h.C ∧ h.sc i < h.C ∧ h.sm i < h.M ∧ h.sr i < h.R)
theorem hv_ok.R {h : hv} (x : hv_ok h) : 2 ≤ h.R ∧ h.R ≤ 4 := x.1
theorem hv_ok.M {h : hv} (x : hv_ok h) : 2 ≤ h.M ∧ h.M ≤ 6 := x.2.1
theorem hv_ok.C {h : hv} (x : hv_ok h) : h.C ≤ 4 := x.2.2.1
theorem hv_ok.dr {h : hv} (x : hv_ok h) : h.dr < h.R := x.2.2.2.1
theorem hv_ok.dm {h : hv} (x : hv_ok h) : h.dm < h.M := x.2.2.2.2.1
theorem hv_ok.F {h : hv} (x : hv_ok h) : h.F ≤ 16 := x.2.2.2.2.2.1
theorem hv_ok.S {h : hv} (x : hv_ok h) : h.S ≤ 8 := x.2.2.2.2.2.2.1
theorem hv_ok.door {h : hv} (x : hv_ok h) : ∀ r, r < 4 → h.door r < 2 ^ h.R ∧ (h.R ≤ r → h.door r = 0) ∧ (h.door r).testBit r = false := x.2.2.2.2.2.2.2.1
theorem hv_ok.sym {h : hv} (x : hv_ok h) : ∀ r q, r < 4 → q < 4 → (h.door r).testBit q = (h.door q).testBit r := x.2.2.2.2.2.2.2.2.1
theorem hv_ok.kind {h : hv} (x : hv_ok h) : ∀ c, c < h.C → h.kind c < 6 ∧ h.fig c < 10 ∧ h.tie c < 4 ∧ h.skill c < 10 := x.2.2.2.2.2.2.2.2.2.1
theorem hv_ok.place {h : hv} (x : hv_ok h) : ∀ c, c < h.C → ∀ m, m < h.M → h.place c m < h.R := x.2.2.2.2.2.2.2.2.2.2.1
theorem hv_ok.chance {h : hv} (x : hv_ok h) : ∀ k, k < 3 → h.chance k < 100 := x.2.2.2.2.2.2.2.2.2.2.2.1
theorem hv_ok.fact {h : hv} (x : hv_ok h) : ∀ i, i < h.F → h.fc i < h.C ∧ h.fm i < h.M ∧ h.fr i < h.R ∧ h.fi i < 2 := x.2.2.2.2.2.2.2.2.2.2.2.2.1
theorem hv_ok.say {h : hv} (x : hv_ok h) : ∀ i, i < h.S → h.sp i < h.C ∧ h.sc i < h.C ∧ h.sm i < h.M ∧ h.sr i < h.R := x.2.2.2.2.2.2.2.2.2.2.2.2.2
theorem hv_ok.mk {h : hv} (fR : 2 ≤ h.R ∧ h.R ≤ 4) (fM : 2 ≤ h.M ∧ h.M ≤ 6) (fC : h.C ≤ 4) (fdr : h.dr < h.R) (fdm : h.dm < h.M) (fF : h.F ≤ 16) (fS : h.S ≤ 8) (fdoor : ∀ r, r < 4 → h.door r < 2 ^ h.R ∧ (h.R ≤ r → h.door r = 0) ∧ (h.door r).testBit r = false) (fsym : ∀ r q, r < 4 → q < 4 → (h.door r).testBit q = (h.door q).testBit r) (fkind : ∀ c, c < h.C → h.kind c < 6 ∧ h.fig c < 10 ∧ h.tie c < 4 ∧ h.skill c < 10) (fplace : ∀ c, c < h.C → ∀ m, m < h.M → h.place c m < h.R) (fchance : ∀ k, k < 3 → h.chance k < 100) (ffact : ∀ i, i < h.F → h.fc i < h.C ∧ h.fm i < h.M ∧ h.fr i < h.R ∧ h.fi i < 2) (fsay : ∀ i, i < h.S → h.sp i < h.C ∧ h.sc i < h.C ∧ h.sm i < h.M ∧ h.sr i < h.R) : hv_ok h := ⟨fR, fM, fC, fdr, fdm, fF, fS, fdoor, fsym, fkind, fplace, fchance, ffact, fsay⟩
/-- a FACT or a SAYING in one number -/
def hv_mark (c m r x : Nat) : Nat := c * 512 + m * 64 + r * 8 + x
/-- a House of the class, its cells from b on, holds h -/
def hv_dev (b : Nat) (h : hv) (σ : am_St) : Prop :=
  (σ.1 b 0 = hI h.R)
  ∧ (σ.1 b 1 = hI h.M)
  ∧ (σ.1 b 2 = hI h.C)
  ∧ (σ.1 b 3 = hI h.dr)
  ∧ (σ.1 b 4 = hI h.dm)
  ∧ (σ.1 b 5 = hI h.F)
  ∧ (σ.1 b 6 = hI h.S)
  ∧ (∀ r, r < 4 → σ.1 (b + 1) r = hI (h.door r))
  ∧ (∀ c, c < h.C → σ.1 (b + 2) c = hI (h.kind c))
  ∧ (∀ c, c < h.C → σ.1 (b + 3) c = hI (h.fig c))
  ∧ (∀ c, c < h.C → σ.1 (b + 4) c = hI (h.tie c))
  ∧ (∀ c, c < h.C → σ.1 (b + 5) c = hI (h.skill c))
  ∧ (∀ c, c < h.C → ∀ m, m < h.M → σ.1 (b + 6) (c * 6 + m) = hI (h.place c m))
  ∧ (∀ k, k < 3 → σ.1 (b + 7) k = hI (h.chance k))
  ∧ (∀ i, i < h.F → σ.1 (b + 8) i = hI (hv_mark (h.fc i) (h.fm i) (h.fr i) (h.fi i)))
  ∧ (∀ i, i < h.S → σ.1 (b + 9) i = hI (hv_mark (h.sc i) (h.sm i) (h.sr i) (h.sp i)))
theorem hv_dev.R {b : Nat} {h : hv} {σ : am_St} (x : hv_dev b h σ) : σ.1 b 0 = hI h.R := x.1
theorem hv_dev.M {b : Nat} {h : hv} {σ : am_St} (x : hv_dev b h σ) : σ.1 b 1 = hI h.M := x.2.1
theorem hv_dev.C {b : Nat} {h : hv} {σ : am_St} (x : hv_dev b h σ) : σ.1 b 2 = hI h.C := x.2.2.1
theorem hv_dev.dr {b : Nat} {h : hv} {σ : am_St} (x : hv_dev b h σ) : σ.1 b 3 = hI h.dr := x.2.2.2.1
theorem hv_dev.dm {b : Nat} {h : hv} {σ : am_St} (x : hv_dev b h σ) : σ.1 b 4 = hI h.dm := x.2.2.2.2.1
theorem hv_dev.F {b : Nat} {h : hv} {σ : am_St} (x : hv_dev b h σ) : σ.1 b 5 = hI h.F := x.2.2.2.2.2.1
theorem hv_dev.S {b : Nat} {h : hv} {σ : am_St} (x : hv_dev b h σ) : σ.1 b 6 = hI h.S := x.2.2.2.2.2.2.1
theorem hv_dev.door {b : Nat} {h : hv} {σ : am_St} (x : hv_dev b h σ) : ∀ r, r < 4 → σ.1 (b + 1) r = hI (h.door r) := x.2.2.2.2.2.2.2.1
theorem hv_dev.kind {b : Nat} {h : hv} {σ : am_St} (x : hv_dev b h σ) : ∀ c, c < h.C → σ.1 (b + 2) c = hI (h.kind c) := x.2.2.2.2.2.2.2.2.1
theorem hv_dev.fig {b : Nat} {h : hv} {σ : am_St} (x : hv_dev b h σ) : ∀ c, c < h.C → σ.1 (b + 3) c = hI (h.fig c) := x.2.2.2.2.2.2.2.2.2.1
theorem hv_dev.tie {b : Nat} {h : hv} {σ : am_St} (x : hv_dev b h σ) : ∀ c, c < h.C → σ.1 (b + 4) c = hI (h.tie c) := x.2.2.2.2.2.2.2.2.2.2.1
theorem hv_dev.skill {b : Nat} {h : hv} {σ : am_St} (x : hv_dev b h σ) : ∀ c, c < h.C → σ.1 (b + 5) c = hI (h.skill c) := x.2.2.2.2.2.2.2.2.2.2.2.1
theorem hv_dev.place {b : Nat} {h : hv} {σ : am_St} (x : hv_dev b h σ) : ∀ c, c < h.C → ∀ m, m < h.M → σ.1 (b + 6) (c * 6 + m) = hI (h.place c m) := x.2.2.2.2.2.2.2.2.2.2.2.2.1
theorem hv_dev.chance {b : Nat} {h : hv} {σ : am_St} (x : hv_dev b h σ) : ∀ k, k < 3 → σ.1 (b + 7) k = hI (h.chance k) := x.2.2.2.2.2.2.2.2.2.2.2.2.2.1
theorem hv_dev.fact {b : Nat} {h : hv} {σ : am_St} (x : hv_dev b h σ) : ∀ i, i < h.F → σ.1 (b + 8) i = hI (hv_mark (h.fc i) (h.fm i) (h.fr i) (h.fi i)) := x.2.2.2.2.2.2.2.2.2.2.2.2.2.2.1
theorem hv_dev.say {b : Nat} {h : hv} {σ : am_St} (x : hv_dev b h σ) : ∀ i, i < h.S → σ.1 (b + 9) i = hI (hv_mark (h.sc i) (h.sm i) (h.sr i) (h.sp i)) := x.2.2.2.2.2.2.2.2.2.2.2.2.2.2.2
theorem hv_dev.mk {b : Nat} {h : hv} {σ : am_St} (fR : σ.1 b 0 = hI h.R) (fM : σ.1 b 1 = hI h.M) (fC : σ.1 b 2 = hI h.C) (fdr : σ.1 b 3 = hI h.dr) (fdm : σ.1 b 4 = hI h.dm) (fF : σ.1 b 5 = hI h.F) (fS : σ.1 b 6 = hI h.S) (fdoor : ∀ r, r < 4 → σ.1 (b + 1) r = hI (h.door r)) (fkind : ∀ c, c < h.C → σ.1 (b + 2) c = hI (h.kind c)) (ffig : ∀ c, c < h.C → σ.1 (b + 3) c = hI (h.fig c)) (ftie : ∀ c, c < h.C → σ.1 (b + 4) c = hI (h.tie c)) (fskill : ∀ c, c < h.C → σ.1 (b + 5) c = hI (h.skill c)) (fplace : ∀ c, c < h.C → ∀ m, m < h.M → σ.1 (b + 6) (c * 6 + m) = hI (h.place c m)) (fchance : ∀ k, k < 3 → σ.1 (b + 7) k = hI (h.chance k)) (ffact : ∀ i, i < h.F → σ.1 (b + 8) i = hI (hv_mark (h.fc i) (h.fm i) (h.fr i) (h.fi i))) (fsay : ∀ i, i < h.S → σ.1 (b + 9) i = hI (hv_mark (h.sc i) (h.sm i) (h.sr i) (h.sp i))) : hv_dev b h σ := ⟨fR, fM, fC, fdr, fdm, fF, fS, fdoor, fkind, ffig, ftie, fskill, fplace, fchance, ffact, fsay⟩
/-- the model holds h -/
def hv_mod (h : hv) (σ : am_St) : Prop :=
  (σ.1 66 0 = hI h.R)
  ∧ (σ.1 66 1 = hI h.M)
  ∧ (σ.1 66 2 = hI h.C)
  ∧ (σ.1 66 3 = hI h.F)
  ∧ (σ.1 66 4 = hI h.S)
  ∧ (σ.1 66 5 = hI h.dr)
  ∧ (σ.1 66 6 = hI h.dm)
  ∧ (∀ r, r < 4 → σ.1 67 r = hI (h.door r))
  ∧ (∀ c, c < h.C → σ.1 68 c = hI (h.kind c))
  ∧ (∀ c, c < h.C → σ.1 69 c = hI (h.fig c))
  ∧ (∀ c, c < h.C → σ.1 70 c = hI (h.tie c))
  ∧ (∀ c, c < h.C → σ.1 71 c = hI (h.skill c))
  ∧ (∀ c, c < h.C → ∀ m, m < h.M → σ.1 72 (6 * c + m) = hI (h.place c m))
  ∧ (∀ k, k < 3 → σ.1 77 k = hI (h.chance k))
  ∧ (∀ i, i < h.F → σ.1 73 i = hI (h.fc i))
  ∧ (∀ i, i < h.F → σ.1 74 i = hI (h.fm i))
  ∧ (∀ i, i < h.F → σ.1 75 i = hI (h.fr i))
  ∧ (∀ i, i < h.F → σ.1 76 i = hI (h.fi i))
  ∧ (∀ i, i < h.S → σ.1 78 i = hI (h.sp i))
  ∧ (∀ i, i < h.S → σ.1 79 i = hI (h.sc i))
  ∧ (∀ i, i < h.S → σ.1 80 i = hI (h.sm i))
  ∧ (∀ i, i < h.S → σ.1 81 i = hI (h.sr i))
theorem hv_mod.R {h : hv} {σ : am_St} (x : hv_mod h σ) : σ.1 66 0 = hI h.R := x.1
theorem hv_mod.M {h : hv} {σ : am_St} (x : hv_mod h σ) : σ.1 66 1 = hI h.M := x.2.1
theorem hv_mod.C {h : hv} {σ : am_St} (x : hv_mod h σ) : σ.1 66 2 = hI h.C := x.2.2.1
theorem hv_mod.F {h : hv} {σ : am_St} (x : hv_mod h σ) : σ.1 66 3 = hI h.F := x.2.2.2.1
theorem hv_mod.S {h : hv} {σ : am_St} (x : hv_mod h σ) : σ.1 66 4 = hI h.S := x.2.2.2.2.1
theorem hv_mod.dr {h : hv} {σ : am_St} (x : hv_mod h σ) : σ.1 66 5 = hI h.dr := x.2.2.2.2.2.1
theorem hv_mod.dm {h : hv} {σ : am_St} (x : hv_mod h σ) : σ.1 66 6 = hI h.dm := x.2.2.2.2.2.2.1
theorem hv_mod.door {h : hv} {σ : am_St} (x : hv_mod h σ) : ∀ r, r < 4 → σ.1 67 r = hI (h.door r) := x.2.2.2.2.2.2.2.1
theorem hv_mod.kind {h : hv} {σ : am_St} (x : hv_mod h σ) : ∀ c, c < h.C → σ.1 68 c = hI (h.kind c) := x.2.2.2.2.2.2.2.2.1
theorem hv_mod.fig {h : hv} {σ : am_St} (x : hv_mod h σ) : ∀ c, c < h.C → σ.1 69 c = hI (h.fig c) := x.2.2.2.2.2.2.2.2.2.1
theorem hv_mod.tie {h : hv} {σ : am_St} (x : hv_mod h σ) : ∀ c, c < h.C → σ.1 70 c = hI (h.tie c) := x.2.2.2.2.2.2.2.2.2.2.1
theorem hv_mod.skill {h : hv} {σ : am_St} (x : hv_mod h σ) : ∀ c, c < h.C → σ.1 71 c = hI (h.skill c) := x.2.2.2.2.2.2.2.2.2.2.2.1
theorem hv_mod.place {h : hv} {σ : am_St} (x : hv_mod h σ) : ∀ c, c < h.C → ∀ m, m < h.M → σ.1 72 (6 * c + m) = hI (h.place c m) := x.2.2.2.2.2.2.2.2.2.2.2.2.1
theorem hv_mod.chance {h : hv} {σ : am_St} (x : hv_mod h σ) : ∀ k, k < 3 → σ.1 77 k = hI (h.chance k) := x.2.2.2.2.2.2.2.2.2.2.2.2.2.1
theorem hv_mod.fc {h : hv} {σ : am_St} (x : hv_mod h σ) : ∀ i, i < h.F → σ.1 73 i = hI (h.fc i) := x.2.2.2.2.2.2.2.2.2.2.2.2.2.2.1
theorem hv_mod.fm {h : hv} {σ : am_St} (x : hv_mod h σ) : ∀ i, i < h.F → σ.1 74 i = hI (h.fm i) := x.2.2.2.2.2.2.2.2.2.2.2.2.2.2.2.1
theorem hv_mod.fr {h : hv} {σ : am_St} (x : hv_mod h σ) : ∀ i, i < h.F → σ.1 75 i = hI (h.fr i) := x.2.2.2.2.2.2.2.2.2.2.2.2.2.2.2.2.1
theorem hv_mod.fi {h : hv} {σ : am_St} (x : hv_mod h σ) : ∀ i, i < h.F → σ.1 76 i = hI (h.fi i) := x.2.2.2.2.2.2.2.2.2.2.2.2.2.2.2.2.2.1
theorem hv_mod.sp {h : hv} {σ : am_St} (x : hv_mod h σ) : ∀ i, i < h.S → σ.1 78 i = hI (h.sp i) := x.2.2.2.2.2.2.2.2.2.2.2.2.2.2.2.2.2.2.1
theorem hv_mod.sc {h : hv} {σ : am_St} (x : hv_mod h σ) : ∀ i, i < h.S → σ.1 79 i = hI (h.sc i) := x.2.2.2.2.2.2.2.2.2.2.2.2.2.2.2.2.2.2.2.1
theorem hv_mod.sm {h : hv} {σ : am_St} (x : hv_mod h σ) : ∀ i, i < h.S → σ.1 80 i = hI (h.sm i) := x.2.2.2.2.2.2.2.2.2.2.2.2.2.2.2.2.2.2.2.2.1
theorem hv_mod.sr {h : hv} {σ : am_St} (x : hv_mod h σ) : ∀ i, i < h.S → σ.1 81 i = hI (h.sr i) := x.2.2.2.2.2.2.2.2.2.2.2.2.2.2.2.2.2.2.2.2.2
theorem hv_mod.mk {h : hv} {σ : am_St} (fR : σ.1 66 0 = hI h.R) (fM : σ.1 66 1 = hI h.M) (fC : σ.1 66 2 = hI h.C) (fF : σ.1 66 3 = hI h.F) (fS : σ.1 66 4 = hI h.S) (fdr : σ.1 66 5 = hI h.dr) (fdm : σ.1 66 6 = hI h.dm) (fdoor : ∀ r, r < 4 → σ.1 67 r = hI (h.door r)) (fkind : ∀ c, c < h.C → σ.1 68 c = hI (h.kind c)) (ffig : ∀ c, c < h.C → σ.1 69 c = hI (h.fig c)) (ftie : ∀ c, c < h.C → σ.1 70 c = hI (h.tie c)) (fskill : ∀ c, c < h.C → σ.1 71 c = hI (h.skill c)) (fplace : ∀ c, c < h.C → ∀ m, m < h.M → σ.1 72 (6 * c + m) = hI (h.place c m)) (fchance : ∀ k, k < 3 → σ.1 77 k = hI (h.chance k)) (ffc : ∀ i, i < h.F → σ.1 73 i = hI (h.fc i)) (ffm : ∀ i, i < h.F → σ.1 74 i = hI (h.fm i)) (ffr : ∀ i, i < h.F → σ.1 75 i = hI (h.fr i)) (ffi : ∀ i, i < h.F → σ.1 76 i = hI (h.fi i)) (fsp : ∀ i, i < h.S → σ.1 78 i = hI (h.sp i)) (fsc : ∀ i, i < h.S → σ.1 79 i = hI (h.sc i)) (fsm : ∀ i, i < h.S → σ.1 80 i = hI (h.sm i)) (fsr : ∀ i, i < h.S → σ.1 81 i = hI (h.sr i)) : hv_mod h σ := ⟨fR, fM, fC, fF, fS, fdr, fdm, fdoor, fkind, ffig, ftie, fskill, fplace, fchance, ffc, ffm, ffr, ffi, fsp, fsc, fsm, fsr⟩
/-- the model's rows `id` of 154 numbers (kept 90, imaged 91) hold h -/
def hv_img (id : Nat) (h : hv) (σ : am_St) : Prop :=
  (σ.1 id 0 = hI h.R)
  ∧ (σ.1 id 1 = hI h.M)
  ∧ (σ.1 id 2 = hI h.C)
  ∧ (σ.1 id 3 = hI h.F)
  ∧ (σ.1 id 4 = hI h.S)
  ∧ (σ.1 id 5 = hI h.dr)
  ∧ (σ.1 id 6 = hI h.dm)
  ∧ (∀ r, r < 4 → σ.1 id (7 + 5 * r) = hI (h.door r))
  ∧ (∀ c, c < h.C → σ.1 id (8 + 5 * c) = hI (h.kind c))
  ∧ (∀ c, c < h.C → σ.1 id (9 + 5 * c) = hI (h.fig c))
  ∧ (∀ c, c < h.C → σ.1 id (10 + 5 * c) = hI (h.tie c))
  ∧ (∀ c, c < h.C → σ.1 id (11 + 5 * c) = hI (h.skill c))
  ∧ (∀ c, c < h.C → ∀ m, m < h.M → σ.1 id (27 + (6 * c + m)) = hI (h.place c m))
  ∧ (∀ k, k < 3 → σ.1 id (51 + k) = hI (h.chance k))
  ∧ (∀ i, i < h.F → σ.1 id (54 + 4 * i) = hI (h.fc i))
  ∧ (∀ i, i < h.F → σ.1 id (55 + 4 * i) = hI (h.fm i))
  ∧ (∀ i, i < h.F → σ.1 id (56 + 4 * i) = hI (h.fr i))
  ∧ (∀ i, i < h.F → σ.1 id (57 + 4 * i) = hI (h.fi i))
  ∧ (∀ i, i < h.S → σ.1 id (118 + 4 * i) = hI (h.sp i))
  ∧ (∀ i, i < h.S → σ.1 id (119 + 4 * i) = hI (h.sc i))
  ∧ (∀ i, i < h.S → σ.1 id (120 + 4 * i) = hI (h.sm i))
  ∧ (∀ i, i < h.S → σ.1 id (121 + 4 * i) = hI (h.sr i))
theorem hv_img.R {id : Nat} {h : hv} {σ : am_St} (x : hv_img id h σ) : σ.1 id 0 = hI h.R := x.1
theorem hv_img.M {id : Nat} {h : hv} {σ : am_St} (x : hv_img id h σ) : σ.1 id 1 = hI h.M := x.2.1
theorem hv_img.C {id : Nat} {h : hv} {σ : am_St} (x : hv_img id h σ) : σ.1 id 2 = hI h.C := x.2.2.1
theorem hv_img.F {id : Nat} {h : hv} {σ : am_St} (x : hv_img id h σ) : σ.1 id 3 = hI h.F := x.2.2.2.1
theorem hv_img.S {id : Nat} {h : hv} {σ : am_St} (x : hv_img id h σ) : σ.1 id 4 = hI h.S := x.2.2.2.2.1
theorem hv_img.dr {id : Nat} {h : hv} {σ : am_St} (x : hv_img id h σ) : σ.1 id 5 = hI h.dr := x.2.2.2.2.2.1
theorem hv_img.dm {id : Nat} {h : hv} {σ : am_St} (x : hv_img id h σ) : σ.1 id 6 = hI h.dm := x.2.2.2.2.2.2.1
theorem hv_img.door {id : Nat} {h : hv} {σ : am_St} (x : hv_img id h σ) : ∀ r, r < 4 → σ.1 id (7 + 5 * r) = hI (h.door r) := x.2.2.2.2.2.2.2.1
theorem hv_img.kind {id : Nat} {h : hv} {σ : am_St} (x : hv_img id h σ) : ∀ c, c < h.C → σ.1 id (8 + 5 * c) = hI (h.kind c) := x.2.2.2.2.2.2.2.2.1
theorem hv_img.fig {id : Nat} {h : hv} {σ : am_St} (x : hv_img id h σ) : ∀ c, c < h.C → σ.1 id (9 + 5 * c) = hI (h.fig c) := x.2.2.2.2.2.2.2.2.2.1
theorem hv_img.tie {id : Nat} {h : hv} {σ : am_St} (x : hv_img id h σ) : ∀ c, c < h.C → σ.1 id (10 + 5 * c) = hI (h.tie c) := x.2.2.2.2.2.2.2.2.2.2.1
theorem hv_img.skill {id : Nat} {h : hv} {σ : am_St} (x : hv_img id h σ) : ∀ c, c < h.C → σ.1 id (11 + 5 * c) = hI (h.skill c) := x.2.2.2.2.2.2.2.2.2.2.2.1
theorem hv_img.place {id : Nat} {h : hv} {σ : am_St} (x : hv_img id h σ) : ∀ c, c < h.C → ∀ m, m < h.M → σ.1 id (27 + (6 * c + m)) = hI (h.place c m) := x.2.2.2.2.2.2.2.2.2.2.2.2.1
theorem hv_img.chance {id : Nat} {h : hv} {σ : am_St} (x : hv_img id h σ) : ∀ k, k < 3 → σ.1 id (51 + k) = hI (h.chance k) := x.2.2.2.2.2.2.2.2.2.2.2.2.2.1
theorem hv_img.fc {id : Nat} {h : hv} {σ : am_St} (x : hv_img id h σ) : ∀ i, i < h.F → σ.1 id (54 + 4 * i) = hI (h.fc i) := x.2.2.2.2.2.2.2.2.2.2.2.2.2.2.1
theorem hv_img.fm {id : Nat} {h : hv} {σ : am_St} (x : hv_img id h σ) : ∀ i, i < h.F → σ.1 id (55 + 4 * i) = hI (h.fm i) := x.2.2.2.2.2.2.2.2.2.2.2.2.2.2.2.1
theorem hv_img.fr {id : Nat} {h : hv} {σ : am_St} (x : hv_img id h σ) : ∀ i, i < h.F → σ.1 id (56 + 4 * i) = hI (h.fr i) := x.2.2.2.2.2.2.2.2.2.2.2.2.2.2.2.2.1
theorem hv_img.fi {id : Nat} {h : hv} {σ : am_St} (x : hv_img id h σ) : ∀ i, i < h.F → σ.1 id (57 + 4 * i) = hI (h.fi i) := x.2.2.2.2.2.2.2.2.2.2.2.2.2.2.2.2.2.1
theorem hv_img.sp {id : Nat} {h : hv} {σ : am_St} (x : hv_img id h σ) : ∀ i, i < h.S → σ.1 id (118 + 4 * i) = hI (h.sp i) := x.2.2.2.2.2.2.2.2.2.2.2.2.2.2.2.2.2.2.1
theorem hv_img.sc {id : Nat} {h : hv} {σ : am_St} (x : hv_img id h σ) : ∀ i, i < h.S → σ.1 id (119 + 4 * i) = hI (h.sc i) := x.2.2.2.2.2.2.2.2.2.2.2.2.2.2.2.2.2.2.2.1
theorem hv_img.sm {id : Nat} {h : hv} {σ : am_St} (x : hv_img id h σ) : ∀ i, i < h.S → σ.1 id (120 + 4 * i) = hI (h.sm i) := x.2.2.2.2.2.2.2.2.2.2.2.2.2.2.2.2.2.2.2.2.1
theorem hv_img.sr {id : Nat} {h : hv} {σ : am_St} (x : hv_img id h σ) : ∀ i, i < h.S → σ.1 id (121 + 4 * i) = hI (h.sr i) := x.2.2.2.2.2.2.2.2.2.2.2.2.2.2.2.2.2.2.2.2.2
theorem hv_img.mk {id : Nat} {h : hv} {σ : am_St} (fR : σ.1 id 0 = hI h.R) (fM : σ.1 id 1 = hI h.M) (fC : σ.1 id 2 = hI h.C) (fF : σ.1 id 3 = hI h.F) (fS : σ.1 id 4 = hI h.S) (fdr : σ.1 id 5 = hI h.dr) (fdm : σ.1 id 6 = hI h.dm) (fdoor : ∀ r, r < 4 → σ.1 id (7 + 5 * r) = hI (h.door r)) (fkind : ∀ c, c < h.C → σ.1 id (8 + 5 * c) = hI (h.kind c)) (ffig : ∀ c, c < h.C → σ.1 id (9 + 5 * c) = hI (h.fig c)) (ftie : ∀ c, c < h.C → σ.1 id (10 + 5 * c) = hI (h.tie c)) (fskill : ∀ c, c < h.C → σ.1 id (11 + 5 * c) = hI (h.skill c)) (fplace : ∀ c, c < h.C → ∀ m, m < h.M → σ.1 id (27 + (6 * c + m)) = hI (h.place c m)) (fchance : ∀ k, k < 3 → σ.1 id (51 + k) = hI (h.chance k)) (ffc : ∀ i, i < h.F → σ.1 id (54 + 4 * i) = hI (h.fc i)) (ffm : ∀ i, i < h.F → σ.1 id (55 + 4 * i) = hI (h.fm i)) (ffr : ∀ i, i < h.F → σ.1 id (56 + 4 * i) = hI (h.fr i)) (ffi : ∀ i, i < h.F → σ.1 id (57 + 4 * i) = hI (h.fi i)) (fsp : ∀ i, i < h.S → σ.1 id (118 + 4 * i) = hI (h.sp i)) (fsc : ∀ i, i < h.S → σ.1 id (119 + 4 * i) = hI (h.sc i)) (fsm : ∀ i, i < h.S → σ.1 id (120 + 4 * i) = hI (h.sm i)) (fsr : ∀ i, i < h.S → σ.1 id (121 + 4 * i) = hI (h.sr i)) : hv_img id h σ := ⟨fR, fM, fC, fF, fS, fdr, fdm, fdoor, fkind, ffig, ftie, fskill, fplace, fchance, ffc, ffm, ffr, ffi, fsp, fsc, fsm, fsr⟩
/-! the paths, as the document counts them -/
/-- can one stand in room r at minute m, by the facts of the child c -/
def hv_may (h : hv) (c m r : Nat) : Bool := (List.range h.F).all fun i => !(h.fc i == c && h.fm i == m) || (if h.fi i = 1 then h.fr i == r else h.fr i != r)
/-- is a step from q to r open -/
def hv_step (h : hv) (r q : Nat) : Bool := r == q || (h.door r).testBit q
/-- how many ways up to minute m end in room r, where `may m r` lets one stand -/
def hv_cnt (h : hv) (may : Nat → Nat → Bool) : Nat → Nat → Nat
  | 0, r => if may 0 r then 1 else 0
  | m + 1, r => if may (m + 1) r then ((List.range h.R).map fun q => if hv_step h r q then hv_cnt h may m q else 0).sum else 0
/-- how many ways in all -/
def hv_all (h : hv) (may : Nat → Nat → Bool) : Nat := ((List.range h.R).map fun r => hv_cnt h may (h.M - 1) r).sum
/-- every child has a way -/
def hv_some (h : hv) : Prop := ∀ c, c < h.C → 0 < hv_all h (hv_may h c)
/-- what stands between two calls -/
def hv_inv (σ : am_St) : Prop :=
  (∃ h, hv_ok h ∧ hv_some h ∧ hv_dev 1 h σ ∧ hv_mod h σ)
  ∧ ((σ.1 0 2 = 0 ∧ σ.1 66 38 = 0) ∨ (σ.1 0 2 = 1 ∧ σ.1 66 38 = 1 ∧ ∃ h, hv_ok h ∧ hv_some h ∧ hv_dev 18 h σ ∧ hv_img 91 h σ))
  ∧ (∃ n, n ≤ 96 ∧ σ.1 35 1 = hI n ∧ σ.1 66 28 = hI n ∧ ∀ i, i < n → ∃ k, k < 256 ∧ σ.1 36 i = hI k ∧ σ.1 86 i = hI k)
  ∧ (∃ n, n ≤ 12 ∧ σ.1 0 7 = hI n ∧ σ.1 66 46 = hI n ∧ ∀ i, i < n → ∃ k, k < 10 ∧ σ.1 64 i = hI k ∧ σ.1 94 i = hI k)
  ∧ (∀ i, i < 7 → σ.1 65 i = σ.1 82 i)
/-- the first house -/
def hv_h0 : hv := hv.mk 3 4 0 0 0 0 0 (fun _ => 0) (fun _ => 0) (fun _ => 0) (fun _ => 0) (fun _ => 0) (fun _ _ => 0) (fun k => if k = 0 then 2 else 1) (fun _ => 0) (fun _ => 0) (fun _ => 0) (fun _ => 0) (fun _ => 0) (fun _ => 0) (fun _ => 0) (fun _ => 0)
theorem hv_h0_ok : hv_ok hv_h0 := hv_ok.mk
  (fR := by decide)
  (fM := by decide)
  (fC := by decide)
  (fdr := by decide)
  (fdm := by decide)
  (fF := by decide)
  (fS := by decide)
  (fdoor := fun r _ => ⟨by show 0 < 2 ^ 3; decide, fun _ => rfl, Nat.zero_testBit r⟩)
  (fsym := fun r q _ _ => by show Nat.testBit 0 q = Nat.testBit 0 r; rw [Nat.zero_testBit, Nat.zero_testBit])
  (fkind := fun c h => absurd h (Nat.not_lt_zero c))
  (fplace := fun c h => absurd h (Nat.not_lt_zero c))
  (fchance := fun k _ => by show (if k = 0 then 2 else 1) < 100; split <;> decide)
  (ffact := fun i h => absurd h (Nat.not_lt_zero i))
  (fsay := fun i h => absurd h (Nat.not_lt_zero i))
theorem hv_h0_dev : hv_dev 1 hv_h0 am_s0 := hv_dev.mk
  (fR := rfl)
  (fM := rfl)
  (fC := rfl)
  (fdr := rfl)
  (fdm := rfl)
  (fF := rfl)
  (fS := rfl)
  (fdoor := fun _ _ => rfl)
  (fkind := fun c h => absurd h (Nat.not_lt_zero c))
  (ffig := fun c h => absurd h (Nat.not_lt_zero c))
  (ftie := fun c h => absurd h (Nat.not_lt_zero c))
  (fskill := fun c h => absurd h (Nat.not_lt_zero c))
  (fplace := fun c h => absurd h (Nat.not_lt_zero c))
  (fchance := fun k h => by
    have : k = 0 ∨ k = 1 ∨ k = 2 := by omega
    rcases this with rfl | rfl | rfl <;> rfl)
  (ffact := fun i h => absurd h (Nat.not_lt_zero i))
  (fsay := fun i h => absurd h (Nat.not_lt_zero i))
theorem hv_h0_mod : hv_mod hv_h0 am_s0 := hv_mod.mk
  (fR := rfl)
  (fM := rfl)
  (fC := rfl)
  (fF := rfl)
  (fS := rfl)
  (fdr := rfl)
  (fdm := rfl)
  (fdoor := fun _ _ => rfl)
  (fkind := fun c h => absurd h (Nat.not_lt_zero c))
  (ffig := fun c h => absurd h (Nat.not_lt_zero c))
  (ftie := fun c h => absurd h (Nat.not_lt_zero c))
  (fskill := fun c h => absurd h (Nat.not_lt_zero c))
  (fplace := fun c h => absurd h (Nat.not_lt_zero c))
  (fchance := fun k h => by
    have : k = 0 ∨ k = 1 ∨ k = 2 := by omega
    rcases this with rfl | rfl | rfl <;> rfl)
  (ffc := fun i h => absurd h (Nat.not_lt_zero i))
  (ffm := fun i h => absurd h (Nat.not_lt_zero i))
  (ffr := fun i h => absurd h (Nat.not_lt_zero i))
  (ffi := fun i h => absurd h (Nat.not_lt_zero i))
  (fsp := fun i h => absurd h (Nat.not_lt_zero i))
  (fsc := fun i h => absurd h (Nat.not_lt_zero i))
  (fsm := fun i h => absurd h (Nat.not_lt_zero i))
  (fsr := fun i h => absurd h (Nat.not_lt_zero i))
theorem hv_inv0 : hv_inv am_s0 :=
  ⟨⟨hv_h0, hv_h0_ok, fun c h => absurd h (Nat.not_lt_zero c), hv_h0_dev, hv_h0_mod⟩, Or.inl ⟨rfl, rfl⟩, ⟨0, by decide, rfl, rfl, fun i h => absurd h (Nat.not_lt_zero i)⟩, ⟨0, by decide, rfl, rfl, fun i h => absurd h (Nat.not_lt_zero i)⟩, fun _ _ => rfl⟩
