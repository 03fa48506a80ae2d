/-! PURE: the abstract house, how the class and the model hold it, and the invariant -/
/-- a number in the class's words -/
def hI (n : Nat) : Int32 := Int32.ofNat n
/-- the abstract house: all that the image holds -/
structure hv where
  R : Nat
  M : Nat
  C : Nat
  dr : Nat
  dm : Nat
  F : Nat
  S : Nat
  door : Nat → Nat
  kind : Nat → Nat
  fig : Nat → Nat
  tie : Nat → Nat
  skill : Nat → Nat
  place : Nat → Nat → Nat
  chance : Nat → Nat
  fc : Nat → Nat
  fm : Nat → Nat
  fr : Nat → Nat
  fi : Nat → Nat
  sp : Nat → Nat
  sc : Nat → Nat
  sm : Nat → Nat
  sr : Nat → Nat
/-- the numbers are what the document lets them be -/
structure hv_ok (h : hv) : Prop where
  R : 2 ≤ h.R ∧ h.R ≤ 4
  M : 2 ≤ h.M ∧ h.M ≤ 6
  C : h.C ≤ 4
  dr : h.dr < h.R
  dm : h.dm < h.M
  F : h.F ≤ 16
  S : h.S ≤ 8
  door : ∀ r, r < 4 → h.door r < 2 ^ h.R ∧ (h.R ≤ r → h.door r = 0) ∧ (h.door r).testBit r = false
  sym : ∀ r q, r < 4 → q < 4 → (h.door r).testBit q = (h.door q).testBit r
  kind : ∀ c, c < h.C → h.kind c < 6 ∧ h.fig c < 10 ∧ h.tie c < 4 ∧ h.skill c < 10
  place : ∀ c, c < h.C → ∀ m, m < h.M → h.place c m < h.R
  chance : ∀ k, k < 3 → h.chance k < 100
  fact : ∀ i, i < h.F → h.fc i < h.C ∧ h.fm i < h.M ∧ h.fr i < h.R ∧ h.fi i < 2
  say : ∀ i, i < h.S → h.sp i < h.C ∧ h.sc i < h.C ∧ h.sm i < h.M ∧ h.sr i < h.R
/-- a FACT or a SAYING in one number -/
def hv_mark (c m r x : Nat) : Nat := c * 512 + m * 64 + r * 8 + x
/-- a House of the class, its cells from b on, holds h -/
structure hv_dev (b : Nat) (h : hv) (σ : am_St) : Prop where
  R : σ.1 b 0 = hI h.R
  M : σ.1 b 1 = hI h.M
  C : σ.1 b 2 = hI h.C
  dr : σ.1 b 3 = hI h.dr
  dm : σ.1 b 4 = hI h.dm
  F : σ.1 b 5 = hI h.F
  S : σ.1 b 6 = hI h.S
  door : ∀ r, r < 4 → σ.1 (b + 1) r = hI (h.door r)
  kind : ∀ c, c < h.C → σ.1 (b + 2) c = hI (h.kind c)
  fig : ∀ c, c < h.C → σ.1 (b + 3) c = hI (h.fig c)
  tie : ∀ c, c < h.C → σ.1 (b + 4) c = hI (h.tie c)
  skill : ∀ c, c < h.C → σ.1 (b + 5) c = hI (h.skill c)
  place : ∀ c, c < h.C → ∀ m, m < h.M → σ.1 (b + 6) (c * 6 + m) = hI (h.place c m)
  chance : ∀ k, k < 3 → σ.1 (b + 7) k = hI (h.chance k)
  fact : ∀ i, i < h.F → σ.1 (b + 8) i = hI (hv_mark (h.fc i) (h.fm i) (h.fr i) (h.fi i))
  say : ∀ i, i < h.S → σ.1 (b + 9) i = hI (hv_mark (h.sc i) (h.sm i) (h.sr i) (h.sp i))
/-- the model holds h -/
structure hv_mod (h : hv) (σ : am_St) : Prop where
  R : σ.1 66 0 = hI h.R
  M : σ.1 66 1 = hI h.M
  C : σ.1 66 2 = hI h.C
  F : σ.1 66 3 = hI h.F
  S : σ.1 66 4 = hI h.S
  dr : σ.1 66 5 = hI h.dr
  dm : σ.1 66 6 = hI h.dm
  door : ∀ r, r < 4 → σ.1 67 r = hI (h.door r)
  kind : ∀ c, c < h.C → σ.1 68 c = hI (h.kind c)
  fig : ∀ c, c < h.C → σ.1 69 c = hI (h.fig c)
  tie : ∀ c, c < h.C → σ.1 70 c = hI (h.tie c)
  skill : ∀ c, c < h.C → σ.1 71 c = hI (h.skill c)
  place : ∀ c, c < h.C → ∀ m, m < h.M → σ.1 72 (6 * c + m) = hI (h.place c m)
  chance : ∀ k, k < 3 → σ.1 77 k = hI (h.chance k)
  fc : ∀ i, i < h.F → σ.1 73 i = hI (h.fc i)
  fm : ∀ i, i < h.F → σ.1 74 i = hI (h.fm i)
  fr : ∀ i, i < h.F → σ.1 75 i = hI (h.fr i)
  fi : ∀ i, i < h.F → σ.1 76 i = hI (h.fi i)
  sp : ∀ i, i < h.S → σ.1 78 i = hI (h.sp i)
  sc : ∀ i, i < h.S → σ.1 79 i = hI (h.sc i)
  sm : ∀ i, i < h.S → σ.1 80 i = hI (h.sm i)
  sr : ∀ i, i < h.S → σ.1 81 i = hI (h.sr i)
/-- the model's rows `id` of 154 numbers (kept 90, imaged 91) hold h -/
structure hv_img (id : Nat) (h : hv) (σ : am_St) : Prop where
  R : σ.1 id 0 = hI h.R
  M : σ.1 id 1 = hI h.M
  C : σ.1 id 2 = hI h.C
  F : σ.1 id 3 = hI h.F
  S : σ.1 id 4 = hI h.S
  dr : σ.1 id 5 = hI h.dr
  dm : σ.1 id 6 = hI h.dm
  door : ∀ r, r < 4 → σ.1 id (7 + 5 * r) = hI (h.door r)
  kind : ∀ c, c < h.C → σ.1 id (8 + 5 * c) = hI (h.kind c)
  fig : ∀ c, c < h.C → σ.1 id (9 + 5 * c) = hI (h.fig c)
  tie : ∀ c, c < h.C → σ.1 id (10 + 5 * c) = hI (h.tie c)
  skill : ∀ c, c < h.C → σ.1 id (11 + 5 * c) = hI (h.skill c)
  place : ∀ c, c < h.C → ∀ m, m < h.M → σ.1 id (27 + (6 * c + m)) = hI (h.place c m)
  chance : ∀ k, k < 3 → σ.1 id (51 + k) = hI (h.chance k)
  fc : ∀ i, i < h.F → σ.1 id (54 + 4 * i) = hI (h.fc i)
  fm : ∀ i, i < h.F → σ.1 id (55 + 4 * i) = hI (h.fm i)
  fr : ∀ i, i < h.F → σ.1 id (56 + 4 * i) = hI (h.fr i)
  fi : ∀ i, i < h.F → σ.1 id (57 + 4 * i) = hI (h.fi i)
  sp : ∀ i, i < h.S → σ.1 id (118 + 4 * i) = hI (h.sp i)
  sc : ∀ i, i < h.S → σ.1 id (119 + 4 * i) = hI (h.sc i)
  sm : ∀ i, i < h.S → σ.1 id (120 + 4 * i) = hI (h.sm i)
  sr : ∀ i, i < h.S → σ.1 id (121 + 4 * i) = hI (h.sr i)
/-! the paths, as the document counts them -/
/-- can one stand in room r at minute m, by the facts of the child c -/
def hv_may (h : hv) (c m r : Nat) : Bool := (List.range h.F).all fun i => !(h.fc i == c && h.fm i == m) || (if h.fi i = 1 then h.fr i == r else h.fr i != r)
/-- is a step from q to r open -/
def hv_step (h : hv) (r q : Nat) : Bool := r == q || (h.door r).testBit q
/-- how many ways up to minute m end in room r, where `may m r` lets one stand -/
def hv_cnt (h : hv) (may : Nat → Nat → Bool) : Nat → Nat → Nat
  | 0, r => if may 0 r then 1 else 0
  | m + 1, r => if may (m + 1) r then ((List.range h.R).map fun q => if hv_step h r q then hv_cnt h may m q else 0).sum else 0
/-- how many ways in all -/
def hv_all (h : hv) (may : Nat → Nat → Bool) : Nat := ((List.range h.R).map fun r => hv_cnt h may (h.M - 1) r).sum
/-- every child has a way -/
def hv_some (h : hv) : Prop := ∀ c, c < h.C → 0 < hv_all h (hv_may h c)
/-- what stands between two calls -/
def hv_inv (σ : am_St) : Prop :=
  (∃ h, hv_ok h ∧ hv_some h ∧ hv_dev 1 h σ ∧ hv_mod h σ)
  ∧ ((σ.1 0 2 = 0 ∧ σ.1 66 38 = 0) ∨ (σ.1 0 2 = 1 ∧ σ.1 66 38 = 1 ∧ ∃ h, hv_ok h ∧ hv_some h ∧ hv_dev 18 h σ ∧ hv_img 91 h σ))
  ∧ (∃ n, n ≤ 96 ∧ σ.1 35 1 = hI n ∧ σ.1 66 28 = hI n ∧ ∀ i, i < n → ∃ k, k < 256 ∧ σ.1 36 i = hI k ∧ σ.1 86 i = hI k)
  ∧ (∃ n, n ≤ 12 ∧ σ.1 0 7 = hI n ∧ σ.1 66 46 = hI n ∧ ∀ i, i < n → ∃ k, k < 10 ∧ σ.1 64 i = hI k ∧ σ.1 94 i = hI k)
  ∧ (∀ i, i < 7 → σ.1 65 i = σ.1 82 i)
/-- the first house -/
def hv_h0 : hv := { R := 3, M := 4, C := 0, dr := 0, dm := 0, F := 0, S := 0, door := fun _ => 0, kind := fun _ => 0, fig := fun _ => 0, tie := fun _ => 0, skill := fun _ => 0, place := fun _ _ => 0, chance := fun k => if k = 0 then 2 else 1, fc := fun _ => 0, fm := fun _ => 0, fr := fun _ => 0, fi := fun _ => 0, sp := fun _ => 0, sc := fun _ => 0, sm := fun _ => 0, sr := fun _ => 0 }
theorem hv_h0_ok : hv_ok hv_h0 where
  R := by decide
  M := by decide
  C := by decide
  dr := by decide
  dm := by decide
  F := by decide
  S := by decide
  door := fun r _ => ⟨by show 0 < 2 ^ 3; decide, fun _ => rfl, Nat.zero_testBit r⟩
  sym := fun r q _ _ => by show Nat.testBit 0 q = Nat.testBit 0 r; rw [Nat.zero_testBit, Nat.zero_testBit]
  kind := fun c h => absurd h (Nat.not_lt_zero c)
  place := fun c h => absurd h (Nat.not_lt_zero c)
  chance := fun k _ => by show (if k = 0 then 2 else 1) < 100; split <;> decide
  fact := fun i h => absurd h (Nat.not_lt_zero i)
  say := fun i h => absurd h (Nat.not_lt_zero i)
theorem hv_h0_dev : hv_dev 1 hv_h0 am_s0 where
  R := rfl
  M := rfl
  C := rfl
  dr := rfl
  dm := rfl
  F := rfl
  S := rfl
  door := fun _ _ => rfl
  kind := fun c h => absurd h (Nat.not_lt_zero c)
  fig := fun c h => absurd h (Nat.not_lt_zero c)
  tie := fun c h => absurd h (Nat.not_lt_zero c)
  skill := fun c h => absurd h (Nat.not_lt_zero c)
  place := fun c h => absurd h (Nat.not_lt_zero c)
  chance := fun k h => by
    have : k = 0 ∨ k = 1 ∨ k = 2 := by omega
    rcases this with rfl | rfl | rfl <;> rfl
  fact := fun i h => absurd h (Nat.not_lt_zero i)
  say := fun i h => absurd h (Nat.not_lt_zero i)
theorem hv_h0_mod : hv_mod hv_h0 am_s0 where
  R := rfl
  M := rfl
  C := rfl
  F := rfl
  S := rfl
  dr := rfl
  dm := rfl
  door := fun _ _ => rfl
  kind := fun c h => absurd h (Nat.not_lt_zero c)
  fig := fun c h => absurd h (Nat.not_lt_zero c)
  tie := fun c h => absurd h (Nat.not_lt_zero c)
  skill := fun c h => absurd h (Nat.not_lt_zero c)
  place := fun c h => absurd h (Nat.not_lt_zero c)
  chance := fun k h => by
    have : k = 0 ∨ k = 1 ∨ k = 2 := by omega
    rcases this with rfl | rfl | rfl <;> rfl
  fc := fun i h => absurd h (Nat.not_lt_zero i)
  fm := fun i h => absurd h (Nat.not_lt_zero i)
  fr := fun i h => absurd h (Nat.not_lt_zero i)
  fi := fun i h => absurd h (Nat.not_lt_zero i)
  sp := fun i h => absurd h (Nat.not_lt_zero i)
  sc := fun i h => absurd h (Nat.not_lt_zero i)
  sm := fun i h => absurd h (Nat.not_lt_zero i)
  sr := fun i h => absurd h (Nat.not_lt_zero i)
theorem hv_inv0 : hv_inv am_s0 :=
  ⟨⟨hv_h0, hv_h0_ok, fun c h => absurd h (Nat.not_lt_zero c), hv_h0_dev, hv_h0_mod⟩, Or.inl ⟨rfl, rfl⟩, ⟨0, by decide, rfl, rfl, fun i h => absurd h (Nat.not_lt_zero i)⟩, ⟨0, by decide, rfl, rfl, fun i h => absurd h (Nat.not_lt_zero i)⟩, fun _ _ => rfl⟩
