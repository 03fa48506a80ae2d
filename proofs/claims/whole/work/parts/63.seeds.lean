/-! PURE: seeds -/
def hv_nz (z : Int32) : Int32 := z * 1103515245 + 12345
theorem hv_and31 (z : Int32) : 0 ≤ z &&& 2147483647 := by
  rw [Int32.le_iff_toInt_le]
  show (0 : Int) ≤ (z.toBitVec &&& (2147483647 : Int32).toBitVec).toInt
  rw [BitVec.toInt_eq_msb_cond, BitVec.msb_and, show (2147483647 : Int32).toBitVec.msb = false from by decide, Bool.and_false]
  simp
/-- what is drawn below n with z -/
def hv_dr (z : Int32) (n : Nat) : Nat := (z &&& 2147483647).toNatClampNeg / 65536 % n
theorem hv_dr_lt (z : Int32) {n : Nat} (h : 0 < n) : hv_dr z n < n := Nat.mod_lt _ h
theorem hv_dr_I (z : Int32) {n : Nat} (hn : n < 2 ^ 31) : am_rem ((z &&& 2147483647) / 65536) (hI n) = hI (hv_dr z n) := by
  obtain ⟨k, hk, e⟩ := hI_of (hv_and31 z)
  unfold hv_dr
  rw [e, hI_clamp hk, show (65536 : Int32) = hI 65536 from rfl, hI_div hk (by decide), hI_rem (Nat.lt_of_le_of_lt (Nat.div_le_self _ _) hk) hn]
/-- bits among the last n of 4; the so manyth of them -/
def hv_cb (d : Nat) : Nat → Nat
  | 0 => 0
  | n + 1 => (if d.testBit (4 - (n + 1)) then 1 else 0) + hv_cb d n
theorem hv_cb_0 (d : Nat) : hv_cb d 0 = 0 := by rw [hv_cb]
theorem hv_cb_s (d n : Nat) : hv_cb d (n + 1) = (if d.testBit (4 - (n + 1)) then 1 else 0) + hv_cb d n := by rw [hv_cb]
def hv_nx (d : Nat) : Nat → Nat → Nat
  | 0, _ => 0
  | n + 1, left => if d.testBit (4 - (n + 1)) then (if left ≤ 1 then 4 - (n + 1) else hv_nx d n (left - 1)) else hv_nx d n left
theorem hv_nx_s (d n left : Nat) : hv_nx d (n + 1) left = if d.testBit (4 - (n + 1)) then (if left ≤ 1 then 4 - (n + 1) else hv_nx d n (left - 1)) else hv_nx d n left := by rw [hv_nx]
theorem hv_cb_ones : ∀ d, d < 16 → hv_cb d 4 = hv_ones d := by decide +kernel
theorem hv_nx_bit {d : Nat} : ∀ n left, 1 ≤ left → left ≤ hv_cb d n → d.testBit (hv_nx d n left) = true ∧ hv_nx d n left < 4 := by
  intro n
  induction n with
  | zero => intro left h1 h2; rw [hv_cb_0] at h2; omega
  | succ n ih =>
    intro left h1 h2
    rw [hv_cb_s] at h2
    rw [hv_nx_s]
    by_cases c : d.testBit (4 - (n + 1)) = true
    · rw [if_pos c] at h2 ⊢
      by_cases l : left ≤ 1
      · rw [if_pos l]; exact ⟨c, by omega⟩
      · rw [if_neg l]; exact ih _ (by omega) (by omega)
    · rw [if_neg c] at h2 ⊢
      exact ih _ h1 (by omega)
theorem hv_cb_R {h : hv} (ok : hv_ok h) {r : Nat} (hr : r < 4) : ∀ n, n ≤ 4 - h.R → hv_cb (h.door r) n = 0 := by
  have kR := ok.R
  intro n
  induction n with
  | zero => intro _; exact hv_cb_0 _
  | succ n ih =>
    intro hn
    have b : (h.door r).testBit (4 - (n + 1)) = false := by
      rw [ok.sym r _ hr (by omega), (ok.door (4 - (n + 1)) (by omega)).2.1 (by omega), Nat.zero_testBit]
    rw [hv_cb_s, b, ih (by omega)]; rfl
theorem hv_M_nextTo {h : hv} {σ : am_St} (H : hv_at h σ) {r k : Nat} (hr : r < h.R) (h1 : 1 ≤ k) (h2 : k ≤ hv_ones (h.door r)) : f_M_nextTo (hI r) (hI k) σ = some (hI (hv_nx (h.door r) 4 k), σ) := by
  have kR := H.ok.R
  have k16 := H.ok.door16 (show r < 4 by omega)
  have ko := hv_ones_le (h.door r)
  rw [eq_M_nextTo]; unfold g_M_nextTo f_M_nextTo_5
  have L := hv_lp (body := fun s : Int32 × Int32 × Int32 × am_St => b_M_nextTo_5 s.1 s.2.1 s.2.2.1 s.2.2.2) (P := fun x => x = (hI (hv_nx (h.door r) 4 k), σ)) (fun n t => ∃ left, t = (hI r, hI left, hI (4 - n), σ) ∧ n ≤ 4 ∧ 1 ≤ left ∧ left < 100 ∧ left ≤ hv_cb (h.door r) n ∧ hv_nx (h.door r) n left = hv_nx (h.door r) 4 k) 4 (hI r, hI k, 0, σ) ⟨k, rfl, by decide, h1, by omega, by rw [hv_cb_ones _ k16]; exact h2, rfl⟩ ?_ ?_
  · obtain ⟨x, e, rfl⟩ := L; exact e
  · rintro n t ⟨left, rfl, hn, l1, lb, l2, e⟩
    have ix : am_ix (hI r) 4 = true := hI_ix (by omega) (by decide)
    have A : ∀ y, f_M_nextTo_24 (hI r) y (hI (4 - (n + 1))) σ = some (.inl (hI r, y - (if (h.door r).testBit (4 - (n + 1)) then 1 else 0), hI (4 - n), σ)) := fun y => by
      rw [eq_M_nextTo_24]; unfold g_M_nextTo_24
      rw [if_pos ix, hI_clamp (by omega), H.m.door r (by omega), hv_M_has k16 (show 4 - (n + 1) < 4 by omega)]
      simp only [Option.bind_some, eq_M_nextTo_44, g_M_nextTo_44, hI_add1]
      rw [show 4 - (n + 1) + 1 = 4 - n by omega]
      cases (h.door r).testBit (4 - (n + 1)) <;> rfl
    have B : b_M_nextTo_5 (hI r) (hI left) (hI (4 - (n + 1))) σ = if (h.door r).testBit (4 - (n + 1)) then (if hI left ≤ 1 then some (.inr (hI (4 - (n + 1)), σ)) else f_M_nextTo_24 (hI r) (hI left) (hI (4 - (n + 1))) σ) else f_M_nextTo_24 (hI r) (hI left) (hI (4 - (n + 1))) σ := by
      unfold b_M_nextTo_5
      rw [if_pos ix, hI_clamp (by omega), H.m.door r (by omega), hv_M_has k16 (show 4 - (n + 1) < 4 by omega)]
      simp only [Option.bind_some]
      cases (h.door r).testBit (4 - (n + 1)) <;> rfl
    rw [A] at B
    rw [hv_cb_s] at l2
    rw [hv_nx_s] at e
    by_cases c : (h.door r).testBit (4 - (n + 1)) = true
    · simp only [c, ↓reduceIte] at B l2 e
      by_cases l : left ≤ 1
      · rw [if_pos (show hI left ≤ 1 from (hI_le (m := 1) (by omega) (by decide)).mpr l)] at B
        rw [if_pos l] at e
        exact .inr ⟨_, B, by rw [← e]⟩
      · rw [if_neg (show ¬ hI left ≤ 1 from hI_nle (m := 1) (by omega) (by decide) (by omega)), show hI left - 1 = hI (left - 1) from hI_sub (m := 1) (by omega)] at B
        rw [if_neg l] at e
        exact .inl ⟨_, B, left - 1, rfl, by omega, by omega, by omega, by omega, e⟩
    · simp only [c, Bool.false_eq_true, ↓reduceIte] at B l2 e
      rw [Int32.sub_zero] at B
      exact .inl ⟨_, B, left, rfl, by omega, l1, lb, by omega, e⟩
  · rintro t ⟨left, rfl, hn, l1, lb, l2, e⟩
    rw [hv_cb_0] at l2
    omega
theorem hv_neg1 : ∀ j, j < 6 → -(hI j) + -1 = -(hI (j + 1)) ∧ ¬ -(hI (j + 1)) = 0 := by decide
theorem hv_X_after0 {h : hv} {σ : am_St} (H : hv_at h σ) {r : Nat} (hr : r < h.R) : f_H_roomAfter_1 (hI r) (hI 0) σ = some (hI r, σ) := by
  have kR := H.ok.R
  have D1 : σ.1 1 0 = hI h.R := H.d.R
  rw [eq_H_roomAfter_1]; unfold g_H_roomAfter_1 f_H_roomAfter_1_5
  have L := hv_up (body := fun s : Int32 × Int32 × Int32 × am_St => b_H_roomAfter_1_5 s.1 s.2.1 s.2.2.1 s.2.2.2) (P := fun x => x = (hI r, σ)) h.R (fun i t => ∃ j, t = (hI r, -(hI j), hI i, σ) ∧ j ≤ i) 0 (Nat.zero_le _) (hI r, hI 0, 0, σ) ⟨0, by rfl, Nat.le_refl _⟩ ?_ ?_
  · obtain ⟨x, e, rfl⟩ := L; exact e
  · rintro i t hi ⟨j, rfl, hj⟩
    have A : ∀ y, f_H_roomAfter_1_40 (hI r) y (hI i) σ = some (.inl (hI r, y, hI (i + 1), σ)) := fun y => by
      rw [eq_H_roomAfter_1_40]; unfold g_H_roomAfter_1_40
      dsimp only
      rw [hI_add1]
    refine .inl ?_
    show ∃ s2, b_H_roomAfter_1_5 (hI r) (-(hI j)) (hI i) σ = _ ∧ _
    unfold b_H_roomAfter_1_5
    rw [D1, if_neg (hI_nle (by omega) (by omega) hi), A]
    by_cases c : i = r
    · rw [if_pos (by rw [c])]; exact ⟨_, rfl, j, rfl, by omega⟩
    · rw [if_neg (hI_ne (by omega) (by omega) c), H.d.isStep H.ok hr hi]
      simp only [Option.bind_some]
      obtain ⟨n1, n2⟩ := hv_neg1 j (by omega)
      by_cases q : r = i ∨ (h.door r).testBit i = true
      · rw [if_pos q, if_neg (by decide), n1, if_neg n2, A]; exact ⟨_, rfl, j + 1, rfl, by omega⟩
      · rw [if_neg q, if_pos rfl, A]; exact ⟨_, rfl, j, rfl, by omega⟩
  · rintro t ⟨j, rfl, hj⟩
    refine ⟨_, ?_, rfl⟩
    show b_H_roomAfter_1_5 (hI r) _ (hI h.R) σ = _
    unfold b_H_roomAfter_1_5
    rw [D1, if_pos (Int32.le_refl _)]
theorem hv_X_after {h : hv} {σ : am_St} (H : hv_at h σ) {r k : Nat} (hr : r < h.R) (h1 : 1 ≤ k) (h2 : k ≤ hv_ones (h.door r)) : f_H_roomAfter_1 (hI r) (hI k) σ = some (hI (hv_nx (h.door r) 4 k), σ) := by
  have kR := H.ok.R
  have k16 := H.ok.door16 (show r < 4 by omega)
  have ko := hv_ones_le (h.door r)
  have ks : (h.door r).testBit r = false := (H.ok.door r (by omega)).2.2
  have D1 : σ.1 1 0 = hI h.R := H.d.R
  rw [eq_H_roomAfter_1]; unfold g_H_roomAfter_1 f_H_roomAfter_1_5
  have L := hv_lp (body := fun s : Int32 × Int32 × Int32 × am_St => b_H_roomAfter_1_5 s.1 s.2.1 s.2.2.1 s.2.2.2) (P := fun x => x = (hI (hv_nx (h.door r) 4 k), σ)) (fun n t => ∃ left, t = (hI r, hI left, hI (4 - n), σ) ∧ n ≤ 4 ∧ 1 ≤ left ∧ left < 100 ∧ left ≤ hv_cb (h.door r) n ∧ hv_nx (h.door r) n left = hv_nx (h.door r) 4 k) 4 (hI r, hI k, 0, σ) ⟨k, rfl, by decide, h1, by omega, by rw [hv_cb_ones _ k16]; exact h2, rfl⟩ ?_ ?_
  · obtain ⟨x, e, rfl⟩ := L; exact e
  · rintro n t ⟨left, rfl, hn, l1, lb, l2, e⟩
    have inR : 4 - (n + 1) < h.R := Nat.lt_of_not_le fun q => by
      have := hv_cb_R H.ok (show r < 4 by omega) (n + 1) (by omega)
      omega
    have A : ∀ y, f_H_roomAfter_1_40 (hI r) y (hI (4 - (n + 1))) σ = some (.inl (hI r, y, hI (4 - n), σ)) := fun y => by
      rw [eq_H_roomAfter_1_40]; unfold g_H_roomAfter_1_40
      dsimp only
      rw [hI_add1, show 4 - (n + 1) + 1 = 4 - n by omega]
    have B : b_H_roomAfter_1_5 (hI r) (hI left) (hI (4 - (n + 1))) σ = if (h.door r).testBit (4 - (n + 1)) then (if hI left + -1 = 0 then some (.inr (hI (4 - (n + 1)), σ)) else some (.inl (hI r, hI left + -1, hI (4 - n), σ))) else some (.inl (hI r, hI left, hI (4 - n), σ)) := by
      unfold b_H_roomAfter_1_5
      rw [D1, if_neg (hI_nle (by omega) (by omega) inR), A]
      by_cases c : 4 - (n + 1) = r
      · rw [c, if_pos rfl, ks]; rfl
      · rw [if_neg (hI_ne (by omega) (by omega) c), H.d.isStep H.ok hr inR]
        simp only [Option.bind_some, A]
        by_cases q : (h.door r).testBit (4 - (n + 1)) = true
        · rw [if_pos (Or.inr q), if_neg (by decide), if_pos q]
        · rw [if_neg (show ¬ (r = 4 - (n + 1) ∨ (h.door r).testBit (4 - (n + 1)) = true) from fun z => z.elim (fun w => c w.symm) q), if_pos rfl, if_neg q]
    have sb : hI left + -1 = hI (left - 1) := by
      rw [← Int32.sub_eq_add_neg]; exact hI_sub (m := 1) (by omega)
    rw [sb] at B
    rw [hv_cb_s] at l2
    rw [hv_nx_s] at e
    by_cases c : (h.door r).testBit (4 - (n + 1)) = true
    · simp only [c, ↓reduceIte] at B l2 e
      by_cases l : left ≤ 1
      · rw [if_pos (show hI (left - 1) = 0 by rw [show left - 1 = 0 by omega]; rfl)] at B
        rw [if_pos l] at e
        exact .inr ⟨_, B, by rw [← e]⟩
      · rw [if_neg (hI_ne0 (by omega) (by omega))] at B
        rw [if_neg l] at e
        exact .inl ⟨_, B, left - 1, rfl, by omega, by omega, by omega, by omega, e⟩
    · simp only [c, Bool.false_eq_true, ↓reduceIte] at B l2 e
      exact .inl ⟨_, B, left, rfl, by omega, l1, lb, by omega, e⟩
  · rintro t ⟨left, rfl, hn, l1, lb, l2, e⟩
    rw [hv_cb_0] at l2
    omega
/-- the room after r by the draw with z -/
def hv_go (h : hv) (z : Int32) (r : Nat) : Nat := if hv_dr z (hv_ones (h.door r) + 1) = 0 then r else hv_nx (h.door r) 4 (hv_dr z (hv_ones (h.door r) + 1))
theorem hv_go_lt {h : hv} (ok : hv_ok h) (z : Int32) {r : Nat} (hr : r < h.R) : hv_go h z r < h.R := by
  have kR := ok.R
  have k16 := ok.door16 (show r < 4 by omega)
  unfold hv_go
  by_cases c : hv_dr z (hv_ones (h.door r) + 1) = 0
  · rw [if_pos c]; exact hr
  · rw [if_neg c]
    have k := hv_dr_lt z (show 0 < hv_ones (h.door r) + 1 by omega)
    obtain ⟨b, b4⟩ := hv_nx_bit (d := h.door r) 4 (hv_dr z (hv_ones (h.door r) + 1)) (by omega) (by rw [hv_cb_ones _ k16]; omega)
    refine Nat.lt_of_not_le fun q => ?_
    rw [ok.sym r _ (by omega) b4, (ok.door _ b4).2.1 q, Nat.zero_testBit] at b
    cases b
/-- z and the room at minute n -/
def hv_wk (h : hv) (z : Int32) : Nat → Int32 × Nat
  | 0 => (hv_nz z, hv_dr (hv_nz z) h.R)
  | n + 1 => (hv_nz (hv_wk h z n).1, hv_go h (hv_nz (hv_wk h z n).1) (hv_wk h z n).2)
theorem hv_wk_0 (h : hv) (z : Int32) : hv_wk h z 0 = (hv_nz z, hv_dr (hv_nz z) h.R) := by rw [hv_wk]
theorem hv_wk_s (h : hv) (z : Int32) (n : Nat) : hv_wk h z (n + 1) = (hv_nz (hv_wk h z n).1, hv_go h (hv_nz (hv_wk h z n).1) (hv_wk h z n).2) := by rw [hv_wk]
theorem hv_wk_lt {h : hv} (ok : hv_ok h) (z : Int32) : ∀ n, (hv_wk h z n).2 < h.R := by
  intro n
  induction n with
  | zero => rw [hv_wk_0]; exact hv_dr_lt _ (by have := ok.R; omega)
  | succ n ih => rw [hv_wk_s]; exact hv_go_lt ok _ ih
/-- is it there, n minutes gone -/
def hv_hit (h : hv) (z : Int32) (n : Nat) : Nat := if h.dm < n ∧ (hv_wk h z h.dm).2 = h.dr then 1 else 0
theorem hv_hit_s (h : hv) (z : Int32) (n : Nat) : hv_hit h z (n + 1) = hv_hit h z n + if (hv_wk h z n).2 = h.dr ∧ n = h.dm then 1 else 0 := by
  unfold hv_hit
  by_cases c : n = h.dm
  · subst c
    by_cases q : (hv_wk h z h.dm).2 = h.dr
    · rw [if_pos ⟨by omega, q⟩, if_neg (by omega), if_pos ⟨q, rfl⟩]
    · rw [if_neg (fun e => q e.2), if_neg (fun e => q e.2), if_neg (fun e => q e.1)]
  · rw [if_neg (fun e : (hv_wk h z n).2 = h.dr ∧ n = h.dm => c e.2)]
    by_cases l : h.dm < n
    · by_cases q : (hv_wk h z h.dm).2 = h.dr
      · rw [if_pos ⟨by omega, q⟩, if_pos ⟨l, q⟩]
      · rw [if_neg (fun e => q e.2), if_neg (fun e => q e.2)]
    · rw [if_neg (by omega), if_neg (by omega)]
theorem hv_hit_le (h : hv) (z : Int32) (n : Nat) : hv_hit h z n ≤ 1 := by unfold hv_hit; split <;> decide
theorem hv_X_draw {z : Int32} {n : Nat} (h0 : 0 < n) (hn : n < 2 ^ 31) (σ : am_St) : f_W_drawBelow z (hI n) σ = some (hI (hv_dr z n), σ) := by
  rw [eq_W_drawBelow]; unfold g_W_drawBelow
  rw [if_neg (hI_le0 hn h0), if_neg (hI_ne0 hn (by omega)), hv_dr_I z hn]
theorem hv_M_draw {n : Nat} (h0 : 0 < n) (hn : n < 2 ^ 31) {σ : am_St} {z : Int32} (e : σ.1 66 47 = z) : f_M_draw (hI n) σ = some (hI (hv_dr (hv_nz z) n), am_sI σ 66 47 (hv_nz z)) := by
  rw [eq_M_draw]; unfold g_M_draw
  dsimp only
  rw [e, if_neg (hI_ne0 hn (by omega)), hv_g1]
  show some (am_rem ((hv_nz z &&& 2147483647) / 65536) (hI n), _) = _
  rw [hv_dr_I _ hn]; rfl
theorem hv_X_kid {h : hv} {σ : am_St} (H : hv_at h σ) (x1 x3 z x5 x6 x7 : Int32) {c n : Nat} (hc : c < 4) : ∃ x, f_W_drawn_1_39 x1 x3 z x5 x6 x7 (hI n) (hI c) 0 0 σ = some x ∧ x = .inl (x1, x3, (hv_wk h z (h.M - 1)).1, x5, x6, x7, hI (n + hv_hit h z h.M), hI (c + 1), σ) := by
  have kM := H.ok.M
  have kR := H.ok.R
  have kr := H.ok.dr
  have km := H.ok.dm
  have D0 : σ.1 1 0 = hI h.R := H.d.R
  have D1 : σ.1 1 1 = hI h.M := H.d.M
  have D3 : σ.1 1 3 = hI h.dr := H.d.dr
  have D4 : σ.1 1 4 = hI h.dm := H.d.dm
  unfold f_W_drawn_1_39
  refine hv_up h.M (fun i t => t = (x1, x3, (if i = 0 then z else (hv_wk h z (i - 1)).1), x5, x6, x7, hI (n + hv_hit h z i), hI c, (if i = 0 then 0 else hI (hv_wk h z (i - 1)).2), hI i, σ)) 0 (Nat.zero_le _) _ rfl ?_ ?_
  · rintro i t hi rfl
    have kw := hv_wk_lt H.ok z i
    have A : ∀ y, f_W_drawn_1_95 x1 x3 y x5 x6 x7 (hI (n + hv_hit h z i)) (hI c) (hI i) (hI (hv_wk h z i).2) σ = some (.inl (x1, x3, y, x5, x6, x7, hI (n + hv_hit h z (i + 1)), hI c, hI (hv_wk h z i).2, hI (i + 1), σ)) := fun y => by
      have E : f_H_isDeed_1 (hI (hv_wk h z i).2) (hI i) σ = some (if (hv_wk h z i).2 = h.dr ∧ i = h.dm then 1 else 0, σ) := by
        rw [eq_H_isDeed_1]; unfold g_H_isDeed_1
        rw [D3, D4]
        by_cases q1 : (hv_wk h z i).2 = h.dr
        · rw [if_pos (by rw [q1])]
          by_cases q2 : i = h.dm
          · rw [if_pos (by rw [q2]), if_pos ⟨q1, q2⟩]
          · rw [if_neg (hI_ne (by omega) (by omega) q2), if_neg (fun e => q2 e.2)]
        · rw [if_neg (hI_ne (by omega) (by omega) q1), if_neg (fun e => q1 e.1)]
      rw [eq_W_drawn_1_95]; unfold g_W_drawn_1_95
      rw [E, hv_hit_s]
      simp only [Option.bind_some, eq_X_bit, g_X_bit]
      by_cases q : (hv_wk h z i).2 = h.dr ∧ i = h.dm
      · rw [if_pos q, if_pos q]
        simp only [↓reduceIte, hv_10, Option.bind_some, hI_add1]
        rw [Nat.add_assoc]
      · rw [if_neg q, if_neg q]
        simp only [↓reduceIte, Option.bind_some, hI_add1, Int32.add_zero]
        rfl
    refine .inl ⟨_, ?_, by rw [if_neg (Nat.succ_ne_zero i), if_neg (Nat.succ_ne_zero i), Nat.add_sub_cancel]⟩
    show b_W_drawn_1_39 x1 x3 _ x5 x6 x7 _ (hI c) _ (hI i) σ = _
    unfold b_W_drawn_1_39
    rw [D1, if_neg (hI_nle (by omega) (by omega) hi)]
    dsimp only
    by_cases c0 : i = 0
    · subst c0
      rw [if_pos (show hI 0 = 0 from rfl), if_pos rfl, D0]
      have E := hv_X_draw (z := hv_nz z) (n := h.R) (by omega) (by omega) σ
      rw [show f_W_drawBelow (z * 1103515245 + 12345) (hI h.R) σ = some (hI (hv_dr (hv_nz z) h.R), σ) from E]
      simp only [Option.bind_some]
      have A0 := A (hv_nz z)
      rw [hv_wk_0] at A0 ⊢
      exact A0
    · obtain ⟨j, rfl⟩ : ∃ j, i = j + 1 := ⟨i - 1, by omega⟩
      have kj := hv_wk_lt H.ok z j
      have ko := hv_ones_le (h.door (hv_wk h z j).2)
      rw [if_neg (hI_ne0 (by omega) c0), if_neg c0, if_neg c0, Nat.add_sub_cancel, H.doorsOf kj]
      simp only [Option.bind_some]
      rw [hI_add1]
      have E := hv_X_draw (z := hv_nz (hv_wk h z j).1) (n := hv_ones (h.door (hv_wk h z j).2) + 1) (by omega) (by omega) σ
      rw [show f_W_drawBelow ((hv_wk h z j).1 * 1103515245 + 12345) (hI (hv_ones (h.door (hv_wk h z j).2) + 1)) σ = _ from E]
      simp only [Option.bind_some]
      have kd := hv_dr_lt (hv_nz (hv_wk h z j).1) (show 0 < hv_ones (h.door (hv_wk h z j).2) + 1 by omega)
      have G : f_H_roomAfter_1 (hI (hv_wk h z j).2) (hI (hv_dr (hv_nz (hv_wk h z j).1) (hv_ones (h.door (hv_wk h z j).2) + 1))) σ = some (hI (hv_wk h z (j + 1)).2, σ) := by
        rw [hv_wk_s]
        unfold hv_go
        by_cases q : hv_dr (hv_nz (hv_wk h z j).1) (hv_ones (h.door (hv_wk h z j).2) + 1) = 0
        · rw [q, if_pos rfl, hv_X_after0 H kj]
        · rw [if_neg q, hv_X_after H kj (by omega) (by omega)]
      rw [G]
      simp only [Option.bind_some]
      have A0 := A (hv_nz (hv_wk h z j).1)
      rw [show (hv_wk h z (j + 1)).1 = hv_nz (hv_wk h z j).1 by rw [hv_wk_s]]
      exact A0
  · rintro t rfl
    refine ⟨_, ?_, rfl⟩
    show b_W_drawn_1_39 x1 x3 _ x5 x6 x7 _ (hI c) _ (hI h.M) σ = _
    unfold b_W_drawn_1_39
    rw [D1, if_pos (Int32.le_refl _)]
    dsimp only
    rw [if_neg (show ¬ h.M = 0 by omega), hI_add1]
theorem hv_01k : ∀ n, n < 2 → (if hI n = 0 then (0 : Int32) else 1) = hI n := by decide
theorem hv_M_kid {h : hv} {σ : am_St} (H : hv_at h σ) {z : Int32} (e : σ.1 66 47 = z) : ∃ τ, f_M_goesThere σ = some (hI (hv_hit h z h.M), τ) ∧ hv_Sm σ τ ∧ τ.1 66 47 = (hv_wk h z (h.M - 1)).1 := by
  have kM := H.ok.M
  have kR := H.ok.R
  have kr := H.ok.dr
  have km := H.ok.dm
  have s1 : hv_Sm σ (am_sI σ 66 47 (hv_nz z)) := (hv_Sm.rfl' σ).set _ rfl
  have T1 := s1.at H
  have k0 := hv_dr_lt (hv_nz z) (show 0 < h.R by omega)
  have L : f_M_goesThere_32 (hI (hv_wk h z 0).2) (hI (hv_hit h z 1)) 1 (am_sI σ 66 47 (hv_nz z)) = f_M_goesThere_32 (hI (hv_wk h z 0).2) (hI (hv_hit h z 1)) 1 (am_sI σ 66 47 (hv_nz z)) ∧ ∃ τ, f_M_goesThere_32 (hI (hv_wk h z 0).2) (hI (hv_hit h z 1)) 1 (am_sI σ 66 47 (hv_nz z)) = some (hI (hv_hit h z h.M), τ) ∧ hv_Sm σ τ ∧ τ.1 66 47 = (hv_wk h z (h.M - 1)).1 := by
    refine ⟨rfl, ?_⟩
    unfold f_M_goesThere_32
    have L := hv_up (body := fun s : Int32 × Int32 × Int32 × am_St => b_M_goesThere_32 s.1 s.2.1 s.2.2.1 s.2.2.2) (P := fun x => ∃ τ, x = (hI (hv_hit h z h.M), τ) ∧ hv_Sm σ τ ∧ τ.1 66 47 = (hv_wk h z (h.M - 1)).1) h.M (fun i t => ∃ τ, t = (hI (hv_wk h z (i - 1)).2, hI (hv_hit h z i), hI i, τ) ∧ 1 ≤ i ∧ hv_Sm σ τ ∧ τ.1 66 47 = (hv_wk h z (i - 1)).1) 1 (by omega) (hI (hv_wk h z 0).2, hI (hv_hit h z 1), 1, am_sI σ 66 47 (hv_nz z)) ⟨_, rfl, Nat.le_refl _, s1, by rw [hv_g1, Nat.sub_self, hv_wk_0]⟩ ?_ ?_
    · obtain ⟨x, e, τ, rfl, a, b⟩ := L; exact ⟨τ, e, a, b⟩
    · rintro i t hi ⟨τ, rfl, i1, sm, ez⟩
      obtain ⟨j, rfl⟩ : ∃ j, i = j + 1 := ⟨i - 1, by omega⟩
      rw [Nat.add_sub_cancel] at ez
      have T := sm.at H
      have kj := hv_wk_lt H.ok z j
      have kj1 := hv_wk_lt H.ok z (j + 1)
      have k16 := H.ok.door16 (show (hv_wk h z j).2 < 4 by omega)
      have ko := hv_ones_le (h.door (hv_wk h z j).2)
      have kd := hv_dr_lt (hv_nz (hv_wk h z j).1) (show 0 < hv_ones (h.door (hv_wk h z j).2) + 1 by omega)
      have sm2 : hv_Sm σ (am_sI τ 66 47 (hv_nz (hv_wk h z j).1)) := sm.set _ rfl
      have T2 := sm2.at H
      have A : f_M_goesThere_73 (hI (hv_hit h z (j + 1))) (hI (j + 1)) (hI (hv_wk h z (j + 1)).2) (am_sI τ 66 47 (hv_nz (hv_wk h z j).1)) = some (.inl (hI (hv_wk h z (j + 1)).2, hI (hv_hit h z (j + 2)), hI (j + 2), am_sI τ 66 47 (hv_nz (hv_wk h z j).1))) := by
        have A9 : ∀ y, f_M_goesThere_99 (hI (hv_wk h z (j + 1)).2) (hI (j + 1)) y (am_sI τ 66 47 (hv_nz (hv_wk h z j).1)) = some (.inl (hI (hv_wk h z (j + 1)).2, y, hI (j + 2), am_sI τ 66 47 (hv_nz (hv_wk h z j).1))) := fun y => by
          rw [eq_M_goesThere_99]; unfold g_M_goesThere_99
          dsimp only
          rw [hI_add1]
        have kl := hv_hit_le h z (j + 2)
        have ks : hv_hit h z (j + 2) = _ := hv_hit_s h z (j + 1)
        rw [eq_M_goesThere_73]; unfold g_M_goesThere_73
        simp only [eq_M_goesThere_94, g_M_goesThere_94, eq_M_goesThere_98, g_M_goesThere_98, A9]
        rw [T2.m.dm, T2.m.dr]
        have kl2 := hv_hit_le h z (j + 1)
        by_cases q0 : hv_hit h z (j + 1) = 0
        · rw [q0, if_pos (show hI 0 = 0 from rfl)]
          by_cases q2 : j + 1 = h.dm
          · rw [if_pos (by rw [q2])]
            by_cases q1 : (hv_wk h z (j + 1)).2 = h.dr
            · rw [if_pos (by rw [q1]), show hv_hit h z (j + 2) = 1 by rw [ks, q0, if_pos ⟨q1, q2⟩]]; rfl
            · rw [if_neg (hI_ne (by omega) (by omega) q1), show hv_hit h z (j + 2) = 0 by rw [ks, q0, if_neg (fun e => q1 e.1)]]; rfl
          · rw [if_neg (hI_ne (by omega) (by omega) (fun e => q2 e.symm)), show hv_hit h z (j + 2) = 0 by rw [ks, q0, if_neg (fun e => q2 e.2)]]; rfl
        · rw [if_neg (hI_ne0 (by omega) q0), show hv_hit h z (j + 2) = 1 by omega]; rfl
      refine .inl ⟨_, ?_, am_sI τ 66 47 (hv_nz (hv_wk h z j).1), rfl, by omega, sm2, by rw [hv_g1, Nat.add_sub_cancel, hv_wk_s]⟩
      show b_M_goesThere_32 (hI (hv_wk h z (j + 1 - 1)).2) _ (hI (j + 1)) τ = _
      unfold b_M_goesThere_32
      rw [Nat.add_sub_cancel, T.m.M, if_neg (hI_nle (by omega) (by omega) hi), if_pos (hI_ix (show (hv_wk h z j).2 < 4 by omega) (by decide)), hI_clamp (by omega), T.m.door _ (by omega), hv_M_ones (by omega)]
      simp only [Option.bind_some]
      rw [hI_add1, hv_M_draw (by omega) (by omega) ez]
      simp only [Option.bind_some]
      rw [eq_M_goesThere_57]; unfold g_M_goesThere_57
      rw [Nat.add_sub_cancel]
      by_cases q : hv_dr (hv_nz (hv_wk h z j).1) (hv_ones (h.door (hv_wk h z j).2) + 1) = 0
      · have eg : (hv_wk h z (j + 1)).2 = (hv_wk h z j).2 := by rw [hv_wk_s]; unfold hv_go; rw [if_pos q]
        rw [q, if_pos (show hI 0 = 0 from rfl), ← eg]
        exact A
      · have eg : (hv_wk h z (j + 1)).2 = hv_nx (h.door (hv_wk h z j).2) 4 (hv_dr (hv_nz (hv_wk h z j).1) (hv_ones (h.door (hv_wk h z j).2) + 1)) := by rw [hv_wk_s]; unfold hv_go; rw [if_neg q]
        rw [if_neg (hI_ne0 (by omega) q), hv_M_nextTo T2 kj (by omega) (by omega), ← eg]
        simp only [Option.bind_some]
        exact A
    · rintro t ⟨τ, rfl, i1, sm, ez⟩
      refine ⟨_, ?_, τ, rfl, sm, ez⟩
      have kl := hv_hit_le h z h.M
      show b_M_goesThere_32 _ (hI (hv_hit h z h.M)) (hI h.M) τ = _
      unfold b_M_goesThere_32
      rw [(sm.at H).m.M, if_pos (Int32.le_refl _), if_pos]
      have : ∀ n, n < 2 → hI n &&& 1 = hI n := by decide
      exact this _ (by omega)
  obtain ⟨-, τ, e32, sm, ez⟩ := L
  refine ⟨τ, ?_, sm, ez⟩
  rw [← e32, eq_M_goesThere]; unfold g_M_goesThere
  rw [H.m.R, hv_M_draw (by omega) (by omega) e]
  simp only [Option.bind_some]
  rw [T1.m.dm, T1.m.dr, hv_wk_0]
  have h1 : hv_hit h z 1 = if hv_dr (hv_nz z) h.R = h.dr ∧ 0 = h.dm then 1 else 0 := by
    have := hv_hit_s h z 0
    rw [hv_wk_0] at this
    rw [this]
    unfold hv_hit
    rw [if_neg (by omega), Nat.zero_add]
  rw [h1]
  by_cases q2 : h.dm = 0
  · rw [if_pos (show hI h.dm = 0 by rw [q2]; rfl)]
    by_cases q1 : hv_dr (hv_nz z) h.R = h.dr
    · rw [if_pos (by rw [q1]), if_pos ⟨q1, q2.symm⟩, eq_M_goesThere_29]; rfl
    · rw [if_neg (hI_ne (by omega) (by omega) q1), if_neg (fun e => q1 e.1), eq_M_goesThere_28]
      unfold g_M_goesThere_28
      rw [eq_M_goesThere_29]; rfl
  · rw [if_neg (hI_ne0 (by omega) q2), if_neg (fun e => q2 e.2.symm), eq_M_goesThere_28]
    unfold g_M_goesThere_28
    rw [eq_M_goesThere_29]; rfl
/-- n children, then n years -/
def hv_kids (h : hv) (z : Int32) : Nat → Int32 × Nat
  | 0 => (z, 0)
  | n + 1 => ((hv_wk h (hv_kids h z n).1 (h.M - 1)).1, (hv_kids h z n).2 + hv_hit h (hv_kids h z n).1 h.M)
theorem hv_kids_0 (h : hv) (z : Int32) : hv_kids h z 0 = (z, 0) := by rw [hv_kids]
theorem hv_kids_s (h : hv) (z : Int32) (n : Nat) : hv_kids h z (n + 1) = ((hv_wk h (hv_kids h z n).1 (h.M - 1)).1, (hv_kids h z n).2 + hv_hit h (hv_kids h z n).1 h.M) := by rw [hv_kids]
theorem hv_kids_le (h : hv) (z : Int32) : ∀ n, (hv_kids h z n).2 ≤ n := by
  intro n
  induction n with
  | zero => rw [hv_kids_0]; exact Nat.le_refl _
  | succ n ih => rw [hv_kids_s]; have := hv_hit_le h (hv_kids h z n).1 h.M; dsimp only; omega
def hv_yrs (h : hv) (z : Int32) : Nat → Int32 × Nat × Nat
  | 0 => (z, 0, 0)
  | n + 1 => ((hv_kids h (hv_yrs h z n).1 h.C).1, (hv_yrs h z n).2.1 + (if (hv_kids h (hv_yrs h z n).1 h.C).2 = 1 then 1 else 0), (hv_yrs h z n).2.2 + (hv_kids h (hv_yrs h z n).1 h.C).2)
theorem hv_yrs_0 (h : hv) (z : Int32) : hv_yrs h z 0 = (z, 0, 0) := by rw [hv_yrs]
theorem hv_yrs_s (h : hv) (z : Int32) (n : Nat) : hv_yrs h z (n + 1) = ((hv_kids h (hv_yrs h z n).1 h.C).1, (hv_yrs h z n).2.1 + (if (hv_kids h (hv_yrs h z n).1 h.C).2 = 1 then 1 else 0), (hv_yrs h z n).2.2 + (hv_kids h (hv_yrs h z n).1 h.C).2) := by rw [hv_yrs]
def hv_yA (h : hv) (z : Int32) (n w : Nat) : Int32 := if w = 0 then hI (hv_yrs h z n).2.1 else hI (hv_yrs h z n).2.2
theorem hv_X_yrs {h : hv} {σ : am_St} (H : hv_at h σ) (z : Int32) {n w : Nat} (hn : n < 100) (hw : w < 2) : f_W_drawn_1 (hI n) z (hI w) σ = some (hv_yA h z n w, σ) := by
  have kC := H.ok.C
  have D1 : σ.1 1 2 = hI h.C := H.d.C
  rw [eq_W_drawn_1]; unfold g_W_drawn_1 f_W_drawn_1_12
  have L := hv_up (body := fun s : Int32 × Int32 × Int32 × Int32 × Int32 × Int32 × am_St => b_W_drawn_1_12 s.1 s.2.1 s.2.2.1 s.2.2.2.1 s.2.2.2.2.1 s.2.2.2.2.2.1 s.2.2.2.2.2.2) (P := fun x => x = (hv_yA h z n w, σ)) n (fun i t => t = (hI n, hI w, (hv_yrs h z i).1, hI (hv_yrs h z i).2.1, hI (hv_yrs h z i).2.2, hI i, σ)) 0 (Nat.zero_le _) (hI n, hI w, z, 0, 0, 0, σ) (by rw [hv_yrs_0]; rfl) ?_ ?_
  · obtain ⟨x, e, rfl⟩ := L; exact e
  · rintro i t hi rfl
    refine .inl ⟨_, ?_, rfl⟩
    show b_W_drawn_1_12 _ _ _ _ _ (hI i) σ = _
    unfold b_W_drawn_1_12
    rw [if_neg (hI_nle (by omega) (by omega) hi), hv_yrs_s]
    generalize (hv_yrs h z i).1 = z1
    generalize (hv_yrs h z i).2.1 = a
    generalize (hv_yrs h z i).2.2 = b
    unfold f_W_drawn_1_24
    have L2 := hv_up (body := fun s : Int32 × Int32 × Int32 × Int32 × Int32 × Int32 × Int32 × Int32 × am_St => b_W_drawn_1_24 s.1 s.2.1 s.2.2.1 s.2.2.2.1 s.2.2.2.2.1 s.2.2.2.2.2.1 s.2.2.2.2.2.2.1 s.2.2.2.2.2.2.2.1 s.2.2.2.2.2.2.2.2) (P := fun x => x = .inl (hI n, hI w, (hv_kids h z1 h.C).1, hI (a + if (hv_kids h z1 h.C).2 = 1 then 1 else 0), hI (b + (hv_kids h z1 h.C).2), hI (i + 1), σ)) h.C (fun j t => t = (hI n, hI w, (hv_kids h z1 j).1, hI a, hI b, hI i, hI (hv_kids h z1 j).2, hI j, σ)) 0 (Nat.zero_le _) (hI n, hI w, z1, hI a, hI b, hI i, 0, 0, σ) (by rw [hv_kids_0]; rfl) ?_ ?_
    · obtain ⟨x, e, rfl⟩ := L2; exact e
    · rintro j t hj rfl
      obtain ⟨x, ex, rfl⟩ := hv_X_kid H (hI n) (hI w) (hv_kids h z1 j).1 (hI a) (hI b) (hI i) (c := j) (n := (hv_kids h z1 j).2) (by omega)
      refine .inl ⟨_, ?_, by rw [hv_kids_s]⟩
      show b_W_drawn_1_24 _ _ _ _ _ _ _ (hI j) σ = _
      unfold b_W_drawn_1_24
      rw [D1, if_neg (hI_nle (by omega) (by omega) hj)]
      exact ex
    · rintro t rfl
      have kl := hv_kids_le h z1 h.C
      refine ⟨_, ?_, rfl⟩
      show b_W_drawn_1_24 _ _ _ _ _ _ _ (hI h.C) σ = _
      unfold b_W_drawn_1_24
      rw [D1, if_pos (Int32.le_refl _)]
      dsimp only
      rw [hI_add]
      by_cases q : (hv_kids h z1 h.C).2 = 1
      · rw [if_pos (show hI _ = 1 by rw [q]; rfl), if_pos q]
        simp only [eq_W_drawn_1_145, g_W_drawn_1_145, eq_X_bit, g_X_bit, hv_10, ↓reduceIte, Option.bind_some, hI_add1]
        rfl
      · rw [if_neg (hI_ne1 (by omega) q), if_neg q]
        simp only [eq_W_drawn_1_145, g_W_drawn_1_145, eq_X_bit, g_X_bit, ↓reduceIte, Option.bind_some, hI_add1, Int32.add_zero]
        rfl
  · rintro t rfl
    refine ⟨_, ?_, rfl⟩
    show b_W_drawn_1_12 _ _ _ _ _ (hI n) σ = _
    unfold b_W_drawn_1_12 hv_yA
    rw [if_pos (Int32.le_refl _)]
    by_cases q : w = 0
    · rw [q, if_pos (show hI 0 = 0 from rfl), if_pos rfl]
    · rw [if_neg (hI_ne0 (by omega) q), if_neg q]
theorem hv_M_yrs {h : hv} {σ : am_St} (H : hv_at h σ) {z : Int32} (ez : σ.1 66 47 = z) {n w : Nat} (hn : n < 100) (hw : w < 2) : ∃ τ, f_M_seeds_64 (hI n) (hI w) 0 0 0 σ = some (hv_yA h z n w, τ) ∧ hv_Sm σ τ := by
  have kC := H.ok.C
  unfold f_M_seeds_64
  have L := hv_up (body := fun s : Int32 × Int32 × Int32 × Int32 × Int32 × am_St => b_M_seeds_64 s.1 s.2.1 s.2.2.1 s.2.2.2.1 s.2.2.2.2.1 s.2.2.2.2.2) (P := fun x => ∃ τ, x = (hv_yA h z n w, τ) ∧ hv_Sm σ τ) n (fun i t => ∃ τ, t = (hI n, hI w, hI (hv_yrs h z i).2.1, hI (hv_yrs h z i).2.2, hI i, τ) ∧ hv_Sm σ τ ∧ τ.1 66 47 = (hv_yrs h z i).1) 0 (Nat.zero_le _) (hI n, hI w, 0, 0, 0, σ) ⟨σ, by rw [hv_yrs_0]; rfl, hv_Sm.rfl' _, by rw [hv_yrs_0]; exact ez⟩ ?_ ?_
  · obtain ⟨x, e, τ, rfl, f⟩ := L; exact ⟨τ, e, f⟩
  · rintro i t hi ⟨τ, rfl, sm, e1⟩
    refine .inl ?_
    show ∃ s2, b_M_seeds_64 _ _ _ _ (hI i) τ = _ ∧ _
    unfold b_M_seeds_64
    rw [if_neg (hI_nle (by omega) (by omega) hi), hv_yrs_s]
    generalize (hv_yrs h z i).1 = z1 at e1 ⊢
    generalize (hv_yrs h z i).2.1 = a
    generalize (hv_yrs h z i).2.2 = b
    unfold f_M_seeds_76
    have L2 := hv_up (body := fun s : Int32 × Int32 × Int32 × Int32 × Int32 × Int32 × Int32 × am_St => b_M_seeds_76 s.1 s.2.1 s.2.2.1 s.2.2.2.1 s.2.2.2.2.1 s.2.2.2.2.2.1 s.2.2.2.2.2.2.1 s.2.2.2.2.2.2.2) (P := fun x => ∃ υ, x = .inl (hI n, hI w, hI (a + if (hv_kids h z1 h.C).2 = 1 then 1 else 0), hI (b + (hv_kids h z1 h.C).2), hI (i + 1), υ) ∧ hv_Sm σ υ ∧ υ.1 66 47 = (hv_kids h z1 h.C).1) h.C (fun j t => ∃ υ, t = (hI n, hI w, hI a, hI b, hI i, hI (hv_kids h z1 j).2, hI j, υ) ∧ hv_Sm σ υ ∧ υ.1 66 47 = (hv_kids h z1 j).1) 0 (Nat.zero_le _) (hI n, hI w, hI a, hI b, hI i, 0, 0, τ) ⟨τ, by rw [hv_kids_0]; rfl, sm, by rw [hv_kids_0]; exact e1⟩ ?_ ?_
    · obtain ⟨x, e, υ, rfl, f1, f2⟩ := L2
      exact ⟨_, e, υ, rfl, f1, f2⟩
    · rintro j t hj ⟨υ, rfl, sm2, e2⟩
      obtain ⟨ω, ex, sm3, e3⟩ := hv_M_kid (sm2.at H) e2
      have kl := hv_hit_le h (hv_kids h z1 j).1 h.M
      refine .inl ⟨_, ?_, ω, rfl, sm2.trans sm3, by rw [hv_kids_s]; exact e3⟩
      show b_M_seeds_76 _ _ _ _ _ _ (hI j) υ = _
      unfold b_M_seeds_76
      rw [(sm2.at H).m.C, if_neg (hI_nle (by omega) (by omega) hj), ex, hv_kids_s]
      simp only [Option.bind_some, eq_M_seeds_99, g_M_seeds_99, hI_add1]
      by_cases q : hv_hit h (hv_kids h z1 j).1 h.M = 0
      · rw [q, if_pos (show hI 0 = 0 from rfl), Int32.add_zero]; try rfl
      · rw [if_neg (hI_ne0 (by omega) q), show hv_hit h (hv_kids h z1 j).1 h.M = 1 by omega]; try rfl
    · rintro t ⟨υ, rfl, sm2, e2⟩
      have kl := hv_kids_le h z1 h.C
      refine ⟨_, ?_, υ, rfl, sm2, e2⟩
      show b_M_seeds_76 _ _ _ _ _ _ (hI h.C) υ = _
      unfold b_M_seeds_76
      rw [(sm2.at H).m.C, if_pos (Int32.le_refl _)]
      simp only [eq_M_seeds_121, g_M_seeds_121]
      by_cases q : (hv_kids h z1 h.C).2 = 1
      · rw [if_pos (show hI _ = 1 by rw [q]; rfl), if_pos q, hI_add, hI_add1, hI_add1]; try rfl
      · rw [if_neg (hI_ne1 (by omega) q), if_neg q, hI_add, Int32.add_zero, hI_add1]; try rfl
  · rintro t ⟨τ, rfl, sm, e1⟩
    refine ⟨_, ?_, τ, rfl, sm⟩
    show b_M_seeds_64 _ _ _ _ (hI n) τ = _
    unfold b_M_seeds_64 hv_yA
    rw [if_pos (Int32.le_refl _)]
    by_cases q : w = 0
    · rw [q, if_pos (show hI 0 = 0 from rfl), if_pos rfl]
    · rw [if_neg (hI_ne0 (by omega) q), if_neg q]
theorem hv_st_seeds : st_seeds hv_inv := by
  intro σ hi n z w
  obtain ⟨h, H⟩ := hi.at
  by_cases c1 : 1 ≤ n
  · obtain ⟨n, hn, rfl⟩ := hI_of (Int32.le_trans (show (0 : Int32) ≤ 1 by decide) c1)
    by_cases c2 : hI n ≤ 20
    · have hn2 : n ≤ 20 := (hI_le (m := 20) hn (by decide)).mp c2
      rcases hv_rng_cases w (n := 2) (by decide) with c3 | ⟨k, hk, rfl, c3⟩
      · refine hv_qry hi H 2 (-2) (hv_refX (by decide) ?_) (fun τ T _ => ?_)
        · simp only [eq_X_seeds, g_X_seeds, c1, c2, hv_X_01, c3, Option.bind_some, ↓reduceIte, hv_10, hv_01, hI_00, hI_10, hv_X_r1, hv_X_r2, hv_X_r3, hv_X_r4, hv_X_r6, hv_M_r1, hv_M_r2, hv_M_r3, hv_M_r4, hv_M_r6]
        · refine hv_thr ?_
          rw [eq_M_seeds]; unfold g_M_seeds
          replace T := T.thrown
          generalize am_sI τ 66 22 0 = τ at T ⊢
          dsimp only
          refine hv_refM (by decide) ?_
          simp only [eq_M_seeds, g_M_seeds, eq_M_seeds_121, g_M_seeds_121, eq_M_seeds_29, g_M_seeds_29, eq_M_seeds_34, g_M_seeds_34, eq_M_seeds_36, g_M_seeds_36, eq_M_seeds_99, g_M_seeds_99, c1, c2, hv_M_01, c3, eq_M_wrongNumber, g_M_wrongNumber, Option.bind_some, ↓reduceIte, hv_10, hv_01, hI_00, hI_10, hv_X_r1, hv_X_r2, hv_X_r3, hv_X_r4, hv_X_r6, hv_M_r1, hv_M_r2, hv_M_r3, hv_M_r4, hv_M_r6, show ¬ ((0 : Int32) ≤ -2) by decide]
      · refine hv_qry hi H 0 (hv_yA h z n k) ⟨σ, ?_, hv_Sx.same _ _⟩ (fun τ T _ => ?_)
        · simp only [eq_X_seeds, g_X_seeds, c1, c2, hv_X_01, c3, hv_X_yrs H z (show n < 100 by omega) hk, Option.bind_some, ↓reduceIte, hv_10, hv_01, hI_00, hI_10, hv_X_r1, hv_X_r2, hv_X_r3, hv_X_r4, hv_X_r6, hv_M_r1, hv_M_r2, hv_M_r3, hv_M_r4, hv_M_r6]
        · refine hv_thr ?_
          rw [eq_M_seeds]; unfold g_M_seeds
          replace T := T.thrown
          generalize am_sI τ 66 22 0 = τ at T ⊢
          dsimp only
          have s1 : hv_Sm τ (am_sI τ 66 47 z) := (hv_Sm.rfl' τ).set _ rfl
          obtain ⟨υ, e, s2⟩ := hv_M_yrs (s1.at T) (hv_g1 τ 66 47 z) (show n < 100 by omega) hk
          refine ⟨υ, ?_, hv_Sx.of (s1.trans s2)⟩
          simp only [eq_M_seeds, g_M_seeds, eq_M_seeds_121, g_M_seeds_121, eq_M_seeds_29, g_M_seeds_29, eq_M_seeds_34, g_M_seeds_34, eq_M_seeds_36, g_M_seeds_36, eq_M_seeds_99, g_M_seeds_99, c1, c2, hv_M_01, c3, eq_M_wrongNumber, g_M_wrongNumber, show ((0 : Int32) ≤ 0) = True from eq_true (by decide), e, Option.bind_some, ↓reduceIte, hv_10, hv_01, hI_00, hI_10, hv_X_r1, hv_X_r2, hv_X_r3, hv_X_r4, hv_X_r6, hv_M_r1, hv_M_r2, hv_M_r3, hv_M_r4, hv_M_r6]
    · refine hv_qry hi H 6 (-6) (hv_refX (by decide) ?_) (fun τ T _ => ?_)
      · simp only [eq_X_seeds, g_X_seeds, c1, c2, Option.bind_some, ↓reduceIte, hv_10, hv_01, hI_00, hI_10, hv_X_r1, hv_X_r2, hv_X_r3, hv_X_r4, hv_X_r6, hv_M_r1, hv_M_r2, hv_M_r3, hv_M_r4, hv_M_r6]
      · refine hv_thr ?_
        rw [eq_M_seeds]; unfold g_M_seeds
        replace T := T.thrown
        generalize am_sI τ 66 22 0 = τ at T ⊢
        dsimp only
        refine hv_refM (by decide) ?_
        simp only [eq_M_seeds, g_M_seeds, eq_M_seeds_121, g_M_seeds_121, eq_M_seeds_29, g_M_seeds_29, eq_M_seeds_34, g_M_seeds_34, eq_M_seeds_36, g_M_seeds_36, eq_M_seeds_99, g_M_seeds_99, c1, c2, eq_M_wrongNumber, g_M_wrongNumber, Option.bind_some, ↓reduceIte, hv_10, hv_01, hI_00, hI_10, hv_X_r1, hv_X_r2, hv_X_r3, hv_X_r4, hv_X_r6, hv_M_r1, hv_M_r2, hv_M_r3, hv_M_r4, hv_M_r6, show ¬ ((-6 : Int32) = 0) by decide, show ¬ ((0 : Int32) ≤ -6) by decide]
  · refine hv_qry hi H 4 (-4) (hv_refX (by decide) ?_) (fun τ T _ => ?_)
    · simp only [eq_X_seeds, g_X_seeds, c1, Option.bind_some, ↓reduceIte, hv_10, hv_01, hI_00, hI_10, hv_X_r1, hv_X_r2, hv_X_r3, hv_X_r4, hv_X_r6, hv_M_r1, hv_M_r2, hv_M_r3, hv_M_r4, hv_M_r6]
    · refine hv_thr ?_
      rw [eq_M_seeds]; unfold g_M_seeds
      replace T := T.thrown
      generalize am_sI τ 66 22 0 = τ at T ⊢
      dsimp only
      refine hv_refM (by decide) ?_
      simp only [eq_M_seeds, g_M_seeds, eq_M_seeds_121, g_M_seeds_121, eq_M_seeds_29, g_M_seeds_29, eq_M_seeds_34, g_M_seeds_34, eq_M_seeds_36, g_M_seeds_36, eq_M_seeds_99, g_M_seeds_99, c1, eq_M_wrongNumber, g_M_wrongNumber, Option.bind_some, ↓reduceIte, hv_10, hv_01, hI_00, hI_10, hv_X_r1, hv_X_r2, hv_X_r3, hv_X_r4, hv_X_r6, hv_M_r1, hv_M_r2, hv_M_r3, hv_M_r4, hv_M_r6, show ¬ ((-4 : Int32) = 0) by decide, show ¬ ((0 : Int32) ≤ -4) by decide]
