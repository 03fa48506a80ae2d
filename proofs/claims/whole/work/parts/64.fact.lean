/-! PURE: fact -/
theorem hv_chgR {α : Type} {h g : hv} {σ : am_St} (hi : hv_inv σ) (H : hv_at h σ) (ok : hv_ok g) (so : hv_some g) {X Y : am_St → Option (α × am_St)} (k : Nat) (v : α) (h1 : ∃ τ, X σ = some (v, am_sI τ 65 k (τ.1 65 k + 1)) ∧ hv_dev 1 g τ ∧ hv_Fd σ τ) (h2 : ∀ τ, hv_mod h τ → ∃ υ, Y τ = some (v, am_sI υ 82 k (υ.1 82 k + 1)) ∧ hv_mod g υ ∧ hv_Fm τ υ) : ∃ r τ1 τ2, X σ = some (r, τ1) ∧ Y τ1 = some (r, τ2) ∧ hv_inv τ2 := by
  obtain ⟨τ, e1, d, F1⟩ := h1
  have m1 : hv_mod h (am_sI τ 65 k (τ.1 65 k + 1)) := (F1.mod H.m).frame (fun k hk => by rw [hv_g2 _ (by decide)]) (fun i k a b => by rw [hv_g2 _ (by omega)])
  obtain ⟨υ, e2, m, F2⟩ := h2 _ m1
  refine ⟨v, _, _, e1, e2, ?_⟩
  have F : ∀ i j, hv_scr i j = false → hv_hd i = false → hv_hm i j = false → i ≠ 65 → i ≠ 82 → (am_sI υ 82 k (υ.1 82 k + 1)).1 i j = σ.1 i j := fun i j a b c q1 q2 => by rw [hv_g2 _ q2, F2 i j a c, hv_g2 _ q1, F1 i j a b]
  obtain ⟨-, im, ⟨n, hn, l1, l2, l3⟩, ⟨q, hq, r1, r2, r3⟩, rf⟩ := hi
  refine ⟨⟨g, ok, so, d.frame fun i j a b => ?_, m.frame (fun k hk => by rw [hv_g2 _ (by decide)]) (fun i k a b => by rw [hv_g2 _ (by omega)])⟩, ?_, ⟨n, hn, (F 35 1 rfl rfl rfl (by decide) (by decide)).trans l1, (F 66 28 rfl rfl rfl (by decide) (by decide)).trans l2, fun i hi => ?_⟩, ⟨q, hq, (F 0 7 rfl rfl rfl (by decide) (by decide)).trans r1, (F 66 46 rfl rfl rfl (by decide) (by decide)).trans r2, fun i hi => ?_⟩, fun i hi => ?_⟩
  · have hz : hv_hm i j = false := by
      have e : i = 1 ∨ i = 2 ∨ i = 3 ∨ i = 4 ∨ i = 5 ∨ i = 6 ∨ i = 7 ∨ i = 8 ∨ i = 9 ∨ i = 10 := by omega
      rcases e with rfl | rfl | rfl | rfl | rfl | rfl | rfl | rfl | rfl | rfl <;> rfl
    rw [hv_g2 _ (by omega), F2 i j (hv_scr_dev (.inl rfl) a b) hz, hv_g2 _ (by omega)]
  · rw [F 0 2 rfl rfl rfl (by decide) (by decide), F 66 38 rfl rfl rfl (by decide) (by decide)]
    rcases im with im | ⟨i1, i2, g', g1, g2, g3, g4⟩
    · exact .inl im
    · refine .inr ⟨i1, i2, g', g1, g2, g3.frame fun i j b1 b2 => ?_, g4.frame fun j => F 91 j rfl rfl rfl (by decide) (by decide)⟩
      have e : i = 18 ∨ i = 19 ∨ i = 20 ∨ i = 21 ∨ i = 22 ∨ i = 23 ∨ i = 24 ∨ i = 25 ∨ i = 26 ∨ i = 27 := by omega
      rcases e with rfl | rfl | rfl | rfl | rfl | rfl | rfl | rfl | rfl | rfl <;> exact F _ j rfl rfl rfl (by decide) (by decide)
  · rw [F 36 i rfl rfl rfl (by decide) (by decide), F 86 i rfl rfl rfl (by decide) (by decide)]; exact l3 i hi
  · rw [F 64 i rfl rfl rfl (by decide) (by decide), F 94 i rfl rfl rfl (by decide) (by decide)]; exact r3 i hi
  · have s82 := hv_scr_mod (i := 82) (k := i) (by decide) (by decide)
    have s82k := hv_scr_mod (i := 82) (k := k) (by decide) (by decide)
    rw [hv_g2 _ (show (65 : Nat) ≠ 82 by decide), F2 65 i rfl rfl]
    have a82 : ∀ j, υ.1 82 j = σ.1 82 j := fun j => by rw [F2 82 j (hv_scr_mod (by decide) (by decide)) rfl, hv_g2 _ (by decide), F1 82 j (hv_scr_mod (by decide) (by decide)) rfl]
    have a65 : ∀ j, τ.1 65 j = σ.1 65 j := fun j => F1 65 j rfl rfl
    by_cases c : i = k
    · subst c
      rw [hv_g1, hv_g1, a82, a65, rf i hi]
    · rw [hv_g3 _ _ c, hv_g3 _ _ c, a82, a65, rf i hi]
def hv_addF (h : hv) (c m r x : Nat) : hv := hv.mk h.R h.M h.C h.dr h.dm (h.F + 1) h.S h.door h.kind h.fig h.tie h.skill h.place h.chance (fun i => if i = h.F then c else h.fc i) (fun i => if i = h.F then m else h.fm i) (fun i => if i = h.F then r else h.fr i) (fun i => if i = h.F then x else h.fi i) h.sp h.sc h.sm h.sr
theorem hv_addF_ok {h : hv} (ok : hv_ok h) {c m r x : Nat} (hF : h.F < 16) (hc : c < h.C) (hm : m < h.M) (hr : r < h.R) (hx : x < 2) : hv_ok (hv_addF h c m r x) := hv_ok.mk (fR := ok.R) (fM := ok.M) (fC := ok.C) (fdr := ok.dr) (fdm := ok.dm) (fF := hF) (fS := ok.S) (fdoor := ok.door) (fsym := ok.sym) (fkind := ok.kind) (fplace := ok.place) (fchance := ok.chance) (ffact := fun i hi => by
  show (if i = h.F then c else h.fc i) < h.C ∧ (if i = h.F then m else h.fm i) < h.M ∧ (if i = h.F then r else h.fr i) < h.R ∧ (if i = h.F then x else h.fi i) < 2
  by_cases q : i = h.F
  · rw [if_pos q, if_pos q, if_pos q, if_pos q]; exact ⟨hc, hm, hr, hx⟩
  · rw [if_neg q, if_neg q, if_neg q, if_neg q]; exact ok.fact i (by have : i < h.F + 1 := hi; omega)) (fsay := ok.say)
theorem hv_addF_may {h : hv} (c m r x : Nat) {d : Nat} (hd : d ≠ c) : hv_may (hv_addF h c m r x) d = hv_may h d := by
  funext j q
  show hv_mayN (hv_addF h c m r x) d (h.F + 1) j q = hv_mayN h d h.F j q
  rw [hv_mayN_other (fun e => hd (e.1.symm.trans (show (hv_addF h c m r x).fc h.F = c from if_pos rfl)))]
  unfold hv_mayN
  refine Bool.eq_iff_iff.mpr ?_
  rw [List.all_eq_true, List.all_eq_true]
  have e : ∀ i, i ∈ List.range h.F → (!((if i = h.F then c else h.fc i) == d && (if i = h.F then m else h.fm i) == j) || (if (if i = h.F then x else h.fi i) = 1 then (if i = h.F then r else h.fr i) == q else (if i = h.F then r else h.fr i) != q)) = (!(h.fc i == d && h.fm i == j) || (if h.fi i = 1 then h.fr i == q else h.fr i != q)) := fun i hi => by
    have : i ≠ h.F := by have := List.mem_range.mp hi; omega
    rw [if_neg this, if_neg this, if_neg this, if_neg this]
  exact ⟨fun w i hi => by rw [← e i hi]; exact w i hi, fun w i hi => by have := w i hi; rw [← e i hi] at this; exact this⟩
theorem hv_addF_all (h : hv) (c m r x : Nat) (may : Nat → Nat → Bool) : hv_all (hv_addF h c m r x) may = hv_all h may := by
  rw [hv_all_eq, hv_all_eq]
  exact hv_sum_congr fun q _ => hv_cnt_same (g := hv_addF h c m r x) (h := h) _ rfl rfl _ q
theorem hv_addF_some {h : hv} (so : hv_some h) {c m r x : Nat} (w : 0 < hv_all (hv_addF h c m r x) (hv_may (hv_addF h c m r x) c)) : hv_some (hv_addF h c m r x) := by
  intro d hd
  by_cases q : d = c
  · rw [q]; exact w
  · rw [hv_addF_may c m r x q, hv_addF_all]; exact so d hd
theorem hv_addF_dev_1 {h : hv} {σ : am_St} (d : hv_dev 1 h σ) (c m r x : Nat) : hv_dev 1 (hv_addF h c m r x) (am_sI (am_sI σ 9 h.F (hI (hv_mark c m r x))) 1 5 (hI (h.F + 1))) := by
  have G : ∀ i j, i ≠ 9 ∧ (i = 1 → j ≠ 5) → (am_sI (am_sI σ 9 h.F (hI (hv_mark c m r x))) 1 5 (hI (h.F + 1))).1 i j = σ.1 i j := fun i j ⟨e, e2⟩ => by
    by_cases q : i = 1
    · subst q; rw [hv_g3 _ _ (e2 rfl), hv_g2 _ e]
    · rw [hv_g2 _ q, hv_g2 _ e]
  exact hv_dev.mk (fR := (G _ _ (by omega)).trans d.R) (fM := (G _ _ (by omega)).trans d.M) (fC := (G _ _ (by omega)).trans d.C) (fdr := (G _ _ (by omega)).trans d.dr) (fdm := (G _ _ (by omega)).trans d.dm) (fF := by rw [hv_g1]; rfl) (fS := (G _ _ (by omega)).trans d.S) (fdoor := fun r hr => (G _ _ (by omega)).trans (d.door r hr)) (fkind := fun r hr => (G _ _ (by omega)).trans (d.kind r hr)) (ffig := fun r hr => (G _ _ (by omega)).trans (d.fig r hr)) (ftie := fun r hr => (G _ _ (by omega)).trans (d.tie r hr)) (fskill := fun r hr => (G _ _ (by omega)).trans (d.skill r hr)) (fplace := fun r hr k hk => (G _ _ (by omega)).trans (d.place r hr k hk)) (fchance := fun r hr => (G _ _ (by omega)).trans (d.chance r hr)) (ffact := fun i hi => by
    show (am_sI (am_sI σ 9 h.F (hI (hv_mark c m r x))) 1 5 (hI (h.F + 1))).1 9 i = hI (hv_mark (if i = h.F then c else h.fc i) (if i = h.F then m else h.fm i) (if i = h.F then r else h.fr i) (if i = h.F then x else h.fi i))
    rw [hv_g2 _ (show (9 : Nat) ≠ 1 by decide)]
    by_cases q : i = h.F
    · rw [if_pos q, if_pos q, if_pos q, if_pos q, q, hv_g1]
    · rw [if_neg q, if_neg q, if_neg q, if_neg q, hv_g3 _ _ q]; exact d.fact i (by have : i < h.F + 1 := hi; omega)) (fsay := fun r hr => (G _ _ (by omega)).trans (d.say r hr))
theorem hv_addFact_1 {h : hv} {σ : am_St} (d : hv_dev 1 h σ) (ok : hv_ok h) {c m r x : Nat} (hF : h.F < 16) (hc : c < h.C) (hm : m < h.M) (hr : r < h.R) (hx : x < 2) : f_H_addFact_1 (hI c) (hI m) (hI r) (hI x) σ = some (1, am_sI (am_sI σ 9 h.F (hI (hv_mark c m r x))) 1 5 (hI (h.F + 1))) := by
  have k1 := ok.C
  have k2 := ok.M
  have k3 := ok.R
  have D : σ.1 1 5 = hI h.F := d.F
  rw [eq_H_addFact_1]; unfold g_H_addFact_1
  rw [D, if_neg (hI_lt0 (by omega)), if_pos (show hI h.F < 16 from (hI_lt (m := 16) (by omega) (by decide)).mpr hF), hv_H_mark (by omega) (by omega) (by omega) (by omega)]
  simp only [Option.bind_some]
  rw [if_pos (hI_ix hF (by decide)), hI_clamp (by omega), hv_g2 _ (show (1 : Nat) ≠ 9 by decide), D, hI_add1]
theorem hv_addF_dev_37 {h : hv} {σ : am_St} (d : hv_dev 37 h σ) (c m r x : Nat) : hv_dev 37 (hv_addF h c m r x) (am_sI (am_sI σ 45 h.F (hI (hv_mark c m r x))) 37 5 (hI (h.F + 1))) := by
  have G : ∀ i j, i ≠ 45 ∧ (i = 37 → j ≠ 5) → (am_sI (am_sI σ 45 h.F (hI (hv_mark c m r x))) 37 5 (hI (h.F + 1))).1 i j = σ.1 i j := fun i j ⟨e, e2⟩ => by
    by_cases q : i = 37
    · subst q; rw [hv_g3 _ _ (e2 rfl), hv_g2 _ e]
    · rw [hv_g2 _ q, hv_g2 _ e]
  exact hv_dev.mk (fR := (G _ _ (by omega)).trans d.R) (fM := (G _ _ (by omega)).trans d.M) (fC := (G _ _ (by omega)).trans d.C) (fdr := (G _ _ (by omega)).trans d.dr) (fdm := (G _ _ (by omega)).trans d.dm) (fF := by rw [hv_g1]; rfl) (fS := (G _ _ (by omega)).trans d.S) (fdoor := fun r hr => (G _ _ (by omega)).trans (d.door r hr)) (fkind := fun r hr => (G _ _ (by omega)).trans (d.kind r hr)) (ffig := fun r hr => (G _ _ (by omega)).trans (d.fig r hr)) (ftie := fun r hr => (G _ _ (by omega)).trans (d.tie r hr)) (fskill := fun r hr => (G _ _ (by omega)).trans (d.skill r hr)) (fplace := fun r hr k hk => (G _ _ (by omega)).trans (d.place r hr k hk)) (fchance := fun r hr => (G _ _ (by omega)).trans (d.chance r hr)) (ffact := fun i hi => by
    show (am_sI (am_sI σ 45 h.F (hI (hv_mark c m r x))) 37 5 (hI (h.F + 1))).1 45 i = hI (hv_mark (if i = h.F then c else h.fc i) (if i = h.F then m else h.fm i) (if i = h.F then r else h.fr i) (if i = h.F then x else h.fi i))
    rw [hv_g2 _ (show (45 : Nat) ≠ 37 by decide)]
    by_cases q : i = h.F
    · rw [if_pos q, if_pos q, if_pos q, if_pos q, q, hv_g1]
    · rw [if_neg q, if_neg q, if_neg q, if_neg q, hv_g3 _ _ q]; exact d.fact i (by have : i < h.F + 1 := hi; omega)) (fsay := fun r hr => (G _ _ (by omega)).trans (d.say r hr))
theorem hv_addFact_37 {h : hv} {σ : am_St} (d : hv_dev 37 h σ) (ok : hv_ok h) {c m r x : Nat} (hF : h.F < 16) (hc : c < h.C) (hm : m < h.M) (hr : r < h.R) (hx : x < 2) : f_H_addFact_37 (hI c) (hI m) (hI r) (hI x) σ = some (1, am_sI (am_sI σ 45 h.F (hI (hv_mark c m r x))) 37 5 (hI (h.F + 1))) := by
  have k1 := ok.C
  have k2 := ok.M
  have k3 := ok.R
  have D : σ.1 37 5 = hI h.F := d.F
  rw [eq_H_addFact_37]; unfold g_H_addFact_37
  rw [D, if_neg (hI_lt0 (by omega)), if_pos (show hI h.F < 16 from (hI_lt (m := 16) (by omega) (by decide)).mpr hF), hv_H_mark (by omega) (by omega) (by omega) (by omega)]
  simp only [Option.bind_some]
  rw [if_pos (hI_ix hF (by decide)), hI_clamp (by omega), hv_g2 _ (show (37 : Nat) ≠ 45 by decide), D, hI_add1]
def hv_addF_st (σ : am_St) (F c m r x : Nat) : am_St := am_sI (am_sI (am_sI (am_sI (am_sI σ 73 F (hI c)) 74 F (hI m)) 75 F (hI r)) 76 F (hI x)) 66 3 (hI (F + 1))
theorem hv_addF_mod {h : hv} {σ : am_St} (d : hv_mod h σ) (c m r x : Nat) : hv_mod (hv_addF h c m r x) (hv_addF_st σ h.F c m r x) := by
  have G : ∀ i j, i ≠ 73 ∧ i ≠ 74 ∧ i ≠ 75 ∧ i ≠ 76 ∧ (i = 66 → j ≠ 3) → (hv_addF_st σ h.F c m r x).1 i j = σ.1 i j := fun i j ⟨e1, e2, e3, e4, e5⟩ => by
    unfold hv_addF_st
    by_cases q : i = 66
    · subst q; rw [hv_g3 _ _ (e5 rfl), hv_g2 _ e4, hv_g2 _ e3, hv_g2 _ e2, hv_g2 _ e1]
    · rw [hv_g2 _ q, hv_g2 _ e4, hv_g2 _ e3, hv_g2 _ e2, hv_g2 _ e1]
  refine hv_mod.mk (fR := (G _ _ (by omega)).trans d.R) (fM := (G _ _ (by omega)).trans d.M) (fC := (G _ _ (by omega)).trans d.C) (fF := by unfold hv_addF_st; rw [hv_g1]; rfl) (fS := (G _ _ (by omega)).trans d.S) (fdr := (G _ _ (by omega)).trans d.dr) (fdm := (G _ _ (by omega)).trans d.dm) (fdoor := fun r hr => (G _ _ (by omega)).trans (d.door r hr)) (fkind := fun r hr => (G _ _ (by omega)).trans (d.kind r hr)) (ffig := fun r hr => (G _ _ (by omega)).trans (d.fig r hr)) (ftie := fun r hr => (G _ _ (by omega)).trans (d.tie r hr)) (fskill := fun r hr => (G _ _ (by omega)).trans (d.skill r hr)) (fplace := fun r hr k hk => (G _ _ (by omega)).trans (d.place r hr k hk)) (fchance := fun r hr => (G _ _ (by omega)).trans (d.chance r hr)) (ffc := fun i hi => ?_) (ffm := fun i hi => ?_) (ffr := fun i hi => ?_) (ffi := fun i hi => ?_) (fsp := fun r hr => (G _ _ (by omega)).trans (d.sp r hr)) (fsc := fun r hr => (G _ _ (by omega)).trans (d.sc r hr)) (fsm := fun r hr => (G _ _ (by omega)).trans (d.sm r hr)) (fsr := fun r hr => (G _ _ (by omega)).trans (d.sr r hr))
  · show (hv_addF_st σ h.F c m r x).1 73 i = hI (if i = h.F then c else h.fc i)
    unfold hv_addF_st
    rw [hv_g2 _ (show (73 : Nat) ≠ 66 by decide), hv_g2 _ (show (73 : Nat) ≠ 76 by decide), hv_g2 _ (show (73 : Nat) ≠ 75 by decide), hv_g2 _ (show (73 : Nat) ≠ 74 by decide)]
    by_cases q : i = h.F
    · rw [if_pos q, q, hv_g1]
    · rw [if_neg q, hv_g3 _ _ q]; exact d.fc i (by have : i < h.F + 1 := hi; omega)
  · show (hv_addF_st σ h.F c m r x).1 74 i = hI (if i = h.F then m else h.fm i)
    unfold hv_addF_st
    rw [hv_g2 _ (show (74 : Nat) ≠ 66 by decide), hv_g2 _ (show (74 : Nat) ≠ 76 by decide), hv_g2 _ (show (74 : Nat) ≠ 75 by decide)]
    by_cases q : i = h.F
    · rw [if_pos q, q, hv_g1]
    · rw [if_neg q, hv_g3 _ _ q, hv_g2 _ (show (74 : Nat) ≠ 73 by decide)]; exact d.fm i (by have : i < h.F + 1 := hi; omega)
  · show (hv_addF_st σ h.F c m r x).1 75 i = hI (if i = h.F then r else h.fr i)
    unfold hv_addF_st
    rw [hv_g2 _ (show (75 : Nat) ≠ 66 by decide), hv_g2 _ (show (75 : Nat) ≠ 76 by decide)]
    by_cases q : i = h.F
    · rw [if_pos q, q, hv_g1]
    · rw [if_neg q, hv_g3 _ _ q, hv_g2 _ (show (75 : Nat) ≠ 74 by decide), hv_g2 _ (show (75 : Nat) ≠ 73 by decide)]; exact d.fr i (by have : i < h.F + 1 := hi; omega)
  · show (hv_addF_st σ h.F c m r x).1 76 i = hI (if i = h.F then x else h.fi i)
    unfold hv_addF_st
    rw [hv_g2 _ (show (76 : Nat) ≠ 66 by decide)]
    by_cases q : i = h.F
    · rw [if_pos q, q, hv_g1]
    · rw [if_neg q, hv_g3 _ _ q, hv_g2 _ (show (76 : Nat) ≠ 75 by decide), hv_g2 _ (show (76 : Nat) ≠ 74 by decide), hv_g2 _ (show (76 : Nat) ≠ 73 by decide)]; exact d.fi i (by have : i < h.F + 1 := hi; omega)
theorem hv_addF_Fm {σ τ : am_St} (f : hv_Fm σ τ) (F c m r x : Nat) : hv_Fm σ (hv_addF_st τ F c m r x) := ((((f.set _ (.inr rfl)).set _ (.inr rfl)).set _ (.inr rfl)).set _ (.inr rfl)).set _ (.inr rfl)
theorem hv_Fm.pm {σ τ υ : am_St} (f : hv_Fm σ τ) (g : hv_fr hv_pm τ υ) : hv_Fm σ υ := fun i j a b => by
  rw [g.2 i (by
    cases c : hv_pm i
    · rfl
    · rw [hv_pm_scr i c j] at a; cases a)]
  exact f i j a b
theorem hv_M_factComes {h : hv} {σ : am_St} (d : hv_mod h σ) (ok : hv_ok h) {c m r x : Nat} (hF : h.F < 16) (hc : c < h.C) (hm : m < h.M) (hr : r < h.R) (hx : x < 2) : ∃ τ, f_M_factComes (hI c) (hI m) (hI r) (hI x) σ = some (if 0 < hv_all (hv_addF h c m r x) (hv_may (hv_addF h c m r x) c) then 1 else 0, τ) ∧ hv_fr hv_pm (hv_addF_st σ h.F c m r x) τ := by
  have k1 := ok.C
  have k2 := ok.M
  have k3 := ok.R
  have ok2 := hv_addF_ok ok hF hc hm hr hx
  have ix : am_ix (hI h.F) 17 = true := hI_ix (by omega) (by decide)
  have cl : (hI h.F).toNatClampNeg = h.F := hI_clamp (by omega)
  have kb := hv_all_big ok2 (hv_may (hv_addF h c m r x) c)
  obtain ⟨τ, e, f⟩ := hv_M_waysOf (hv_addF_mod d c m r x) ok2 c (by omega)
  refine ⟨τ, ?_, f⟩
  rw [eq_M_factComes]; unfold g_M_factComes
  rw [d.isChild ok, hv_rng_lt (by omega) hc]
  simp only [Option.bind_some, hv_10, ↓reduceIte]
  rw [d.isMinute ok, hv_rng_lt (by omega) hm]
  simp only [Option.bind_some, hv_10, ↓reduceIte]
  rw [d.isRoom ok, hv_rng_lt (by omega) hr]
  simp only [Option.bind_some, hv_10, ↓reduceIte]
  rw [eq_M_factComes_24]; unfold g_M_factComes_24
  rw [d.F, if_neg (hI_ne16 (by omega) (by omega)), if_pos ix, cl]
  dsimp only
  rw [hv_g2 _ (show (66 : Nat) ≠ 73 by decide), d.F, if_pos ix, cl, hv_g2 _ (show (66 : Nat) ≠ 74 by decide), hv_g2 _ (show (66 : Nat) ≠ 73 by decide), d.F, if_pos ix, cl, hv_g2 _ (show (66 : Nat) ≠ 75 by decide), hv_g2 _ (show (66 : Nat) ≠ 74 by decide), hv_g2 _ (show (66 : Nat) ≠ 73 by decide), d.F, if_pos ix, cl, eq_M_factComes_76]
  unfold g_M_factComes_76
  dsimp only
  rw [hv_g2 _ (show (66 : Nat) ≠ 76 by decide), hv_g2 _ (show (66 : Nat) ≠ 75 by decide), hv_g2 _ (show (66 : Nat) ≠ 74 by decide), hv_g2 _ (show (66 : Nat) ≠ 73 by decide), d.F, hI_add1]
  rw [show f_M_waysOf (hI c) (am_sI (am_sI (am_sI (am_sI (am_sI σ 73 h.F (hI c)) 74 h.F (hI m)) 75 h.F (hI r)) 76 h.F (hI x)) 66 3 (hI (h.F + 1))) = _ from e]
  simp only [Option.bind_some]
  by_cases q : 0 < hv_all (hv_addF h c m r x) (hv_may (hv_addF h c m r x) c)
  · rw [if_pos q, if_neg (hI_le0 (by omega) q)]
  · rw [if_neg q, show hv_all (hv_addF h c m r x) (hv_may (hv_addF h c m r x) c) = 0 by omega, if_pos (by decide)]
theorem hv_Fd.pw {σ τ υ : am_St} (f : hv_Fd σ τ) (g : hv_fr hv_pw τ υ) : hv_Fd σ υ := fun i j a b => by
  rw [g.2 i (by
    cases c : hv_pw i
    · rfl
    · rw [hv_pw_scr i c j] at a; cases a)]
  exact f i j a b
theorem hv_st_fact : st_fact hv_inv := by
  intro σ hi c m r x
  obtain ⟨h, H⟩ := hi.at
  have kC := H.ok.C
  have kR := H.ok.R
  have kM := H.ok.M
  have kF := H.ok.F
  have D1 : σ.1 1 5 = hI h.F := H.d.F
  rcases hv_rng_cases c H.C31 with c2 | ⟨c, hc, rfl, c2⟩
  · refine hv_qry hi H 1 (-1) (hv_refX (by decide) ?_) (fun τ T _ => ?_)
    · simp only [eq_X_fact, g_X_fact, eq_X_fact_102, g_X_fact_102, eq_X_fact_20, g_X_fact_20, eq_X_fact_34, g_X_fact_34, eq_X_fact_41, g_X_fact_41, eq_X_fact_88, g_X_fact_88, hv_X_point H, c2, Option.bind_some, ↓reduceIte, hv_10, hv_01, hI_00, hI_10, hv_X_r1, hv_X_r2, hv_X_r3, hv_X_r4, hv_X_r6, hv_M_r1, hv_M_r2, hv_M_r3, hv_M_r4, hv_M_r6]
    · refine hv_thr ?_
      rw [eq_M_fact]; unfold g_M_fact
      replace T := T.thrown
      generalize am_sI τ 66 22 0 = τ at T ⊢
      dsimp only
      refine hv_refM (by decide) ?_
      simp only [eq_M_fact, g_M_fact, eq_M_fact_21, g_M_fact_21, eq_M_fact_29, g_M_fact_29, eq_M_fact_62, g_M_fact_62, eq_M_fact_69, g_M_fact_69, T.isChild, c2, Option.bind_some, ↓reduceIte, hv_10, hv_01, hI_00, hI_10, hv_X_r1, hv_X_r2, hv_X_r3, hv_X_r4, hv_X_r6, hv_M_r1, hv_M_r2, hv_M_r3, hv_M_r4, hv_M_r6]
  rcases hv_rng_cases m H.M31 with c3 | ⟨m, hm, rfl, c3⟩
  · refine hv_qry hi H 1 (-1) (hv_refX (by decide) ?_) (fun τ T _ => ?_)
    · simp only [eq_X_fact, g_X_fact, eq_X_fact_102, g_X_fact_102, eq_X_fact_20, g_X_fact_20, eq_X_fact_34, g_X_fact_34, eq_X_fact_41, g_X_fact_41, eq_X_fact_88, g_X_fact_88, hv_X_point H, c2, c3, Option.bind_some, ↓reduceIte, hv_10, hv_01, hI_00, hI_10, hv_X_r1, hv_X_r2, hv_X_r3, hv_X_r4, hv_X_r6, hv_M_r1, hv_M_r2, hv_M_r3, hv_M_r4, hv_M_r6]
    · refine hv_thr ?_
      rw [eq_M_fact]; unfold g_M_fact
      replace T := T.thrown
      generalize am_sI τ 66 22 0 = τ at T ⊢
      dsimp only
      refine hv_refM (by decide) ?_
      simp only [eq_M_fact, g_M_fact, eq_M_fact_21, g_M_fact_21, eq_M_fact_29, g_M_fact_29, eq_M_fact_62, g_M_fact_62, eq_M_fact_69, g_M_fact_69, T.isChild, T.isMinute, c2, c3, Option.bind_some, ↓reduceIte, hv_10, hv_01, hI_00, hI_10, hv_X_r1, hv_X_r2, hv_X_r3, hv_X_r4, hv_X_r6, hv_M_r1, hv_M_r2, hv_M_r3, hv_M_r4, hv_M_r6]
  rcases hv_rng_cases r H.R31 with c4 | ⟨r, hr, rfl, c4⟩
  · refine hv_qry hi H 1 (-1) (hv_refX (by decide) ?_) (fun τ T _ => ?_)
    · simp only [eq_X_fact, g_X_fact, eq_X_fact_102, g_X_fact_102, eq_X_fact_20, g_X_fact_20, eq_X_fact_34, g_X_fact_34, eq_X_fact_41, g_X_fact_41, eq_X_fact_88, g_X_fact_88, hv_X_point H, H.hasRoom, c2, c3, c4, Option.bind_some, ↓reduceIte, hv_10, hv_01, hI_00, hI_10, hv_X_r1, hv_X_r2, hv_X_r3, hv_X_r4, hv_X_r6, hv_M_r1, hv_M_r2, hv_M_r3, hv_M_r4, hv_M_r6]
    · refine hv_thr ?_
      rw [eq_M_fact]; unfold g_M_fact
      replace T := T.thrown
      generalize am_sI τ 66 22 0 = τ at T ⊢
      dsimp only
      refine hv_refM (by decide) ?_
      simp only [eq_M_fact, g_M_fact, eq_M_fact_21, g_M_fact_21, eq_M_fact_29, g_M_fact_29, eq_M_fact_62, g_M_fact_62, eq_M_fact_69, g_M_fact_69, T.isChild, T.isMinute, T.isRoom, c2, c3, c4, Option.bind_some, ↓reduceIte, hv_10, hv_01, hI_00, hI_10, hv_X_r1, hv_X_r2, hv_X_r3, hv_X_r4, hv_X_r6, hv_M_r1, hv_M_r2, hv_M_r3, hv_M_r4, hv_M_r6]
  rcases hv_rng_cases x (n := 2) (by decide) with c5 | ⟨x, hx, rfl, c5⟩
  · refine hv_qry hi H 2 (-2) (hv_refX (by decide) ?_) (fun τ T _ => ?_)
    · simp only [eq_X_fact, g_X_fact, eq_X_fact_102, g_X_fact_102, eq_X_fact_20, g_X_fact_20, eq_X_fact_34, g_X_fact_34, eq_X_fact_41, g_X_fact_41, eq_X_fact_88, g_X_fact_88, hv_X_point H, H.hasRoom, hv_X_01, c2, c3, c4, c5, Option.bind_some, ↓reduceIte, hv_10, hv_01, hI_00, hI_10, hv_X_r1, hv_X_r2, hv_X_r3, hv_X_r4, hv_X_r6, hv_M_r1, hv_M_r2, hv_M_r3, hv_M_r4, hv_M_r6]
    · refine hv_thr ?_
      rw [eq_M_fact]; unfold g_M_fact
      replace T := T.thrown
      generalize am_sI τ 66 22 0 = τ at T ⊢
      dsimp only
      refine hv_refM (by decide) ?_
      simp only [eq_M_fact, g_M_fact, eq_M_fact_21, g_M_fact_21, eq_M_fact_29, g_M_fact_29, eq_M_fact_62, g_M_fact_62, eq_M_fact_69, g_M_fact_69, T.isChild, T.isMinute, T.isRoom, hv_M_01, c2, c3, c4, c5, Option.bind_some, ↓reduceIte, hv_10, hv_01, hI_00, hI_10, hv_X_r1, hv_X_r2, hv_X_r3, hv_X_r4, hv_X_r6, hv_M_r1, hv_M_r2, hv_M_r3, hv_M_r4, hv_M_r6]
  by_cases f : h.F = 16
  · refine hv_qry hi H 6 (-6) (hv_refX (by decide) ?_) (fun τ T _ => ?_)
    · have n16 : ¬ hI h.F < 16 := hI_nlt (m := 16) (by omega) (by decide) (by omega)
      simp only [eq_X_fact, g_X_fact, eq_X_fact_102, g_X_fact_102, eq_X_fact_20, g_X_fact_20, eq_X_fact_34, g_X_fact_34, eq_X_fact_41, g_X_fact_41, eq_X_fact_88, g_X_fact_88, hv_X_point H, H.hasRoom, hv_X_01, c2, c3, c4, c5, D1, n16, Option.bind_some, ↓reduceIte, hv_10, hv_01, hI_00, hI_10, hv_X_r1, hv_X_r2, hv_X_r3, hv_X_r4, hv_X_r6, hv_M_r1, hv_M_r2, hv_M_r3, hv_M_r4, hv_M_r6]
    · refine hv_thr ?_
      rw [eq_M_fact]; unfold g_M_fact
      replace T := T.thrown
      generalize am_sI τ 66 22 0 = τ at T ⊢
      dsimp only
      refine hv_refM (by decide) ?_
      simp only [eq_M_fact, g_M_fact, eq_M_fact_21, g_M_fact_21, eq_M_fact_29, g_M_fact_29, eq_M_fact_62, g_M_fact_62, eq_M_fact_69, g_M_fact_69, T.isChild, T.isMinute, T.isRoom, hv_M_01, c2, c3, c4, c5, show τ.1 66 3 = 16 by rw [T.m.F, f]; rfl, Option.bind_some, ↓reduceIte, hv_10, hv_01, hI_00, hI_10, hv_X_r1, hv_X_r2, hv_X_r3, hv_X_r4, hv_X_r6, hv_M_r1, hv_M_r2, hv_M_r3, hv_M_r4, hv_M_r6]
  have hF : h.F < 16 := by omega
  have n16 : hI h.F < 16 := (hI_lt (m := 16) (by omega) (by decide)).mpr hF
  have n16' : ¬ hI h.F = 16 := hI_ne16 (by omega) f
  have ok2 := hv_addF_ok H.ok hF hc hm hr hx
  have Fd0 : hv_Fd σ (am_sI (am_sI σ 9 h.F (hI (hv_mark c m r x))) 1 5 (hI (h.F + 1))) := ((hv_Fd.rfl' σ).set _ (.inr rfl)).set _ (.inr rfl)
  obtain ⟨υ, e, fr⟩ := hv_W_some_1 (hv_addF_dev_1 H.d c m r x) ok2 c (by omega)
  have d2 := fr.dev (by decide) (hv_addF_dev_1 H.d c m r x)
  have AF := hv_addFact_1 H.d H.ok hF hc hm hr hx
  by_cases w : 0 < hv_all (hv_addF h c m r x) (hv_may (hv_addF h c m r x) c)
  · refine hv_chg hi ok2 (hv_addF_some H.so w) (hI (h.F + 1)) ⟨υ, ?_, d2, Fd0.pw fr⟩ (fun τ F => ?_)
    · rw [if_pos w] at e
      simp only [eq_X_fact, g_X_fact, eq_X_fact_102, g_X_fact_102, eq_X_fact_20, g_X_fact_20, eq_X_fact_34, g_X_fact_34, eq_X_fact_41, g_X_fact_41, eq_X_fact_88, g_X_fact_88, hv_X_point H, H.hasRoom, hv_X_01, c2, c3, c4, c5, D1, n16, AF, e, Option.bind_some, ↓reduceIte, hv_10, hv_01, hI_00, hI_10, hv_X_r1, hv_X_r2, hv_X_r3, hv_X_r4, hv_X_r6, hv_M_r1, hv_M_r2, hv_M_r3, hv_M_r4, hv_M_r6]
      rw [show υ.1 1 5 = hI (h.F + 1) from d2.F]
    · have m1 := (hv_Fd.mod F H.m).thrown
      obtain ⟨ω, e3, f3⟩ := hv_M_factComes m1 H.ok hF hc hm hr hx
      rw [if_pos w] at e3
      have m2 := f3.mod (hv_addF_mod m1 c m r x)
      refine ⟨ω, ?_, m2, (hv_addF_Fm ((hv_Fm.rfl' τ).set _ (.inl rfl)) h.F c m r x).pm f3⟩
      simp only [eq_M_fact, g_M_fact, eq_M_fact_21, g_M_fact_21, eq_M_fact_29, g_M_fact_29, eq_M_fact_62, g_M_fact_62, eq_M_fact_69, g_M_fact_69, m1.isChild H.ok, m1.isMinute H.ok, m1.isRoom H.ok, hv_M_01, c2, c3, c4, c5, m1.F, n16', e3, Option.bind_some, ↓reduceIte, hv_10, hv_01, hI_00, hI_10, hv_X_r1, hv_X_r2, hv_X_r3, hv_X_r4, hv_X_r6, hv_M_r1, hv_M_r2, hv_M_r3, hv_M_r4, hv_M_r6]
      rw [show ω.1 66 3 = hI (h.F + 1) from m2.F]
  · refine hv_chgR hi H H.ok H.so 3 (-3) ⟨am_sI υ 1 5 (hI h.F), ?_, ?_, (Fd0.pw fr).set _ (.inr rfl)⟩ (fun τ m0 => ?_)
    · rw [if_neg w] at e
      simp only [eq_X_fact, g_X_fact, eq_X_fact_102, g_X_fact_102, eq_X_fact_20, g_X_fact_20, eq_X_fact_34, g_X_fact_34, eq_X_fact_41, g_X_fact_41, eq_X_fact_88, g_X_fact_88, hv_X_point H, H.hasRoom, hv_X_01, c2, c3, c4, c5, D1, n16, AF, e, hv_dropFact d2 ok2 (Nat.succ_pos _), Option.bind_some, ↓reduceIte, hv_10, hv_01, hI_00, hI_10, hv_X_r1, hv_X_r2, hv_X_r3, hv_X_r4, hv_X_r6, hv_M_r1, hv_M_r2, hv_M_r3, hv_M_r4, hv_M_r6]
      rfl
    · have G : ∀ i j, i ≤ 10 ∧ (i = 1 → j ≠ 5) ∧ ¬ (i = 9 ∧ j = h.F) → (am_sI υ 1 5 (hI h.F)).1 i j = σ.1 i j := fun i j ⟨a, b, q⟩ => by
        have e1 : (am_sI υ 1 5 (hI h.F)).1 i j = υ.1 i j := by
          by_cases z : i = 1
          · subst z; rw [hv_g3 _ _ (b rfl)]
          · rw [hv_g2 _ z]
        rw [e1, fr.2 i (hv_pw_lo (by omega))]
        by_cases z : i = 1
        · subst z; rw [hv_g3 _ _ (b rfl), hv_g2 _ (by decide)]
        · rw [hv_g2 _ z]
          by_cases z9 : i = 9
          · subst z9; rw [hv_g3 _ _ (fun y => q ⟨rfl, y⟩)]
          · rw [hv_g2 _ z9]
      have d := H.d
      exact hv_dev.mk (fR := (G _ _ (by omega)).trans d.R) (fM := (G _ _ (by omega)).trans d.M) (fC := (G _ _ (by omega)).trans d.C) (fdr := (G _ _ (by omega)).trans d.dr) (fdm := (G _ _ (by omega)).trans d.dm) (fF := by rw [hv_g1]) (fS := (G _ _ (by omega)).trans d.S) (fdoor := fun r hr => (G _ _ (by omega)).trans (d.door r hr)) (fkind := fun r hr => (G _ _ (by omega)).trans (d.kind r hr)) (ffig := fun r hr => (G _ _ (by omega)).trans (d.fig r hr)) (ftie := fun r hr => (G _ _ (by omega)).trans (d.tie r hr)) (fskill := fun r hr => (G _ _ (by omega)).trans (d.skill r hr)) (fplace := fun r hr k hk => (G _ _ (by omega)).trans (d.place r hr k hk)) (fchance := fun r hr => (G _ _ (by omega)).trans (d.chance r hr)) (ffact := fun i hi => (G _ _ (by omega)).trans (d.fact i hi)) (fsay := fun r hr => (G _ _ (by omega)).trans (d.say r hr))
    · have m1 := m0.thrown
      obtain ⟨ω, e3, f3⟩ := hv_M_factComes m1 H.ok hF hc hm hr hx
      rw [if_neg w] at e3
      have m2 := f3.mod (hv_addF_mod m1 c m r x)
      refine ⟨am_sI ω 66 3 (hI h.F), ?_, ?_, ((hv_addF_Fm ((hv_Fm.rfl' τ).set _ (.inl rfl)) h.F c m r x).pm f3).set _ (.inr rfl)⟩
      · simp only [eq_M_fact, g_M_fact, eq_M_fact_21, g_M_fact_21, eq_M_fact_29, g_M_fact_29, eq_M_fact_62, g_M_fact_62, eq_M_fact_69, g_M_fact_69, m1.isChild H.ok, m1.isMinute H.ok, m1.isRoom H.ok, hv_M_01, c2, c3, c4, c5, m1.F, n16', e3, Option.bind_some, ↓reduceIte, hv_10, hv_01, hI_00, hI_10, hv_X_r1, hv_X_r2, hv_X_r3, hv_X_r4, hv_X_r6, hv_M_r1, hv_M_r2, hv_M_r3, hv_M_r4, hv_M_r6]
        rw [show ω.1 66 3 = hI (h.F + 1) from m2.F, show hI (h.F + 1) - 1 = hI h.F from hI_sub (n := h.F + 1) (m := 1) (by omega)]
      · have G : ∀ i j, (i = 66 ∧ j ≠ 3 ∧ j < 7) ∨ (67 ≤ i ∧ i ≤ 81 ∧ ¬ ((i = 73 ∨ i = 74 ∨ i = 75 ∨ i = 76) ∧ j = h.F)) → (am_sI ω 66 3 (hI h.F)).1 i j = (am_sI τ 66 22 0).1 i j := fun i j a => by
          have e1 : (am_sI ω 66 3 (hI h.F)).1 i j = ω.1 i j := by
            by_cases z : i = 66
            · subst z; rw [hv_g3 _ _ (by omega)]
            · rw [hv_g2 _ z]
          rw [e1, f3.2 i (hv_pm_lo (by omega))]
          unfold hv_addF_st
          have S : ∀ (υ : am_St) (a b : Nat) (y : Int32), ¬ (i = a ∧ j = b) → (am_sI υ a b y).1 i j = υ.1 i j := fun υ a b y q => by
            by_cases z : i = a
            · subst z; rw [hv_g3 _ _ (fun w => q ⟨rfl, w⟩)]
            · rw [hv_g2 _ z]
          rw [S _ _ _ _ (by omega), S _ _ _ _ (by omega), S _ _ _ _ (by omega), S _ _ _ _ (by omega), S _ _ _ _ (by omega)]
        have d := m1
        exact hv_mod.mk (fR := (G _ _ (by omega)).trans d.R) (fM := (G _ _ (by omega)).trans d.M) (fC := (G _ _ (by omega)).trans d.C) (fF := by rw [hv_g1]) (fS := (G _ _ (by omega)).trans d.S) (fdr := (G _ _ (by omega)).trans d.dr) (fdm := (G _ _ (by omega)).trans d.dm) (fdoor := fun r hr => (G _ _ (by omega)).trans (d.door r hr)) (fkind := fun r hr => (G _ _ (by omega)).trans (d.kind r hr)) (ffig := fun r hr => (G _ _ (by omega)).trans (d.fig r hr)) (ftie := fun r hr => (G _ _ (by omega)).trans (d.tie r hr)) (fskill := fun r hr => (G _ _ (by omega)).trans (d.skill r hr)) (fplace := fun r hr k hk => (G _ _ (by omega)).trans (d.place r hr k hk)) (fchance := fun r hr => (G _ _ (by omega)).trans (d.chance r hr)) (ffc := fun r hr => (G _ _ (by omega)).trans (d.fc r hr)) (ffm := fun r hr => (G _ _ (by omega)).trans (d.fm r hr)) (ffr := fun r hr => (G _ _ (by omega)).trans (d.fr r hr)) (ffi := fun r hr => (G _ _ (by omega)).trans (d.fi r hr)) (fsp := fun r hr => (G _ _ (by omega)).trans (d.sp r hr)) (fsc := fun r hr => (G _ _ (by omega)).trans (d.sc r hr)) (fsm := fun r hr => (G _ _ (by omega)).trans (d.sm r hr)) (fsr := fun r hr => (G _ _ (by omega)).trans (d.sr r hr))
