/-! PURE: laws -/
theorem hv_tI_eq {x r : Nat} (hx : x < 4 ∨ x = 9) (hr : r < 4) : (hv_tI x = hI r) = (x = r) := by
  rcases hx with hx | rfl
  · rw [hv_tI_lt (by omega)]; exact propext (hI_inj (by omega) (by omega))
  · refine (eq_false ?_).trans (eq_false (by omega)).symm
    have : ∀ r, r < 4 → ¬ hv_tI 9 = hI r := by decide
    exact this r hr
theorem hv_told4 {h : hv} (ok : hv_ok h) {p c m : Nat} (hc : c < h.C) (hm : m < h.M) : hv_told h p c m < 4 ∨ hv_told h p c m = 9 := (hv_told_lt ok hc hm).imp (fun e => by have := ok.R; omega) id
/-- how many of the first n name the child d -/
def hv_namers (h : hv) (d : Nat) : Nat → Nat
  | 0 => 0
  | n + 1 => hv_namers h d n + if ¬ n = d ∧ hv_told h n d h.dm = h.dr then 1 else 0
theorem hv_namers_0 (h : hv) (d : Nat) : hv_namers h d 0 = 0 := by rw [hv_namers]
theorem hv_namers_s (h : hv) (d n : Nat) : hv_namers h d (n + 1) = hv_namers h d n + if ¬ n = d ∧ hv_told h n d h.dm = h.dr then 1 else 0 := by rw [hv_namers]
theorem hv_namers_le (h : hv) (d : Nat) : ∀ n, hv_namers h d n ≤ n := by
  intro n
  induction n with
  | zero => rw [hv_namers_0]; exact Nat.le_refl _
  | succ n ih => rw [hv_namers_s]; split <;> omega
theorem hv_at.namersOf {h : hv} {σ : am_St} (H : hv_at h σ) {d : Nat} (hd : d < h.C) : f_H_namersOf_1 (hI d) σ = some (hI (hv_namers h d h.C), σ) := by
  have kC := H.ok.C
  have kR := H.ok.R
  have kr := H.ok.dr
  rw [eq_H_namersOf_1]; unfold g_H_namersOf_1 f_H_namersOf_1_4
  have L := hv_up (body := fun s : Int32 × Int32 × Int32 × am_St => b_H_namersOf_1_4 s.1 s.2.1 s.2.2.1 s.2.2.2) (P := fun x => x = (hI (hv_namers h d h.C), σ)) h.C (fun i s => s = (hI d, hI (hv_namers h d i), hI i, σ)) 0 (Nat.zero_le _) (hI d, 0, 0, σ) (by rw [hv_namers_0]; rfl) ?_ ?_
  · obtain ⟨x, e, rfl⟩ := L; exact e
  · rintro i s hi rfl
    refine .inl ⟨_, ?_, rfl⟩
    show b_H_namersOf_1_4 (hI d) (hI _) (hI i) σ = _
    unfold b_H_namersOf_1_4
    have D2 : σ.1 1 4 = hI h.dm := H.d.dm
    have D1 : σ.1 1 3 = hI h.dr := H.d.dr
    rw [H.d.C, if_neg (hI_nle (by omega) (by omega) hi), D2, hv_namers_s]
    by_cases c : i = d
    · rw [if_pos (by rw [c]), if_neg (fun e => e.1 c), eq_H_namersOf_1_37]
      unfold g_H_namersOf_1_37
      dsimp only
      rw [hI_add1]; rfl
    · rw [if_neg (hI_ne (by omega) (by omega) c), H.d.told H.ok hi hd H.ok.dm, Option.bind_some]
      dsimp only
      rw [D1]
      simp only [hv_tI_eq (hv_told4 H.ok hd H.ok.dm) (show h.dr < 4 by omega)]
      by_cases q : hv_told h i d h.dm = h.dr
      · rw [if_pos q, if_pos ⟨c, q⟩, eq_H_namersOf_1_37]
        unfold g_H_namersOf_1_37
        dsimp only
        rw [hI_add1, hI_add1]
      · rw [if_neg q, if_neg (fun e => q e.2), eq_H_namersOf_1_37]
        unfold g_H_namersOf_1_37
        dsimp only
        rw [hI_add1]; rfl
  · rintro s rfl
    refine ⟨_, ?_, rfl⟩
    show b_H_namersOf_1_4 (hI d) (hI _) (hI h.C) σ = _
    unfold b_H_namersOf_1_4
    rw [H.d.C, if_pos (Int32.le_refl _)]
theorem hv_at.isNamed {h : hv} {σ : am_St} (H : hv_at h σ) {d : Nat} (hd : d < h.C) : f_M_isNamed (hI d) σ = some (if 0 < hv_namers h d h.C then 1 else 0, σ) := by
  have kC := H.ok.C
  have kR := H.ok.R
  have kr := H.ok.dr
  rw [eq_M_isNamed]; unfold g_M_isNamed f_M_isNamed_4
  have L := hv_up (body := fun s : Int32 × Int32 × Int32 × am_St => b_M_isNamed_4 s.1 s.2.1 s.2.2.1 s.2.2.2) (P := fun x => x = ((if 0 < hv_namers h d h.C then 1 else 0), σ)) h.C (fun i s => s = (hI d, (if 0 < hv_namers h d i then 1 else 0), hI i, σ)) 0 (Nat.zero_le _) (hI d, 0, 0, σ) (by rw [hv_namers_0]; rfl) ?_ ?_
  · obtain ⟨x, e, rfl⟩ := L; exact e
  · rintro i s hi rfl
    refine .inl ⟨_, ?_, rfl⟩
    show b_M_isNamed_4 (hI d) _ (hI i) σ = _
    unfold b_M_isNamed_4
    dsimp only
    have D2 : σ.1 66 6 = hI h.dm := H.m.dm
    have D1 : σ.1 66 5 = hI h.dr := H.m.dr
    rw [H.m.C, if_neg (hI_nle (by omega) (by omega) hi), D2, hv_namers_s]
    have A : ∀ y, f_M_isNamed_43 (hI d) (hI i) y σ = some (.inl (hI d, y, hI (i + 1), σ)) := fun y => by
      rw [eq_M_isNamed_43]; unfold g_M_isNamed_43
      dsimp only
      rw [hI_add1]
    by_cases z : 0 < hv_namers h d i
    · rw [if_pos z, if_neg (show ¬ (1 : Int32) = 0 by decide), if_pos (show 0 < hv_namers h d i + _ by omega), eq_M_isNamed_38]
      unfold g_M_isNamed_38
      exact A 1
    · rw [if_neg z, if_pos rfl, show hv_namers h d i = 0 by omega, Nat.zero_add]
      by_cases c : i = d
      · rw [if_pos (by rw [c]), show (if ¬ i = d ∧ hv_told h i d h.dm = h.dr then 1 else 0) = 0 from if_neg (fun e => e.1 c), eq_M_isNamed_42]
        unfold g_M_isNamed_42
        exact A 0
      · rw [if_neg (hI_ne (by omega) (by omega) c), H.m.saysOf H.ok hi hd H.ok.dm, Option.bind_some]
        dsimp only
        rw [D1]
        simp only [hv_tI_eq (hv_told4 H.ok hd H.ok.dm) (show h.dr < 4 by omega)]
        by_cases q : hv_told h i d h.dm = h.dr
        · rw [if_pos q, show (if ¬ i = d ∧ hv_told h i d h.dm = h.dr then 1 else 0) = 1 from if_pos ⟨c, q⟩, eq_M_isNamed_38]
          unfold g_M_isNamed_38
          exact A 1
        · rw [if_neg q, show (if ¬ i = d ∧ hv_told h i d h.dm = h.dr then 1 else 0) = 0 from if_neg (fun e => q e.2), eq_M_isNamed_42]
          unfold g_M_isNamed_42
          exact A 0
  · rintro s rfl
    refine ⟨_, ?_, rfl⟩
    show b_M_isNamed_4 (hI d) _ (hI h.C) σ = _
    unfold b_M_isNamed_4
    dsimp only
    rw [H.m.C, if_pos (Int32.le_refl _)]
    split
    · rfl
    · rfl
/-- what owning up costs, what denying costs, whether one owns up, what the others pay -/
def hv_owc (l v : Nat) : Nat := if l = 0 then v / 2 else if l = 3 then 0 else v
def hv_dny (h : hv) (d l v : Nat) : Nat := if l = 2 then v else if 0 < hv_namers h d h.C then v else if l = 0 then v / h.C else 0
def hv_owns (h : hv) (d l v : Nat) : Prop := hv_owc l v ≤ hv_dny h d l v
def hv_oth (h : hv) (d l v : Nat) : Nat := if hv_owc l v ≤ hv_dny h d l v then 0 else if l = 0 then v / h.C * (h.C - 1) else 0
theorem hv_owc_le (l v : Nat) : hv_owc l v ≤ v := by
  unfold hv_owc
  split
  · exact Nat.div_le_self _ _
  · split
    · exact Nat.zero_le _
    · exact Nat.le_refl _
theorem hv_dny_le (h : hv) (d l v : Nat) : hv_dny h d l v ≤ v := by
  unfold hv_dny
  split
  · exact Nat.le_refl _
  · split
    · exact Nat.le_refl _
    · split
      · exact Nat.div_le_self _ _
      · exact Nat.zero_le _
theorem hI_is (l : Nat) (hl : l < 4) : (hI l = 0) = (l = 0) ∧ (hI l = 2) = (l = 2) ∧ (hI l = 3) = (l = 3) := ⟨propext (hI_inj (m := 0) (by omega) (by decide)), propext (hI_inj (m := 2) (by omega) (by decide)), propext (hI_inj (m := 3) (by omega) (by decide))⟩
theorem hv_X_own {l v : Nat} (hl : l < 4) (hv' : v < 100) (σ : am_St) : f_P_owningUp (hI l) (hI v) σ = some (hI (hv_owc l v), σ) := by
  obtain ⟨a, b, c⟩ := hI_is l hl
  have e : hI v / 2 = hI (v / 2) := hI_div (m := 2) (by omega) (by decide)
  rw [eq_P_owningUp]; unfold g_P_owningUp hv_owc
  simp only [a, c, e]
  by_cases q : l = 0
  · rw [if_neg (by omega), if_pos q, if_pos q]
  · rw [if_neg q, if_neg q]
    by_cases q3 : l = 3
    · rw [if_pos q3, if_pos q3]; rfl
    · rw [if_neg q3, if_neg q3]
theorem hv_M_own {l v : Nat} (hl : l < 4) (hv' : v < 100) (σ : am_St) : f_M_owningCosts (hI l) (hI v) σ = some (hI (hv_owc l v), σ) := by
  obtain ⟨a, b, c⟩ := hI_is l hl
  have e : hI v / 2 = hI (v / 2) := hI_div (m := 2) (by omega) (by decide)
  rw [eq_M_owningCosts]; unfold g_M_owningCosts hv_owc
  simp only [a, c, e]
  by_cases q : l = 0
  · rw [if_pos q, if_pos q]
  · rw [if_neg q, if_neg q]
    by_cases q3 : l = 3
    · rw [if_pos q3, if_pos q3]; rfl
    · rw [if_neg q3, if_neg q3]
theorem hv_X_shared {h : hv} (ok : hv_ok h) {d v : Nat} (hd : d < h.C) (hv' : v < 100) (σ : am_St) : f_P_sharedBy (hI h.C) (hI v) σ = some (hI (v / h.C), σ) := by
  have kC := ok.C
  rw [eq_P_sharedBy]; unfold g_P_sharedBy
  rw [if_neg (hI_le0 (by omega) (by omega)), if_neg (hI_ne0 (by omega) (by omega)), hI_div (by omega) (by omega)]
theorem hv_X_dny {h : hv} (ok : hv_ok h) {d l v : Nat} (hd : d < h.C) (hl : l < 4) (hv' : v < 100) (σ : am_St) : f_P_denying (hI l) (hI v) (hI (hv_namers h d h.C)) (hI h.C) σ = some (hI (hv_dny h d l v), σ) := by
  obtain ⟨a, b, c⟩ := hI_is l hl
  have kC := ok.C
  have kn := hv_namers_le h d h.C
  rw [eq_P_denying]; unfold g_P_denying hv_dny
  simp only [a, b, hv_X_shared ok hd hv']
  by_cases n : 0 < hv_namers h d h.C
  · rw [if_pos (show (0 : Int32) < hI _ from (hI_lt (n := 0) (by decide) (by omega)).mpr n), if_pos n]
    split <;> rfl
  · rw [if_neg (show ¬ (0 : Int32) < hI _ from hI_nlt (n := 0) (by decide) (by omega) (by omega)), if_neg n]
    split
    · rfl
    · split <;> rfl
theorem hv_X_owns {h : hv} (ok : hv_ok h) {d l v : Nat} (hd : d < h.C) (hl : l < 4) (hv' : v < 100) (σ : am_St) : f_P_ownsUp (hI l) (hI v) (hI (hv_namers h d h.C)) (hI h.C) σ = some (if hv_owc l v ≤ hv_dny h d l v then 1 else 0, σ) := by
  have k1 := hv_owc_le l v
  have k2 := hv_dny_le h d l v
  rw [eq_P_ownsUp]; unfold g_P_ownsUp
  rw [hv_X_own hl hv', Option.bind_some]
  dsimp only
  rw [hv_X_dny ok hd hl hv', Option.bind_some]
  dsimp only
  by_cases q : hv_owc l v ≤ hv_dny h d l v
  · rw [if_neg (hI_nlt (by omega) (by omega) q), if_pos q]
  · rw [if_pos ((hI_lt (by omega) (by omega)).mpr (by omega)), if_neg q]
theorem hv_X_oth {h : hv} (ok : hv_ok h) {d l v : Nat} (hd : d < h.C) (hl : l < 4) (hv' : v < 100) (σ : am_St) : f_P_othersPay (hI l) (hI v) (hI (hv_namers h d h.C)) (hI h.C) σ = some (hI (hv_oth h d l v), σ) := by
  obtain ⟨a, b, c⟩ := hI_is l hl
  rw [eq_P_othersPay]; unfold g_P_othersPay hv_oth
  simp only [a, hv_X_owns ok hd hl hv']
  by_cases q : hv_owc l v ≤ hv_dny h d l v
  · simp only [q, Option.bind_some, ↓reduceIte, hv_10]
    split <;> rfl
  · simp only [q, Option.bind_some, ↓reduceIte, hv_X_shared ok hd hv']
    by_cases z : l = 0
    · rw [if_pos z, if_pos z, show hI h.C - 1 = hI (h.C - 1) from hI_sub (m := 1) (by omega), hI_mul]
    · rw [if_neg z, if_neg z]; rfl
theorem hv_M_dny {h : hv} {σ : am_St} (H : hv_at h σ) {d l v : Nat} (hd : d < h.C) (hl : l < 4) (hv' : v < 100) : f_M_notCosts (hI d) (hI l) (hI v) σ = some (hI (hv_dny h d l v), σ) := by
  obtain ⟨a, b, c⟩ := hI_is l hl
  have kC := H.ok.C
  have D : σ.1 66 2 = hI h.C := H.m.C
  rw [eq_M_notCosts]; unfold g_M_notCosts hv_dny
  simp only [a, b, H.isNamed hd]
  by_cases q : l = 2
  · rw [if_pos q, if_pos q]
  · rw [if_neg q, if_neg q]
    by_cases n : 0 < hv_namers h d h.C
    · simp only [n, Option.bind_some, ↓reduceIte, hv_10]
    · simp only [n, Option.bind_some, ↓reduceIte]
      rw [D, if_neg (hI_ne0 (by omega) (by omega)), hI_div (by omega) (by omega)]
      split <;> rfl
theorem hv_M_owns {h : hv} {σ : am_St} (H : hv_at h σ) {d l v : Nat} (hd : d < h.C) (hl : l < 4) (hv' : v < 100) : f_M_ownsUp (hI d) (hI l) (hI v) σ = some (if hv_owc l v ≤ hv_dny h d l v then 1 else 0, σ) := by
  have k1 := hv_owc_le l v
  have k2 := hv_dny_le h d l v
  rw [eq_M_ownsUp]; unfold g_M_ownsUp
  rw [hv_M_own hl hv', Option.bind_some]
  dsimp only
  rw [hv_M_dny H hd hl hv', Option.bind_some]
  dsimp only
  by_cases q : hv_owc l v ≤ hv_dny h d l v
  · rw [if_neg (hI_nlt (by omega) (by omega) q), if_pos q]
  · rw [if_pos ((hI_lt (by omega) (by omega)).mpr (by omega)), if_neg q]
theorem hv_M_oth {h : hv} {σ : am_St} (H : hv_at h σ) {d l v : Nat} (hd : d < h.C) (hl : l < 4) (hv' : v < 100) : f_M_othersPay (hI d) (hI l) (hI v) σ = some (hI (hv_oth h d l v), σ) := by
  obtain ⟨a, b, c⟩ := hI_is l hl
  have kC := H.ok.C
  have D : σ.1 66 2 = hI h.C := H.m.C
  rw [eq_M_othersPay]; unfold g_M_othersPay hv_oth
  simp only [a, b, hv_M_owns H hd hl hv']
  by_cases q : hv_owc l v ≤ hv_dny h d l v
  · simp only [q, Option.bind_some, ↓reduceIte, hv_10]; rfl
  · simp only [q, Option.bind_some, ↓reduceIte, H.isNamed hd]
    have z2 : ¬ l = 2 := fun e => q (by unfold hv_dny; rw [if_pos e]; exact hv_owc_le l v)
    have n : l = 0 → ¬ 0 < hv_namers h d h.C := fun z n => q (by unfold hv_dny; rw [if_neg z2, if_pos n]; exact hv_owc_le l v)
    by_cases z : l = 0
    · simp only [z, n z, z2, Option.bind_some, ↓reduceIte]
      rw [if_neg (by decide), eq_M_othersPay_40]
      unfold g_M_othersPay_40
      rw [D, if_neg (hI_ne0 (by omega) (by omega)), hI_div (by omega) (by omega), show hI h.C - 1 = hI (h.C - 1) from hI_sub (m := 1) (by omega), hI_mul, Nat.mul_comm]
    · rw [if_neg z2, if_neg z, if_neg z]; rfl
theorem hv_X_isLaw (b : Int32) (σ : am_St) : f_X_isLaw b σ = some (hv_rng b 4, σ) := by
  rw [eq_X_isLaw]; unfold g_X_isLaw
  exact hv_rng_eq b 4 σ
theorem hv_st_law : st_law hv_inv := by
  intro σ hi a b v w
  obtain ⟨h, H⟩ := hi.at
  have D1 : σ.1 1 2 = hI h.C := H.d.C
  rcases hv_rng_cases a H.C31 with c1 | ⟨d, hd, rfl, c1⟩
  · refine hv_qry hi H 1 (-1) (hv_refX (by decide) ?_) (fun τ T _ => ?_)
    · simp only [eq_X_law, g_X_law, eq_X_law_48, g_X_law_48, eq_X_law_55, g_X_law_55, H.hasChild, c1, Option.bind_some, ↓reduceIte, hv_10, hv_01, hI_00, hI_10, hv_X_r1, hv_X_r2, hv_X_r3, hv_X_r4, hv_X_r6, hv_M_r1, hv_M_r2, hv_M_r3, hv_M_r4, hv_M_r6]
    · refine hv_thr ?_
      rw [eq_M_law]; unfold g_M_law
      replace T := T.thrown
      generalize am_sI τ 66 22 0 = τ at T ⊢
      dsimp only
      refine hv_refM (by decide) ?_
      simp only [eq_M_law, g_M_law, eq_M_law_29, g_M_law_29, eq_M_law_34, g_M_law_34, eq_M_law_41, g_M_law_41, eq_M_law_66, g_M_law_66, eq_M_law_68, g_M_law_68, T.isChild, c1, Option.bind_some, ↓reduceIte, hv_10, hv_01, hI_00, hI_10, hv_X_r1, hv_X_r2, hv_X_r3, hv_X_r4, hv_X_r6, hv_M_r1, hv_M_r2, hv_M_r3, hv_M_r4, hv_M_r6, show ¬ ((-1 : Int32) = 0) by decide, show ¬ ((0 : Int32) ≤ -1) by decide]
  · rcases hv_rng_cases b (n := 4) (by decide) with c2 | ⟨l, hl, rfl, c2⟩
    · refine hv_qry hi H 2 (-2) (hv_refX (by decide) ?_) (fun τ T _ => ?_)
      · simp only [eq_X_law, g_X_law, eq_X_law_48, g_X_law_48, eq_X_law_55, g_X_law_55, H.hasChild, hv_X_isLaw, c1, c2, Option.bind_some, ↓reduceIte, hv_10, hv_01, hI_00, hI_10, hv_X_r1, hv_X_r2, hv_X_r3, hv_X_r4, hv_X_r6, hv_M_r1, hv_M_r2, hv_M_r3, hv_M_r4, hv_M_r6]
      · refine hv_thr ?_
        rw [eq_M_law]; unfold g_M_law
        replace T := T.thrown
        generalize am_sI τ 66 22 0 = τ at T ⊢
        dsimp only
        refine hv_refM (by decide) ?_
        simp only [eq_M_law, g_M_law, eq_M_law_29, g_M_law_29, eq_M_law_34, g_M_law_34, eq_M_law_41, g_M_law_41, eq_M_law_66, g_M_law_66, eq_M_law_68, g_M_law_68, T.isChild, hv_M_03, c1, c2, Option.bind_some, ↓reduceIte, hv_10, hv_01, hI_00, hI_10, hv_X_r1, hv_X_r2, hv_X_r3, hv_X_r4, hv_X_r6, hv_M_r1, hv_M_r2, hv_M_r3, hv_M_r4, hv_M_r6, show ¬ ((-2 : Int32) = 0) by decide, show ¬ ((0 : Int32) ≤ -2) by decide]
    · rcases hv_num v 99 (by decide) 99 rfl with ⟨n1, n2⟩ | ⟨n1, n2, n3, n4⟩ | ⟨x, hx, rfl, n1, n2, n3, n4⟩
      · refine hv_qry hi H 4 (-4) (hv_refX (by decide) ?_) (fun τ T _ => ?_)
        · simp only [eq_X_law, g_X_law, eq_X_law_48, g_X_law_48, eq_X_law_55, g_X_law_55, H.hasChild, hv_X_isLaw, c1, c2, n1, Option.bind_some, ↓reduceIte, hv_10, hv_01, hI_00, hI_10, hv_X_r1, hv_X_r2, hv_X_r3, hv_X_r4, hv_X_r6, hv_M_r1, hv_M_r2, hv_M_r3, hv_M_r4, hv_M_r6]
        · refine hv_thr ?_
          rw [eq_M_law]; unfold g_M_law
          replace T := T.thrown
          generalize am_sI τ 66 22 0 = τ at T ⊢
          dsimp only
          refine hv_refM (by decide) ?_
          simp only [eq_M_law, g_M_law, eq_M_law_29, g_M_law_29, eq_M_law_34, g_M_law_34, eq_M_law_41, g_M_law_41, eq_M_law_66, g_M_law_66, eq_M_law_68, g_M_law_68, T.isChild, hv_M_03, c1, c2, n1, eq_M_wrongNumber, g_M_wrongNumber, Option.bind_some, ↓reduceIte, hv_10, hv_01, hI_00, hI_10, hv_X_r1, hv_X_r2, hv_X_r3, hv_X_r4, hv_X_r6, hv_M_r1, hv_M_r2, hv_M_r3, hv_M_r4, hv_M_r6, show ¬ ((-4 : Int32) = 0) by decide, show ¬ ((0 : Int32) ≤ -4) by decide]
      · refine hv_qry hi H 6 (-6) (hv_refX (by decide) ?_) (fun τ T _ => ?_)
        · simp only [eq_X_law, g_X_law, eq_X_law_48, g_X_law_48, eq_X_law_55, g_X_law_55, H.hasChild, hv_X_isLaw, c1, c2, n1, n3, Option.bind_some, ↓reduceIte, hv_10, hv_01, hI_00, hI_10, hv_X_r1, hv_X_r2, hv_X_r3, hv_X_r4, hv_X_r6, hv_M_r1, hv_M_r2, hv_M_r3, hv_M_r4, hv_M_r6]
        · refine hv_thr ?_
          rw [eq_M_law]; unfold g_M_law
          replace T := T.thrown
          generalize am_sI τ 66 22 0 = τ at T ⊢
          dsimp only
          refine hv_refM (by decide) ?_
          simp only [eq_M_law, g_M_law, eq_M_law_29, g_M_law_29, eq_M_law_34, g_M_law_34, eq_M_law_41, g_M_law_41, eq_M_law_66, g_M_law_66, eq_M_law_68, g_M_law_68, T.isChild, hv_M_03, c1, c2, n1, n3, eq_M_wrongNumber, g_M_wrongNumber, Option.bind_some, ↓reduceIte, hv_10, hv_01, hI_00, hI_10, hv_X_r1, hv_X_r2, hv_X_r3, hv_X_r4, hv_X_r6, hv_M_r1, hv_M_r2, hv_M_r3, hv_M_r4, hv_M_r6, show ¬ ((-6 : Int32) = 0) by decide, show ¬ ((0 : Int32) ≤ -6) by decide]
      · rcases hv_rng_cases w (n := 4) (by decide) with c3 | ⟨k, hk, rfl, c3⟩
        · have nw : ∀ k, k < 4 → ¬ w = hI k := fun k hk e => by
            rw [e, hv_rng_lt (by decide) hk] at c3; exact absurd c3 (by decide)
          have w0 : ¬ w = 0 := nw 0 (by decide)
          have w1 : ¬ w = 1 := nw 1 (by decide)
          have w2 : ¬ w = 2 := nw 2 (by decide)
          have w3 : ¬ w = 3 := nw 3 (by decide)
          refine hv_qry hi H 2 (-2) (hv_refX (by decide) ?_) (fun τ T _ => ?_)
          · simp only [eq_X_law, g_X_law, eq_X_law_48, g_X_law_48, eq_X_law_55, g_X_law_55, H.hasChild, hv_X_isLaw, c1, c2, n1, n3, H.namersOf hd, w0, w1, w2, w3, Option.bind_some, ↓reduceIte, hv_10, hv_01, hI_00, hI_10, hv_X_r1, hv_X_r2, hv_X_r3, hv_X_r4, hv_X_r6, hv_M_r1, hv_M_r2, hv_M_r3, hv_M_r4, hv_M_r6]
          · refine hv_thr ?_
            rw [eq_M_law]; unfold g_M_law
            replace T := T.thrown
            generalize am_sI τ 66 22 0 = τ at T ⊢
            dsimp only
            refine hv_refM (by decide) ?_
            simp only [eq_M_law, g_M_law, eq_M_law_29, g_M_law_29, eq_M_law_34, g_M_law_34, eq_M_law_41, g_M_law_41, eq_M_law_66, g_M_law_66, eq_M_law_68, g_M_law_68, T.isChild, hv_M_03, c1, c2, c3, n1, n3, eq_M_wrongNumber, g_M_wrongNumber, Option.bind_some, ↓reduceIte, hv_10, hv_01, hI_00, hI_10, hv_X_r1, hv_X_r2, hv_X_r3, hv_X_r4, hv_X_r6, hv_M_r1, hv_M_r2, hv_M_r3, hv_M_r4, hv_M_r6, show ¬ ((-2 : Int32) = 0) by decide, show ¬ ((0 : Int32) ≤ -2) by decide]
        · have z00 : (0 : Int32) ≤ 0 := by decide
          obtain rfl | rfl | rfl | rfl : k = 0 ∨ k = 1 ∨ k = 2 ∨ k = 3 := by omega
          · refine hv_qry hi H 0 (hI (hv_owc l x)) ⟨σ, ?_, hv_Sx.same _ _⟩ (fun τ T _ => ?_)
            · simp only [eq_X_law, g_X_law, eq_X_law_48, g_X_law_48, eq_X_law_55, g_X_law_55, H.hasChild, hv_X_isLaw, c1, c2, n1, n3, H.namersOf hd, hv_X_own hl (show x < 100 by omega), Option.bind_some, ↓reduceIte, hv_10, hv_01, hI_00, hI_10, hv_X_r1, hv_X_r2, hv_X_r3, hv_X_r4, hv_X_r6, hv_M_r1, hv_M_r2, hv_M_r3, hv_M_r4, hv_M_r6]
            · refine hv_thr ?_
              rw [eq_M_law]; unfold g_M_law
              replace T := T.thrown
              generalize am_sI τ 66 22 0 = τ at T ⊢
              dsimp only
              refine ⟨τ, ?_, hv_Sx.same _ _⟩
              simp only [eq_M_law, g_M_law, eq_M_law_29, g_M_law_29, eq_M_law_34, g_M_law_34, eq_M_law_41, g_M_law_41, eq_M_law_66, g_M_law_66, eq_M_law_68, g_M_law_68, T.isChild, hv_M_03, c1, c2, c3, n1, n3, eq_M_wrongNumber, g_M_wrongNumber, hv_M_own hl (show x < 100 by omega), z00, Option.bind_some, ↓reduceIte, hv_10, hv_01, hI_00, hI_10, hv_X_r1, hv_X_r2, hv_X_r3, hv_X_r4, hv_X_r6, hv_M_r1, hv_M_r2, hv_M_r3, hv_M_r4, hv_M_r6]
          · refine hv_qry hi H 0 (hI (hv_dny h d l x)) ⟨σ, ?_, hv_Sx.same _ _⟩ (fun τ T _ => ?_)
            · simp only [eq_X_law, g_X_law, eq_X_law_48, g_X_law_48, eq_X_law_55, g_X_law_55, H.hasChild, hv_X_isLaw, c1, c2, n1, n3, H.namersOf hd, show (hI 1 = 1) = True from eq_true rfl, D1, hv_X_dny H.ok hd hl (show x < 100 by omega), Option.bind_some, ↓reduceIte, hv_10, hv_01, hI_00, hI_10, hv_X_r1, hv_X_r2, hv_X_r3, hv_X_r4, hv_X_r6, hv_M_r1, hv_M_r2, hv_M_r3, hv_M_r4, hv_M_r6]
            · refine hv_thr ?_
              rw [eq_M_law]; unfold g_M_law
              replace T := T.thrown
              generalize am_sI τ 66 22 0 = τ at T ⊢
              dsimp only
              refine ⟨τ, ?_, hv_Sx.same _ _⟩
              simp only [eq_M_law, g_M_law, eq_M_law_29, g_M_law_29, eq_M_law_34, g_M_law_34, eq_M_law_41, g_M_law_41, eq_M_law_66, g_M_law_66, eq_M_law_68, g_M_law_68, T.isChild, hv_M_03, c1, c2, c3, n1, n3, eq_M_wrongNumber, g_M_wrongNumber, show (hI 1 = 1) = True from eq_true rfl, hv_M_dny T hd hl (show x < 100 by omega), z00, Option.bind_some, ↓reduceIte, hv_10, hv_01, hI_00, hI_10, hv_X_r1, hv_X_r2, hv_X_r3, hv_X_r4, hv_X_r6, hv_M_r1, hv_M_r2, hv_M_r3, hv_M_r4, hv_M_r6]
          · refine hv_qry hi H 0 (if hv_owc l x ≤ hv_dny h d l x then 1 else 0) ⟨σ, ?_, hv_Sx.same _ _⟩ (fun τ T _ => ?_)
            · simp only [eq_X_law, g_X_law, eq_X_law_48, g_X_law_48, eq_X_law_55, g_X_law_55, H.hasChild, hv_X_isLaw, c1, c2, n1, n3, H.namersOf hd, show (hI 2 = 0) = False from eq_false (by decide), show (hI 2 = 1) = False from eq_false (by decide), show (hI 2 = 2) = True from eq_true rfl, D1, hv_X_owns H.ok hd hl (show x < 100 by omega), eq_X_bit, g_X_bit, Option.bind_some, ↓reduceIte, hv_10, hv_01, hI_00, hI_10, hv_X_r1, hv_X_r2, hv_X_r3, hv_X_r4, hv_X_r6, hv_M_r1, hv_M_r2, hv_M_r3, hv_M_r4, hv_M_r6]
              split <;> rfl
            · refine hv_thr ?_
              rw [eq_M_law]; unfold g_M_law
              replace T := T.thrown
              generalize am_sI τ 66 22 0 = τ at T ⊢
              dsimp only
              refine ⟨τ, ?_, hv_Sx.same _ _⟩
              simp only [eq_M_law, g_M_law, eq_M_law_29, g_M_law_29, eq_M_law_34, g_M_law_34, eq_M_law_41, g_M_law_41, eq_M_law_66, g_M_law_66, eq_M_law_68, g_M_law_68, T.isChild, hv_M_03, c1, c2, c3, n1, n3, eq_M_wrongNumber, g_M_wrongNumber, show (hI 2 = 0) = False from eq_false (by decide), show (hI 2 = 1) = False from eq_false (by decide), show (hI 2 = 2) = True from eq_true rfl, hv_M_owns T hd hl (show x < 100 by omega), z00, Option.bind_some, ↓reduceIte, hv_10, hv_01, hI_00, hI_10, hv_X_r1, hv_X_r2, hv_X_r3, hv_X_r4, hv_X_r6, hv_M_r1, hv_M_r2, hv_M_r3, hv_M_r4, hv_M_r6]
              split <;> rfl
          · refine hv_qry hi H 0 (hI (hv_oth h d l x)) ⟨σ, ?_, hv_Sx.same _ _⟩ (fun τ T _ => ?_)
            · simp only [eq_X_law, g_X_law, eq_X_law_48, g_X_law_48, eq_X_law_55, g_X_law_55, H.hasChild, hv_X_isLaw, c1, c2, n1, n3, H.namersOf hd, show (hI 3 = 0) = False from eq_false (by decide), show (hI 3 = 1) = False from eq_false (by decide), show (hI 3 = 2) = False from eq_false (by decide), show (hI 3 = 3) = True from eq_true rfl, D1, hv_X_oth H.ok hd hl (show x < 100 by omega), Option.bind_some, ↓reduceIte, hv_10, hv_01, hI_00, hI_10, hv_X_r1, hv_X_r2, hv_X_r3, hv_X_r4, hv_X_r6, hv_M_r1, hv_M_r2, hv_M_r3, hv_M_r4, hv_M_r6]
            · refine hv_thr ?_
              rw [eq_M_law]; unfold g_M_law
              replace T := T.thrown
              generalize am_sI τ 66 22 0 = τ at T ⊢
              dsimp only
              refine ⟨τ, ?_, hv_Sx.same _ _⟩
              simp only [eq_M_law, g_M_law, eq_M_law_29, g_M_law_29, eq_M_law_34, g_M_law_34, eq_M_law_41, g_M_law_41, eq_M_law_66, g_M_law_66, eq_M_law_68, g_M_law_68, T.isChild, hv_M_03, c1, c2, c3, n1, n3, eq_M_wrongNumber, g_M_wrongNumber, show (hI 3 = 0) = False from eq_false (by decide), show (hI 3 = 1) = False from eq_false (by decide), show (hI 3 = 2) = False from eq_false (by decide), hv_M_oth T hd hl (show x < 100 by omega), z00, Option.bind_some, ↓reduceIte, hv_10, hv_01, hI_00, hI_10, hv_X_r1, hv_X_r2, hv_X_r3, hv_X_r4, hv_X_r6, hv_M_r1, hv_M_r2, hv_M_r3, hv_M_r4, hv_M_r6]
