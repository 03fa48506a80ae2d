/-! PURE: half; tale -/
/-- what is left of the hope behind n children -/
def hv_dec (h : hv) (left : Nat) : Nat → Nat
  | 0 => left
  | n + 1 => hv_dec h left n * (10 - hv_slips h n) / 10
theorem hv_dec_0 (h : hv) (left : Nat) : hv_dec h left 0 = left := by rw [hv_dec]
theorem hv_dec_s (h : hv) (left n : Nat) : hv_dec h left (n + 1) = hv_dec h left n * (10 - hv_slips h n) / 10 := by rw [hv_dec]
theorem hv_dec_le {h : hv} {left : Nat} (hl : left ≤ 10000) : ∀ n, hv_dec h left n ≤ 10000 := by
  intro n
  induction n with
  | zero => rw [hv_dec_0]; exact hl
  | succ n ih =>
    rw [hv_dec_s]
    have : hv_dec h left n * (10 - hv_slips h n) ≤ 10000 * 10 := Nat.mul_le_mul ih (Nat.sub_le _ _)
    omega
def hv_half (h : hv) : Nat → Nat → Nat → Int32
  | 0, _, _ => -9
  | n + 1, w, left => if hv_dec h left h.C < 5000 then hI w else hv_half h n (w + 1) (hv_dec h left h.C)
theorem hv_half_0 (h : hv) (w left : Nat) : hv_half h 0 w left = -9 := by rw [hv_half]
theorem hv_half_s (h : hv) (n w left : Nat) : hv_half h (n + 1) w left = if hv_dec h left h.C < 5000 then hI w else hv_half h n (w + 1) (hv_dec h left h.C) := by rw [hv_half]
theorem hv_dec_I {h : hv} (ok : hv_ok h) {left n : Nat} (hl : left ≤ 10000) (hn : n < h.C) : (hI (hv_dec h left n) * (10 - hI (hv_slips h n))) / 10 = hI (hv_dec h left (n + 1)) := by
  have k1 := hv_slips_le ok hn
  have k2 := hv_dec_le (h := h) hl n
  have k3 : hv_dec h left n * (10 - hv_slips h n) ≤ 10000 * 10 := Nat.mul_le_mul k2 (Nat.sub_le _ _)
  rw [show (10 : Int32) - hI (hv_slips h n) = hI (10 - hv_slips h n) from hI_sub (n := 10) (by omega), hI_mul, hv_dec_s]
  exact hI_div (m := 10) (by omega) (by decide)
theorem hv_in_P_weeksToHalf_1_14 {h : hv} {σ : am_St} (H : hv_at h σ) {left w : Nat} (hl : left ≤ 10000) (hw : w < 1000) : ∃ x, f_P_weeksToHalf_1_14 (hI left) (hI w) 0 σ = some x ∧ x = if hv_dec h left h.C < 5000 then .inr (hI w, σ) else .inl (hI (hv_dec h left h.C), hI (w + 1), σ) := by
  have kC := H.ok.C
  have k := hv_dec_le (h := h) hl h.C
  have D1 : σ.1 1 2 = hI h.C := H.d.C
  unfold f_P_weeksToHalf_1_14
  refine hv_up h.C (fun i t => t = (hI (hv_dec h left i), hI w, hI i, σ)) 0 (Nat.zero_le _) _ (by rw [hv_dec_0]; rfl) ?_ ?_
  · rintro i t hi rfl
    refine .inl ⟨_, ?_, rfl⟩
    show b_P_weeksToHalf_1_14 _ _ (hI i) σ = _
    unfold b_P_weeksToHalf_1_14
    rw [D1, if_neg (hI_nle (by omega) (by omega) hi), H.slipsX hi, Option.bind_some]
    dsimp only
    rw [hv_dec_I H.ok hl hi, hI_add1]
  · rintro t rfl
    refine ⟨_, ?_, rfl⟩
    show b_P_weeksToHalf_1_14 _ _ (hI h.C) σ = _
    unfold b_P_weeksToHalf_1_14
    rw [D1, if_pos (Int32.le_refl _)]
    dsimp only
    by_cases q : hv_dec h left h.C < 5000
    · rw [if_pos q, if_neg (show ¬ (5000 : Int32) ≤ hI _ from hI_nle (n := 5000) (by decide) (by omega) q)]
    · rw [if_neg q, if_pos (show (5000 : Int32) ≤ hI _ from (hI_le (n := 5000) (by decide) (by omega)).mpr (by omega)), hI_add1]
theorem hv_out_P_weeksToHalf_1_6 {h : hv} {σ : am_St} (H : hv_at h σ) : f_P_weeksToHalf_1_6 10000 1 σ = some (hv_half h 99 1 10000, σ) := by
  unfold f_P_weeksToHalf_1_6
  have L := hv_lp (body := fun s : Int32 × Int32 × am_St => b_P_weeksToHalf_1_6 s.1 s.2.1 s.2.2) (P := fun x => x = (hv_half h 99 1 10000, σ)) (fun n t => ∃ left, t = (hI left, hI (100 - n), σ) ∧ left ≤ 10000 ∧ n ≤ 99 ∧ hv_half h n (100 - n) left = hv_half h 99 1 10000) 99 (10000, 1, σ) ⟨10000, rfl, by decide, by decide, rfl⟩ ?_ ?_
  · obtain ⟨x, e, rfl⟩ := L; exact e
  · rintro n t ⟨left, rfl, hl, hn, e⟩
    obtain ⟨x, ex, rfl⟩ := hv_in_P_weeksToHalf_1_14 H hl (w := 100 - (n + 1)) (by omega)
    have B : b_P_weeksToHalf_1_6 (hI left) (hI (100 - (n + 1))) σ = some (if hv_dec h left h.C < 5000 then .inr (hI (100 - (n + 1)), σ) else .inl (hI (hv_dec h left h.C), hI (100 - (n + 1) + 1), σ)) := by
      unfold b_P_weeksToHalf_1_6
      first
      | rw [if_neg (show ¬ (99 : Int32) < hI (100 - (n + 1)) from hI_nlt (n := 99) (by decide) (by omega) (by omega)), ex]
      | rw [if_neg (show ¬ (100 : Int32) ≤ hI (100 - (n + 1)) from hI_nle (n := 100) (by decide) (by omega) (by omega)), ex]
    rw [hv_half_s] at e
    by_cases q : hv_dec h left h.C < 5000
    · rw [if_pos q] at e B
      exact .inr ⟨_, B, by rw [e]⟩
    · rw [if_neg q] at e B
      refine .inl ⟨_, B, hv_dec h left h.C, by rw [show 100 - (n + 1) + 1 = 100 - n by omega], hv_dec_le hl _, by omega, ?_⟩
      rw [← e, show 100 - (n + 1) + 1 = 100 - n by omega]
  · rintro t ⟨left, rfl, hl, hn, e⟩
    rw [hv_half_0] at e
    refine ⟨_, ?_, by rw [← e]⟩
    rfl
theorem hv_in_M_half_19 {h : hv} {σ : am_St} (H : hv_at h σ) {left w : Nat} (hl : left ≤ 10000) (hw : w < 1000) : ∃ x, f_M_half_19 (hI left) (hI w) 0 σ = some x ∧ x = if hv_dec h left h.C < 5000 then .inr (hI w, σ) else .inl (hI (hv_dec h left h.C), hI (w + 1), σ) := by
  have kC := H.ok.C
  have k := hv_dec_le (h := h) hl h.C
  have D1 : σ.1 66 2 = hI h.C := H.m.C
  unfold f_M_half_19
  refine hv_up h.C (fun i t => t = (hI (hv_dec h left i), hI w, hI i, σ)) 0 (Nat.zero_le _) _ (by rw [hv_dec_0]; rfl) ?_ ?_
  · rintro i t hi rfl
    refine .inl ⟨_, ?_, rfl⟩
    show b_M_half_19 _ _ (hI i) σ = _
    unfold b_M_half_19
    rw [D1, if_neg (hI_nle (by omega) (by omega) hi), H.slipsM hi, Option.bind_some]
    dsimp only
    rw [hv_dec_I H.ok hl hi, hI_add1]
  · rintro t rfl
    refine ⟨_, ?_, rfl⟩
    show b_M_half_19 _ _ (hI h.C) σ = _
    unfold b_M_half_19
    rw [D1, if_pos (Int32.le_refl _)]
    dsimp only
    by_cases q : hv_dec h left h.C < 5000
    · rw [if_pos q, if_neg (show ¬ (5000 : Int32) ≤ hI _ from hI_nle (n := 5000) (by decide) (by omega) q)]
    · rw [if_neg q, if_pos (show (5000 : Int32) ≤ hI _ from (hI_le (n := 5000) (by decide) (by omega)).mpr (by omega)), hI_add1]
theorem hv_out_M_half_11 {h : hv} {σ : am_St} (H : hv_at h σ) : f_M_half_11 10000 1 σ = some (hv_half h 99 1 10000, σ) := by
  unfold f_M_half_11
  have L := hv_lp (body := fun s : Int32 × Int32 × am_St => b_M_half_11 s.1 s.2.1 s.2.2) (P := fun x => x = (hv_half h 99 1 10000, σ)) (fun n t => ∃ left, t = (hI left, hI (100 - n), σ) ∧ left ≤ 10000 ∧ n ≤ 99 ∧ hv_half h n (100 - n) left = hv_half h 99 1 10000) 99 (10000, 1, σ) ⟨10000, rfl, by decide, by decide, rfl⟩ ?_ ?_
  · obtain ⟨x, e, rfl⟩ := L; exact e
  · rintro n t ⟨left, rfl, hl, hn, e⟩
    obtain ⟨x, ex, rfl⟩ := hv_in_M_half_19 H hl (w := 100 - (n + 1)) (by omega)
    have B : b_M_half_11 (hI left) (hI (100 - (n + 1))) σ = some (if hv_dec h left h.C < 5000 then .inr (hI (100 - (n + 1)), σ) else .inl (hI (hv_dec h left h.C), hI (100 - (n + 1) + 1), σ)) := by
      unfold b_M_half_11
      first
      | rw [if_neg (show ¬ (99 : Int32) < hI (100 - (n + 1)) from hI_nlt (n := 99) (by decide) (by omega) (by omega)), ex]
      | rw [if_neg (show ¬ (100 : Int32) ≤ hI (100 - (n + 1)) from hI_nle (n := 100) (by decide) (by omega) (by omega)), ex]
    rw [hv_half_s] at e
    by_cases q : hv_dec h left h.C < 5000
    · rw [if_pos q] at e B
      exact .inr ⟨_, B, by rw [e]⟩
    · rw [if_neg q] at e B
      refine .inl ⟨_, B, hv_dec h left h.C, by rw [show 100 - (n + 1) + 1 = 100 - n by omega], hv_dec_le hl _, by omega, ?_⟩
      rw [← e, show 100 - (n + 1) + 1 = 100 - n by omega]
  · rintro t ⟨left, rfl, hl, hn, e⟩
    rw [hv_half_0] at e
    refine ⟨_, ?_, by rw [← e]⟩
    rfl
theorem hv_st_half : st_half hv_inv := by
  intro σ hi
  obtain ⟨h, H⟩ := hi.at
  refine hv_qry hi H 0 (hv_half h 99 1 10000) ⟨σ, ?_, hv_Sx.same _ _⟩ (fun τ T _ => ?_)
  · rw [eq_X_half]; unfold g_X_half
    rw [eq_P_weeksToHalf_1]; unfold g_P_weeksToHalf_1
    rw [hv_out_P_weeksToHalf_1_6 H]; rfl
  · refine hv_thr ?_
    rw [eq_M_half]; unfold g_M_half
    replace T := T.thrown
    generalize am_sI τ 66 22 0 = τ at T ⊢
    dsimp only
    refine ⟨τ, ?_, hv_Sx.same _ _⟩
    rw [hv_out_M_half_11 T]
/-! tale -/
def hv_tin (cost : Nat) : Nat → Nat → Nat → Nat → (Nat × Nat) ⊕ (Nat × Nat)
  | 0, _, left, many => .inl (left, many)
  | n + 1, c, left, many => if left < cost then .inr (many, c) else hv_tin cost n (c + 1) (left - cost) (many + 1)
theorem hv_tin_0 (cost c left many : Nat) : hv_tin cost 0 c left many = .inl (left, many) := by rw [hv_tin]
theorem hv_tin_s (cost n c left many : Nat) : hv_tin cost (n + 1) c left many = if left < cost then .inr (many, c) else hv_tin cost n (c + 1) (left - cost) (many + 1) := by rw [hv_tin]
def hv_minBy (h : hv) (k : Nat) : Nat := if k = 0 then h.dm else if k ≤ h.dm then k - 1 else k
def hv_tval (w m c mi : Nat) : Int32 := if w = 0 then hI m else hI (10 * c + mi)
def hv_tend (w m : Nat) : Int32 := if w = 0 then hI m else -9
def hv_tout (h : hv) (w : Nat) : Nat → Nat → Nat → Nat → Int32
  | 0, _, _, many => hv_tend w many
  | n + 1, k, left, many => match hv_tin (if k = 0 then 5 else 2) h.C 0 left many with
    | .inl p => hv_tout h w n (k + 1) p.1 p.2
    | .inr p => hv_tval w p.1 p.2 (hv_minBy h k)
theorem hv_tout_0 (h : hv) (w k left many : Nat) : hv_tout h w 0 k left many = hv_tend w many := by rw [hv_tout]
theorem hv_tout_s (h : hv) (w n k left many : Nat) : hv_tout h w (n + 1) k left many = match hv_tin (if k = 0 then 5 else 2) h.C 0 left many with
    | .inl p => hv_tout h w n (k + 1) p.1 p.2
    | .inr p => hv_tval w p.1 p.2 (hv_minBy h k) := by rw [hv_tout]
theorem hv_tin_le {cost : Nat} : ∀ n c left many p, left ≤ 99 → hv_tin cost n c left many = .inl p → p.1 ≤ 99 := by
  intro n
  induction n with
  | zero => intro c left many p hl e; rw [hv_tin_0] at e; cases e; exact hl
  | succ n ih =>
    intro c left many p hl e
    rw [hv_tin_s] at e
    by_cases q : left < cost
    · rw [if_pos q] at e; cases e
    · rw [if_neg q] at e; exact ih _ _ _ _ (by omega) e
theorem hv_M_tin {h : hv} {σ : am_St} (H : hv_at h σ) {w left k : Nat} (many : Nat) (hw : w < 2) (hl : left ≤ 99) (hk : k < 6) : ∃ x, f_M_tale_65 (hI w) (hI left) (hI many) (hI k) 0 σ = some x ∧ x = match hv_tin (if k = 0 then 5 else 2) h.C 0 left many with
    | .inl p => .inl (hI w, hI p.1, hI p.2, hI (k + 1), σ)
    | .inr p => .inr (hv_tval w p.1 p.2 (hv_minBy h k), σ) := by
  have kC := H.ok.C
  have kM := H.ok.M
  have km := H.ok.dm
  have D1 : σ.1 66 2 = hI h.C := H.m.C
  have D2 : σ.1 66 6 = hI h.dm := H.m.dm
  unfold f_M_tale_65
  refine hv_lp (fun n t => ∃ left' many', t = (hI w, hI left', hI many', hI k, hI (h.C - n), σ) ∧ left' ≤ 99 ∧ n ≤ h.C ∧ hv_tin (if k = 0 then 5 else 2) n (h.C - n) left' many' = hv_tin (if k = 0 then 5 else 2) h.C 0 left many) h.C _ ⟨left, many, by rw [Nat.sub_self]; rfl, hl, Nat.le_refl _, by rw [Nat.sub_self]⟩ ?_ ?_
  · rintro n t ⟨left', many', rfl, hl', hn, e⟩
    have A : ∀ cost : Nat, (cost = 5 ∨ cost = 2) → f_M_tale_86 (hI w) (hI many') (hI k) (hI (h.C - (n + 1))) (hI left') (hI cost) σ = some (if left' < cost then .inr (.inr (hv_tval w many' (h.C - (n + 1)) (hv_minBy h k), σ)) else .inl (hI w, hI (left' - cost), hI (many' + 1), hI k, hI (h.C - (n + 1) + 1), σ)) := fun cost hc => by
      rw [eq_M_tale_86]; unfold g_M_tale_86
      dsimp only
      by_cases q : left' < cost
      · have dd : ¬ 0 ≤ hI left' - hI cost := by
          have : ∀ l, l < 5 → ∀ c, c < 6 → l < c → ¬ 0 ≤ hI l - hI c := by decide +kernel
          exact this _ (by omega) _ (by omega) q
        rw [if_neg dd, if_pos q]
        unfold hv_tval
        by_cases z : w = 0
        · rw [z, if_pos (show hI 0 = 0 from rfl), if_pos rfl]
        · rw [if_neg (hI_ne0 (by omega) z), if_neg z, eq_M_minuteBy]
          unfold g_M_minuteBy hv_minBy
          rw [D2]
          by_cases k0 : k = 0
          · rw [k0, if_pos (show hI 0 = 0 from rfl), if_pos rfl, Option.bind_some]
            dsimp only
            rw [show (10 : Int32) * hI (h.C - (n + 1)) + hI h.dm = hI (10 * (h.C - (n + 1)) + h.dm) by rw [show (10 : Int32) = hI 10 from rfl, hI_mul, hI_add]]
          · rw [if_neg (hI_ne0 (by omega) k0), if_neg k0]
            by_cases kd : k ≤ h.dm
            · rw [if_neg (hI_nlt (by omega) (by omega) kd), if_pos kd, Option.bind_some]
              dsimp only
              rw [show hI k - 1 = hI (k - 1) from hI_sub (m := 1) (by omega), show (10 : Int32) * hI (h.C - (n + 1)) + hI (k - 1) = hI (10 * (h.C - (n + 1)) + (k - 1)) by rw [show (10 : Int32) = hI 10 from rfl, hI_mul, hI_add]]
            · rw [if_pos ((hI_lt (by omega) (by omega)).mpr (by omega)), if_neg kd, Option.bind_some]
              dsimp only
              rw [show (10 : Int32) * hI (h.C - (n + 1)) + hI k = hI (10 * (h.C - (n + 1)) + k) by rw [show (10 : Int32) = hI 10 from rfl, hI_mul, hI_add]]
      · rw [hI_sub (by omega), if_pos (show (0 : Int32) ≤ hI (left' - cost) from (hI_le (n := 0) (by decide) (by omega)).mpr (Nat.zero_le _)), if_neg q, hI_add1, hI_add1]
    have B : b_M_tale_65 (hI w) (hI left') (hI many') (hI k) (hI (h.C - (n + 1))) σ = f_M_tale_86 (hI w) (hI many') (hI k) (hI (h.C - (n + 1))) (hI left') (hI (if k = 0 then 5 else 2)) σ := by
      unfold b_M_tale_65
      rw [D1, if_neg (hI_nle (by omega) (by omega) (by omega))]
      by_cases k0 : k = 0
      · rw [k0, if_pos (show hI 0 = 0 from rfl), if_pos rfl]; rfl
      · rw [if_neg (hI_ne0 (by omega) k0), if_neg k0]; rfl
    rw [A _ (by split <;> decide)] at B
    rw [hv_tin_s] at e
    by_cases q : left' < (if k = 0 then 5 else 2)
    · rw [if_pos q] at B e
      rw [← e]
      exact .inr ⟨_, B, rfl⟩
    · rw [if_neg q] at B e
      exact .inl ⟨_, B, _, _, by rw [show h.C - (n + 1) + 1 = h.C - n by omega], by omega, by omega, by rw [← e, show h.C - (n + 1) + 1 = h.C - n by omega]⟩
  · rintro t ⟨left', many', rfl, hl', hn, e⟩
    rw [hv_tin_0] at e
    rw [← e]
    refine ⟨_, ?_, rfl⟩
    show b_M_tale_65 (hI w) (hI left') (hI many') (hI k) (hI (h.C - 0)) σ = _
    unfold b_M_tale_65
    rw [D1, Nat.sub_zero, if_pos (Int32.le_refl _)]
    dsimp only
    rw [hI_add1]
theorem hv_M_tale {h : hv} {σ : am_St} (H : hv_at h σ) {w n : Nat} (hw : w < 2) (hn : n ≤ 99) : f_M_tale_53 (hI w) (hI n) 0 0 σ = some (hv_tout h w h.M 0 n 0, σ) := by
  have kM := H.ok.M
  have D1 : σ.1 66 1 = hI h.M := H.m.M
  unfold f_M_tale_53
  have L := hv_lp (body := fun s : Int32 × Int32 × Int32 × Int32 × am_St => b_M_tale_53 s.1 s.2.1 s.2.2.1 s.2.2.2.1 s.2.2.2.2) (P := fun x => x = (hv_tout h w h.M 0 n 0, σ)) (fun j t => ∃ left many, t = (hI w, hI left, hI many, hI (h.M - j), σ) ∧ left ≤ 99 ∧ j ≤ h.M ∧ hv_tout h w j (h.M - j) left many = hv_tout h w h.M 0 n 0) h.M (hI w, hI n, 0, 0, σ) ⟨n, 0, by rw [Nat.sub_self]; rfl, hn, Nat.le_refl _, by rw [Nat.sub_self]⟩ ?_ ?_
  · obtain ⟨x, e, rfl⟩ := L; exact e
  · rintro j t ⟨left, many, rfl, hl, hj, e⟩
    obtain ⟨x, ex, rfl⟩ := hv_M_tin H (w := w) (k := h.M - (j + 1)) many hw hl (by omega)
    have B : b_M_tale_53 (hI w) (hI left) (hI many) (hI (h.M - (j + 1))) σ = f_M_tale_65 (hI w) (hI left) (hI many) (hI (h.M - (j + 1))) 0 σ := by
      unfold b_M_tale_53
      rw [D1, if_neg (hI_nle (by omega) (by omega) (by omega))]
    rw [ex] at B
    rw [hv_tout_s] at e
    cases q : hv_tin (if h.M - (j + 1) = 0 then 5 else 2) h.C 0 left many with
    | inl p =>
      rw [q] at B e
      exact .inl ⟨_, B, _, _, by rw [show h.M - (j + 1) + 1 = h.M - j by omega], hv_tin_le _ _ _ _ _ hl q, by omega, by rw [← e, show h.M - (j + 1) + 1 = h.M - j by omega]⟩
    | inr p =>
      rw [q] at B e
      exact .inr ⟨_, B, by rw [← e]⟩
  · rintro t ⟨left, many, rfl, hl, hj, e⟩
    rw [hv_tout_0] at e
    refine ⟨_, ?_, by rw [← e]⟩
    show b_M_tale_53 (hI w) (hI left) (hI many) (hI (h.M - 0)) σ = _
    unfold b_M_tale_53 hv_tend
    rw [D1, Nat.sub_zero, if_pos (Int32.le_refl _)]
    by_cases z : w = 0
    · rw [z, if_pos (show hI 0 = 0 from rfl), if_pos rfl]
    · rw [if_neg (hI_ne0 (by omega) z), if_neg z]
theorem hv_X_tin {h : hv} {σ : am_St} (H : hv_at h σ) {w left cost mi : Nat} (many : Nat) (x5 x6 : Int32) (h1 : x6 = 0 → x5 = hI mi) (h2 : ¬ x6 = 0 → mi = h.dm) (hc : cost = 5 ∨ cost = 2) (hw : w < 2) (hl : left ≤ 99) : ∃ x, f_P_agreed_1_61 (hI w) (hI left) (hI many) x5 x6 (hI cost) 0 σ = some x ∧ x = match hv_tin cost h.C 0 left many with
    | .inl p => .inl (hI w, hI p.1, hI p.2, x5 + 1, σ)
    | .inr p => .inr (hv_tval w p.1 p.2 mi, σ) := by
  have kC := H.ok.C
  have D1 : σ.1 1 2 = hI h.C := H.d.C
  have D2 : σ.1 1 4 = hI h.dm := H.d.dm
  unfold f_P_agreed_1_61
  refine hv_lp (fun n t => ∃ left' many', t = (hI w, hI left', hI many', x5, x6, hI cost, hI (h.C - n), σ) ∧ left' ≤ 99 ∧ n ≤ h.C ∧ hv_tin cost n (h.C - n) left' many' = hv_tin cost h.C 0 left many) h.C _ ⟨left, many, by rw [Nat.sub_self]; rfl, hl, Nat.le_refl _, by rw [Nat.sub_self]⟩ ?_ ?_
  · rintro n t ⟨left', many', rfl, hl', hn, e⟩
    have B : b_P_agreed_1_61 (hI w) (hI left') (hI many') x5 x6 (hI cost) (hI (h.C - (n + 1))) σ = some (if left' < cost then .inr (.inr (hv_tval w many' (h.C - (n + 1)) mi, σ)) else .inl (hI w, hI (left' - cost), hI (many' + 1), x5, x6, hI cost, hI (h.C - (n + 1) + 1), σ)) := by
      unfold b_P_agreed_1_61
      rw [D1, if_neg (hI_nle (by omega) (by omega) (by omega))]
      by_cases q : left' < cost
      · rw [if_neg (hI_nle (by omega) (by omega) q), if_pos q]
        unfold hv_tval
        have V : ∀ y, f_P_agreed_1_104 (10 * hI (h.C - (n + 1))) (hI y) σ = some (hI (10 * (h.C - (n + 1)) + y), σ) := fun y => by
          rw [eq_P_agreed_1_104]; unfold g_P_agreed_1_104
          rw [show (10 : Int32) = hI 10 from rfl, hI_mul, hI_add]
        by_cases z : w = 0
        · rw [z, if_pos (show hI 0 = 0 from rfl), if_pos rfl]
        · rw [if_neg (hI_ne0 (by omega) z), if_neg z]
          by_cases d : x6 = 0
          · rw [if_pos d, h1 d, V]; rfl
          · rw [if_neg d, D2, h2 d, V]; rfl
      · rw [if_pos ((hI_le (by omega) (by omega)).mpr (by omega)), if_neg q]
        dsimp only
        rw [hI_sub (by omega), hI_add1, hI_add1]
    rw [hv_tin_s] at e
    by_cases q : left' < cost
    · rw [if_pos q] at B e
      rw [← e]
      exact .inr ⟨_, B, rfl⟩
    · rw [if_neg q] at B e
      exact .inl ⟨_, B, _, _, by rw [show h.C - (n + 1) + 1 = h.C - n by omega], by omega, by omega, by rw [← e, show h.C - (n + 1) + 1 = h.C - n by omega]⟩
  · rintro t ⟨left', many', rfl, hl', hn, e⟩
    rw [hv_tin_0] at e
    rw [← e]
    refine ⟨_, ?_, rfl⟩
    show b_P_agreed_1_61 (hI w) (hI left') (hI many') x5 x6 (hI cost) (hI (h.C - 0)) σ = _
    unfold b_P_agreed_1_61
    rw [D1, Nat.sub_zero, if_pos (Int32.le_refl _), eq_P_agreed_1_120]
    rfl
theorem hv_X_tale {h : hv} {σ : am_St} (H : hv_at h σ) {w n : Nat} (hw : w < 2) (hn : n ≤ 99) : f_P_agreed_1 (hI n) (hI w) σ = some (hv_tout h w h.M 0 n 0, σ) := by
  have kM := H.ok.M
  have km := H.ok.dm
  have D1 : σ.1 1 1 = hI h.M := H.d.M
  have D2 : σ.1 1 4 = hI h.dm := H.d.dm
  rw [eq_P_agreed_1]; unfold g_P_agreed_1 f_P_agreed_1_8
  have S : ∀ j left many, left ≤ 99 → j ≤ h.M → hv_tout h w (if h.M - j ≤ h.dm then j - 1 else j) (if h.M - j ≤ h.dm then h.M - j + 1 else h.M - j) left many = hv_tout h w h.M 0 n 0 → (if h.M - j ≤ h.dm then 1 ≤ j else True) → ∃ x, am_lp (fun s : Int32 × Int32 × Int32 × Int32 × am_St => b_P_agreed_1_8 s.1 s.2.1 s.2.2.1 s.2.2.2.1 s.2.2.2.2) (hI w, hI left, hI many, hI (h.M - j), σ) = some x ∧ x = (hv_tout h w h.M 0 n 0, σ) := by
    intro j left many hl hj e _
    refine hv_lp (fun j t => ∃ left many, t = (hI w, hI left, hI many, hI (h.M - j), σ) ∧ left ≤ 99 ∧ j ≤ h.M ∧ hv_tout h w (if h.M - j ≤ h.dm then j - 1 else j) (if h.M - j ≤ h.dm then h.M - j + 1 else h.M - j) left many = hv_tout h w h.M 0 n 0) j _ ⟨left, many, rfl, hl, hj, e⟩ ?_ ?_
    · rintro j t ⟨left, many, rfl, hl, hj, e⟩
      have B : b_P_agreed_1_8 (hI w) (hI left) (hI many) (hI (h.M - (j + 1))) σ = f_P_agreed_1_27 (hI w) (hI left) (hI many) (hI (h.M - (j + 1))) 0 σ := by
        unfold b_P_agreed_1_8
        rw [D1, if_neg (hI_nle (by omega) (by omega) (by omega)), if_pos (show (0 : Int32) ≤ hI _ from (hI_le (n := 0) (by decide) (by omega)).mpr (Nat.zero_le _))]
      by_cases c : h.M - (j + 1) = h.dm
      · have B2 : f_P_agreed_1_27 (hI w) (hI left) (hI many) (hI (h.M - (j + 1))) 0 σ = some (.inl (hI w, hI left, hI many, hI (h.M - (j + 1) + 1), σ)) := by
          rw [eq_P_agreed_1_27]; unfold g_P_agreed_1_27
          rw [if_pos rfl, D2, if_pos (by rw [c]), eq_P_agreed_1_120]
          unfold g_P_agreed_1_120
          dsimp only
          rw [hI_add1]
        refine .inl ⟨_, B.trans B2, left, many, by rw [show h.M - (j + 1) + 1 = h.M - j by omega], hl, by omega, ?_⟩
        rw [if_pos (by omega), if_pos (by omega)] at e
        rw [if_neg (by omega), if_neg (by omega), ← e, show h.M - (j + 1) + 1 = h.M - j by omega, Nat.add_sub_cancel]
      · have B2 : f_P_agreed_1_27 (hI w) (hI left) (hI many) (hI (h.M - (j + 1))) 0 σ = f_P_agreed_1_61 (hI w) (hI left) (hI many) (hI (h.M - (j + 1))) 0 (hI 2) 0 σ := by
          rw [eq_P_agreed_1_27]; unfold g_P_agreed_1_27
          rw [if_pos rfl, D2, if_neg (hI_ne (by omega) (by omega) c), eq_P_agreed_1_46]
          unfold g_P_agreed_1_46
          rw [if_pos rfl, eq_P_agreed_1_56]
          rfl
        obtain ⟨x, ex, rfl⟩ := hv_X_tin H (w := w) (cost := 2) (mi := h.M - (j + 1)) many (hI (h.M - (j + 1))) 0 (fun _ => rfl) (fun q => absurd rfl q) (.inr rfl) hw hl
        rw [B2, ex] at B
        obtain ⟨J, hJ, K, hK, hJK⟩ : ∃ J, (if h.M - (j + 1) ≤ h.dm then j + 1 - 1 else j + 1) = J + 1 ∧ ∃ K, (if h.M - (j + 1) ≤ h.dm then h.M - (j + 1) + 1 else h.M - (j + 1)) = K ∧ ¬ K = 0 ∧ hv_minBy h K = h.M - (j + 1) ∧ J = (if h.M - j ≤ h.dm then j - 1 else j) ∧ K + 1 = (if h.M - j ≤ h.dm then h.M - j + 1 else h.M - j) := by
          by_cases q : h.M - (j + 1) ≤ h.dm
          · refine ⟨j - 1, by rw [if_pos q]; omega, _, by rw [if_pos q], by omega, ?_, ?_, ?_⟩
            · unfold hv_minBy; rw [if_neg (by omega), if_pos (by omega), Nat.add_sub_cancel]
            · rw [if_pos (by omega)]
            · rw [if_pos (by omega)]; omega
          · refine ⟨j, by rw [if_neg q], _, by rw [if_neg q], by omega, ?_, ?_, ?_⟩
            · unfold hv_minBy; rw [if_neg (by omega), if_neg (by omega)]
            · rw [if_neg (by omega)]
            · rw [if_neg (by omega)]; omega
        rw [hJ, hK, hv_tout_s, if_neg hJK.1, hJK.2.1] at e
        cases q : hv_tin 2 h.C 0 left many with
        | inl p =>
          rw [q] at B e
          refine .inl ⟨_, B, p.1, p.2, by rw [hI_add1, show h.M - (j + 1) + 1 = h.M - j by omega], hv_tin_le _ _ _ _ _ hl q, by omega, ?_⟩
          rw [← hJK.2.2.1, ← hJK.2.2.2]
          exact e
        | inr p =>
          rw [q] at B e
          exact .inr ⟨_, B, by rw [← e]⟩
    · rintro t ⟨left, many, rfl, hl, hj, e⟩
      rw [if_neg (by omega), if_neg (by omega), hv_tout_0] at e
      refine ⟨_, ?_, by rw [← e]⟩
      show b_P_agreed_1_8 (hI w) (hI left) (hI many) (hI (h.M - 0)) σ = _
      unfold b_P_agreed_1_8 hv_tend
      rw [D1, Nat.sub_zero, if_pos (Int32.le_refl _)]
      by_cases z : w = 0
      · rw [z, if_pos (show hI 0 = 0 from rfl), if_pos rfl]
      · rw [if_neg (hI_ne0 (by omega) z), if_neg z]
  obtain ⟨x, ex, rfl⟩ := hv_X_tin H (w := w) (left := n) (cost := 5) (mi := h.dm) 0 (-1) 1 (fun q => absurd q (by decide)) (fun _ => rfl) (.inl rfl) hw hn
  have B : b_P_agreed_1_8 (hI w) (hI n) 0 (-1) σ = f_P_agreed_1_61 (hI w) (hI n) (hI 0) (-1) 1 (hI 5) 0 σ := by
    unfold b_P_agreed_1_8
    have m1 : ∀ m, m < 7 → ¬ hI m ≤ -1 := by decide
    rw [D1, if_neg (m1 _ (by omega)), if_neg (by decide), eq_P_agreed_1_27]
    unfold g_P_agreed_1_27
    rw [if_neg (by decide), eq_P_agreed_1_46]
    unfold g_P_agreed_1_46
    rw [if_neg (by decide), eq_P_agreed_1_56]
    rfl
  rw [ex] at B
  have E : hv_tout h w h.M 0 n 0 = hv_tout h w h.M 0 n 0 := rfl
  obtain ⟨M', hM'⟩ : ∃ M', h.M = M' + 1 := ⟨h.M - 1, by omega⟩
  have E2 := hv_tout_s h w M' 0 n 0
  rw [← hM', if_pos rfl] at E2
  cases q : hv_tin 5 h.C 0 n 0 with
  | inl p =>
    rw [q] at B E2
    obtain ⟨x, ex, rfl⟩ := S h.M p.1 p.2 (hv_tin_le _ _ _ _ _ hn q) (Nat.le_refl _) (by
      rw [Nat.sub_self, if_pos (Nat.zero_le _), if_pos (Nat.zero_le _), E2, show h.M - 1 = M' by omega]) (by rw [Nat.sub_self, if_pos (Nat.zero_le _)]; omega)
    rw [am_lp_inl (s2 := (hI w, hI p.1, hI p.2, hI (h.M - h.M), σ)) (by
      show b_P_agreed_1_8 (hI w) (hI n) 0 (-1) σ = _
      rw [B, Nat.sub_self]; rfl)]
    exact ex
  | inr p =>
    rw [q] at B E2
    refine (am_lp_inr (x := some (hv_tout h w h.M 0 n 0, σ)) ?_)
    show b_P_agreed_1_8 (hI w) (hI n) 0 (-1) σ = _
    rw [B, E2]
    rfl
theorem hv_st_tale : st_tale hv_inv := by
  intro σ hi n w
  obtain ⟨h, H⟩ := hi.at
  rcases hv_num n 99 (by decide) 99 rfl with ⟨n1, n2⟩ | ⟨n1, n2, n3, n4⟩ | ⟨x, hx, rfl, n1, n2, n3, n4⟩
  · refine hv_qry hi H 4 (-4) (hv_refX (by decide) ?_) (fun τ T _ => ?_)
    · simp only [eq_X_tale, g_X_tale, n1, Option.bind_some, ↓reduceIte, hv_10, hv_01, hI_00, hI_10, hv_X_r1, hv_X_r2, hv_X_r3, hv_X_r4, hv_X_r6, hv_M_r1, hv_M_r2, hv_M_r3, hv_M_r4, hv_M_r6]
    · refine hv_thr ?_
      rw [eq_M_tale]; unfold g_M_tale
      replace T := T.thrown
      generalize am_sI τ 66 22 0 = τ at T ⊢
      dsimp only
      refine hv_refM (by decide) ?_
      simp only [eq_M_tale, g_M_tale, eq_M_tale_27, g_M_tale_27, eq_M_tale_32, g_M_tale_32, eq_M_tale_33, g_M_tale_33, eq_M_tale_86, g_M_tale_86, n1, eq_M_wrongNumber, g_M_wrongNumber, Option.bind_some, ↓reduceIte, hv_10, hv_01, hI_00, hI_10, hv_X_r1, hv_X_r2, hv_X_r3, hv_X_r4, hv_X_r6, hv_M_r1, hv_M_r2, hv_M_r3, hv_M_r4, hv_M_r6, show ¬ ((-4 : Int32) = 0) by decide, show ¬ ((0 : Int32) ≤ -4) by decide]
  · refine hv_qry hi H 6 (-6) (hv_refX (by decide) ?_) (fun τ T _ => ?_)
    · simp only [eq_X_tale, g_X_tale, n1, n3, Option.bind_some, ↓reduceIte, hv_10, hv_01, hI_00, hI_10, hv_X_r1, hv_X_r2, hv_X_r3, hv_X_r4, hv_X_r6, hv_M_r1, hv_M_r2, hv_M_r3, hv_M_r4, hv_M_r6]
    · refine hv_thr ?_
      rw [eq_M_tale]; unfold g_M_tale
      replace T := T.thrown
      generalize am_sI τ 66 22 0 = τ at T ⊢
      dsimp only
      refine hv_refM (by decide) ?_
      simp only [eq_M_tale, g_M_tale, eq_M_tale_27, g_M_tale_27, eq_M_tale_32, g_M_tale_32, eq_M_tale_33, g_M_tale_33, eq_M_tale_86, g_M_tale_86, n1, n3, eq_M_wrongNumber, g_M_wrongNumber, Option.bind_some, ↓reduceIte, hv_10, hv_01, hI_00, hI_10, hv_X_r1, hv_X_r2, hv_X_r3, hv_X_r4, hv_X_r6, hv_M_r1, hv_M_r2, hv_M_r3, hv_M_r4, hv_M_r6, show ¬ ((-6 : Int32) = 0) by decide, show ¬ ((0 : Int32) ≤ -6) by decide]
  · rcases hv_rng_cases w (n := 2) (by decide) with c3 | ⟨k, hk, rfl, c3⟩
    · refine hv_qry hi H 2 (-2) (hv_refX (by decide) ?_) (fun τ T _ => ?_)
      · simp only [eq_X_tale, g_X_tale, n1, n3, hv_X_01, c3, Option.bind_some, ↓reduceIte, hv_10, hv_01, hI_00, hI_10, hv_X_r1, hv_X_r2, hv_X_r3, hv_X_r4, hv_X_r6, hv_M_r1, hv_M_r2, hv_M_r3, hv_M_r4, hv_M_r6]
      · refine hv_thr ?_
        rw [eq_M_tale]; unfold g_M_tale
        replace T := T.thrown
        generalize am_sI τ 66 22 0 = τ at T ⊢
        dsimp only
        refine hv_refM (by decide) ?_
        simp only [eq_M_tale, g_M_tale, eq_M_tale_27, g_M_tale_27, eq_M_tale_32, g_M_tale_32, eq_M_tale_33, g_M_tale_33, eq_M_tale_86, g_M_tale_86, n1, n3, hv_M_01, c3, eq_M_wrongNumber, g_M_wrongNumber, Option.bind_some, ↓reduceIte, hv_10, hv_01, hI_00, hI_10, hv_X_r1, hv_X_r2, hv_X_r3, hv_X_r4, hv_X_r6, hv_M_r1, hv_M_r2, hv_M_r3, hv_M_r4, hv_M_r6, show ¬ ((0 : Int32) ≤ -2) by decide]
    · refine hv_qry hi H 0 (hv_tout h k h.M 0 x 0) ⟨σ, ?_, hv_Sx.same _ _⟩ (fun τ T _ => ?_)
      · simp only [eq_X_tale, g_X_tale, n1, n3, hv_X_01, c3, hv_X_tale H hk hx, Option.bind_some, ↓reduceIte, hv_10, hv_01, hI_00, hI_10, hv_X_r1, hv_X_r2, hv_X_r3, hv_X_r4, hv_X_r6, hv_M_r1, hv_M_r2, hv_M_r3, hv_M_r4, hv_M_r6]
      · refine hv_thr ?_
        rw [eq_M_tale]; unfold g_M_tale
        replace T := T.thrown
        generalize am_sI τ 66 22 0 = τ at T ⊢
        dsimp only
        refine ⟨τ, ?_, hv_Sx.same _ _⟩
        simp only [eq_M_tale, g_M_tale, eq_M_tale_27, g_M_tale_27, eq_M_tale_32, g_M_tale_32, eq_M_tale_33, g_M_tale_33, eq_M_tale_86, g_M_tale_86, n1, n3, hv_M_01, c3, eq_M_wrongNumber, g_M_wrongNumber, show ((0 : Int32) ≤ 0) = True from eq_true (by decide), hv_M_tale T hk hx, Option.bind_some, ↓reduceIte, hv_10, hv_01, hI_00, hI_10, hv_X_r1, hv_X_r2, hv_X_r3, hv_X_r4, hv_X_r6, hv_M_r1, hv_M_r2, hv_M_r3, hv_M_r4, hv_M_r6]
