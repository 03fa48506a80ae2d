/-! PURE: ways, can, where -/
theorem hI_00 : (hI 0 = (0 : Int32)) = True := eq_true rfl
theorem hI_10 : (hI 1 = (0 : Int32)) = False := eq_false (by decide)
theorem hv_refX {α : Type} {k : Nat} (hk : k ≠ 0) {σ : am_St} {v : α} {X : Option (α × am_St)} (e : X = some (v, am_sI σ 65 k (σ.1 65 k + 1))) : ∃ τ, X = some (v, τ) ∧ hv_Sx k 65 σ τ := ⟨_, e, hv_Sx.ref σ hk⟩
theorem hv_refM {α : Type} {k : Nat} (hk : k ≠ 0) {σ : am_St} {v : α} {X : Option (α × am_St)} (e : X = some (v, am_sI σ 82 k (σ.1 82 k + 1))) : ∃ τ, X = some (v, τ) ∧ hv_Sx k 82 σ τ := ⟨_, e, hv_Sx.ref σ hk⟩
theorem hv_X_01 (b : Int32) (σ : am_St) : f_X_isZeroOrOne b σ = some (hv_rng b 2, σ) := by
  rw [eq_X_isZeroOrOne]; unfold g_X_isZeroOrOne
  by_cases c : b = 0
  · rw [if_pos c, c]; rfl
  · rw [if_neg c]
    by_cases c2 : b = 1
    · rw [if_pos c2, c2]; rfl
    · rw [if_neg c2]
      rcases hv_rng_cases b (n := 2) (by decide) with e | ⟨k, hk, rfl, e⟩
      · rw [e]
      · have : k = 0 ∨ k = 1 := by omega
        rcases this with rfl | rfl
        · exact absurd rfl c
        · exact absurd rfl c2
theorem hv_M_01 (b : Int32) (σ : am_St) : f_M_in b.toInt64 0 1 σ = some (hv_rng b 2, σ) := hv_M_below (n := 2) (by decide) b σ
theorem hv_M_02 (b : Int32) (σ : am_St) : f_M_in b.toInt64 0 2 σ = some (hv_rng b 3, σ) := hv_M_below (n := 3) (by decide) b σ
theorem hv_M_03 (b : Int32) (σ : am_St) : f_M_in b.toInt64 0 3 σ = some (hv_rng b 4, σ) := hv_M_below (n := 4) (by decide) b σ
theorem hv_M_05 (b : Int32) (σ : am_St) : f_M_in b.toInt64 0 5 σ = some (hv_rng b 6, σ) := hv_M_below (n := 6) (by decide) b σ
theorem hv_X_point {h : hv} {σ : am_St} (H : hv_at h σ) (a b : Int32) : f_X_isPoint a b σ = some (if hv_rng a h.C = 0 then 0 else if hv_rng b h.M = 0 then 0 else 1, σ) := by
  rw [eq_X_isPoint]; unfold g_X_isPoint
  rw [H.hasChild]
  simp only [Option.bind_some]
  by_cases c : hv_rng a h.C = 0
  · rw [if_pos c, if_pos c]
  · rw [if_neg c, if_neg c, H.hasMinute]
    simp only [Option.bind_some]
    by_cases c2 : hv_rng b h.M = 0
    · rw [if_pos c2, if_pos c2]
    · rw [if_neg c2, if_neg c2]
/-- the ways with the child c in the deed's room at the deed's minute; all its ways -/
def hv_there (h : hv) (c : Nat) : Nat := hv_all h (hv_pin (hv_may h c) h.dm h.dr)
def hv_ways (h : hv) (c : Nat) : Nat := hv_all h (hv_may h c)
theorem hv_at.look {h : hv} {σ : am_St} (H : hv_at h σ) {c : Nat} (hc : c < h.C) : ∃ τ, f_W_look_1 (hI c) σ = some τ ∧ hv_fr hv_pw σ τ ∧ hv_wl h (hv_may h c) τ := hv_W_look H.d H.ok c (by have := H.ok.C; omega)
theorem hv_at.waysOf {h : hv} {σ : am_St} (H : hv_at h σ) {c : Nat} (hc : c < h.C) : ∃ τ, f_M_waysOf (hI c) σ = some (hI (hv_ways h c), τ) ∧ hv_fr hv_pm σ τ := hv_M_waysOf H.m H.ok c (by have := H.ok.C; omega)
theorem hv_at.thereOf {h : hv} {σ : am_St} (H : hv_at h σ) {c : Nat} (hc : c < h.C) : ∃ τ, f_M_thereOf (hI c) σ = some (hI (hv_there h c), τ) ∧ hv_fr hv_pm σ τ := hv_M_thereOf H.m H.ok (by have := H.ok.C; omega)
theorem hv_at.waysAt {h : hv} {σ : am_St} (H : hv_at h σ) {c m r : Nat} (hc : c < h.C) (hm : m < h.M) (hr : r < h.R) : ∃ τ, f_M_waysAt (hI c) (hI m) (hI r) σ = some (hI (hv_all h (hv_pin (hv_may h c) m r)), τ) ∧ hv_fr hv_pm σ τ := hv_M_waysAt H.m H.ok (by have := H.ok.C; omega) (by have := H.ok.M; omega) (by have := H.ok.R; omega)
theorem hv_fr.atw {h : hv} {σ τ : am_St} (f : hv_fr hv_pw σ τ) (H : hv_at h σ) : hv_at h τ := f.pwSm.at H
theorem hv_fr.atm {h : hv} {σ τ : am_St} (f : hv_fr hv_pm σ τ) (H : hv_at h σ) : hv_at h τ := f.pmSm.at H
theorem hv_wl.there {h : hv} {c : Nat} {σ : am_St} (w : hv_wl h (hv_may h c) σ) (H : hv_at h σ) : f_W_through (σ.1 1 4) (σ.1 1 3) σ = some (hI (hv_there h c), σ) := by
  rw [H.d.dm, H.d.dr]
  exact w.through H.ok H.ok.dm H.ok.dr
theorem hv_there_big {h : hv} (ok : hv_ok h) (c : Nat) : hv_there h c ≤ 4096 := hv_all_big ok _
theorem hv_ways_big {h : hv} (ok : hv_ok h) (c : Nat) : hv_ways h c ≤ 4096 := hv_all_big ok _
theorem hv_st_ways : st_ways hv_inv := by
  intro σ hi a b
  obtain ⟨h, H⟩ := hi.at
  rcases hv_rng_cases a H.C31 with c1 | ⟨c, hc, rfl, c1⟩
  · refine hv_qry hi H 1 (-1) (hv_refX (by decide) ?_) (fun τ T _ => ?_)
    · simp only [eq_X_ways, g_X_ways, eq_X_ways_43, g_X_ways_43, H.hasChild, c1, Option.bind_some, ↓reduceIte, hv_10, hv_01, hI_00, hI_10, hv_X_r1, hv_X_r2, hv_X_r3, hv_X_r4, hv_X_r6, hv_M_r1, hv_M_r2, hv_M_r3, hv_M_r4, hv_M_r6]
    · refine hv_thr ?_
      rw [eq_M_ways]; unfold g_M_ways
      replace T := T.thrown
      generalize am_sI τ 66 22 0 = τ at T ⊢
      dsimp only
      refine hv_refM (by decide) ?_
      simp only [eq_M_ways, g_M_ways, eq_M_ways_23, g_M_ways_23, eq_M_ways_38, g_M_ways_38, eq_M_ways_42, g_M_ways_42, T.isChild, c1, Option.bind_some, ↓reduceIte, hv_10, hv_01, hI_00, hI_10, hv_X_r1, hv_X_r2, hv_X_r3, hv_X_r4, hv_X_r6, hv_M_r1, hv_M_r2, hv_M_r3, hv_M_r4, hv_M_r6]
  · rcases hv_rng_cases b (n := 2) (by decide) with c2 | ⟨k, hk, rfl, c2⟩
    · refine hv_qry hi H 2 (-2) (hv_refX (by decide) ?_) (fun τ T _ => ?_)
      · simp only [eq_X_ways, g_X_ways, eq_X_ways_43, g_X_ways_43, H.hasChild, hv_X_01, c1, c2, Option.bind_some, ↓reduceIte, hv_10, hv_01, hI_00, hI_10, hv_X_r1, hv_X_r2, hv_X_r3, hv_X_r4, hv_X_r6, hv_M_r1, hv_M_r2, hv_M_r3, hv_M_r4, hv_M_r6]
      · refine hv_thr ?_
        rw [eq_M_ways]; unfold g_M_ways
        replace T := T.thrown
        generalize am_sI τ 66 22 0 = τ at T ⊢
        dsimp only
        refine hv_refM (by decide) ?_
        simp only [eq_M_ways, g_M_ways, eq_M_ways_23, g_M_ways_23, eq_M_ways_38, g_M_ways_38, eq_M_ways_42, g_M_ways_42, T.isChild, hv_M_01, c1, c2, Option.bind_some, ↓reduceIte, hv_10, hv_01, hI_00, hI_10, hv_X_r1, hv_X_r2, hv_X_r3, hv_X_r4, hv_X_r6, hv_M_r1, hv_M_r2, hv_M_r3, hv_M_r4, hv_M_r6]
    · obtain rfl | rfl : k = 0 ∨ k = 1 := by omega
      · refine hv_qry hi H 0 (hI (hv_ways h c)) ?_ (fun τ T _ => ?_)
        · obtain ⟨υ, e, f, w⟩ := H.look hc
          refine ⟨υ, ?_, hv_Sx.of f.pwSm⟩
          simp only [eq_X_ways, g_X_ways, eq_X_ways_43, g_X_ways_43, H.hasChild, hv_X_01, c1, c2, Option.bind_some, ↓reduceIte, hv_10, hv_01, hI_00, hI_10, hv_X_r1, hv_X_r2, hv_X_r3, hv_X_r4, hv_X_r6, hv_M_r1, hv_M_r2, hv_M_r3, hv_M_r4, hv_M_r6, e, w.wu.all H.ok, hv_ways]
        · refine hv_thr ?_
          rw [eq_M_ways]; unfold g_M_ways
          replace T := T.thrown
          generalize am_sI τ 66 22 0 = τ at T ⊢
          dsimp only
          obtain ⟨υ, e, f⟩ := T.waysOf hc
          refine ⟨υ, ?_, hv_Sx.of f.pmSm⟩
          simp only [eq_M_ways, g_M_ways, eq_M_ways_23, g_M_ways_23, eq_M_ways_38, g_M_ways_38, eq_M_ways_42, g_M_ways_42, T.isChild, hv_M_01, c1, c2, Option.bind_some, ↓reduceIte, hv_10, hv_01, hI_00, hI_10, hv_X_r1, hv_X_r2, hv_X_r3, hv_X_r4, hv_X_r6, hv_M_r1, hv_M_r2, hv_M_r3, hv_M_r4, hv_M_r6, e]
      · refine hv_qry hi H 0 (hI (hv_there h c)) ?_ (fun τ T _ => ?_)
        · obtain ⟨υ, e, f, w⟩ := H.look hc
          refine ⟨υ, ?_, hv_Sx.of f.pwSm⟩
          simp only [eq_X_ways, g_X_ways, eq_X_ways_43, g_X_ways_43, H.hasChild, hv_X_01, c1, c2, Option.bind_some, ↓reduceIte, hv_10, hv_01, hI_00, hI_10, hv_X_r1, hv_X_r2, hv_X_r3, hv_X_r4, hv_X_r6, hv_M_r1, hv_M_r2, hv_M_r3, hv_M_r4, hv_M_r6, e, w.there (f.atw H)]
        · refine hv_thr ?_
          rw [eq_M_ways]; unfold g_M_ways
          replace T := T.thrown
          generalize am_sI τ 66 22 0 = τ at T ⊢
          dsimp only
          obtain ⟨υ, e, f⟩ := T.thereOf hc
          refine ⟨υ, ?_, hv_Sx.of f.pmSm⟩
          simp only [eq_M_ways, g_M_ways, eq_M_ways_23, g_M_ways_23, eq_M_ways_38, g_M_ways_38, eq_M_ways_42, g_M_ways_42, T.isChild, hv_M_01, c1, c2, Option.bind_some, ↓reduceIte, hv_10, hv_01, hI_00, hI_10, hv_X_r1, hv_X_r2, hv_X_r3, hv_X_r4, hv_X_r6, hv_M_r1, hv_M_r2, hv_M_r3, hv_M_r4, hv_M_r6, e]
/-- bits for those below n that p holds of -/
def hv_bits (p : Nat → Prop) [DecidablePred p] : Nat → Int32
  | 0 => 0
  | n + 1 => hv_bits p n ||| (if p n then 1 <<< (hI n &&& 31) else 0)
theorem hv_bits_0 (p : Nat → Prop) [DecidablePred p] : hv_bits p 0 = 0 := by rw [hv_bits]
theorem hv_bits_y {p : Nat → Prop} [DecidablePred p] {n : Nat} (y : p n) : hv_bits p (n + 1) = hv_bits p n ||| (1 <<< (hI n &&& 31)) := by rw [hv_bits, if_pos y]
theorem hv_bits_n {p : Nat → Prop} [DecidablePred p] {n : Nat} (y : ¬ p n) : hv_bits p (n + 1) = hv_bits p n := by rw [hv_bits, if_neg y, Int32.or_zero]
theorem hv_bits_n2 {p : Nat → Prop} [DecidablePred p] {n : Nat} (y : ¬ p n) : hv_bits p (n + 1) = hv_bits p n ||| 0 := by rw [hv_bits, if_neg y]
theorem hv_st_where : st_where hv_inv := by
  intro σ hi a b
  obtain ⟨h, H⟩ := hi.at
  have kR := H.ok.R
  rcases hv_rng_cases a H.C31 with c1 | ⟨c, hc, rfl, c1⟩
  · refine hv_qry hi H 1 (-1) (hv_refX (by decide) ?_) (fun τ T _ => ?_)
    · simp only [eq_X_where, g_X_where, eq_X_where_29, g_X_where_29, eq_X_where_64, g_X_where_64, hv_X_point H, c1, Option.bind_some, ↓reduceIte, hv_10, hv_01, hI_00, hI_10, hv_X_r1, hv_X_r2, hv_X_r3, hv_X_r4, hv_X_r6, hv_M_r1, hv_M_r2, hv_M_r3, hv_M_r4, hv_M_r6]
    · refine hv_thr ?_
      rw [eq_M_where]; unfold g_M_where
      replace T := T.thrown
      generalize am_sI τ 66 22 0 = τ at T ⊢
      dsimp only
      refine hv_refM (by decide) ?_
      simp only [eq_M_where, g_M_where, eq_M_where_21, g_M_where_21, eq_M_where_27, g_M_where_27, eq_M_where_61, g_M_where_61, T.isChild, c1, Option.bind_some, ↓reduceIte, hv_10, hv_01, hI_00, hI_10, hv_X_r1, hv_X_r2, hv_X_r3, hv_X_r4, hv_X_r6, hv_M_r1, hv_M_r2, hv_M_r3, hv_M_r4, hv_M_r6]
  · rcases hv_rng_cases b H.M31 with c2 | ⟨m, hm, rfl, c2⟩
    · refine hv_qry hi H 1 (-1) (hv_refX (by decide) ?_) (fun τ T _ => ?_)
      · simp only [eq_X_where, g_X_where, eq_X_where_29, g_X_where_29, eq_X_where_64, g_X_where_64, hv_X_point H, c1, c2, Option.bind_some, ↓reduceIte, hv_10, hv_01, hI_00, hI_10, hv_X_r1, hv_X_r2, hv_X_r3, hv_X_r4, hv_X_r6, hv_M_r1, hv_M_r2, hv_M_r3, hv_M_r4, hv_M_r6]
      · refine hv_thr ?_
        rw [eq_M_where]; unfold g_M_where
        replace T := T.thrown
        generalize am_sI τ 66 22 0 = τ at T ⊢
        dsimp only
        refine hv_refM (by decide) ?_
        simp only [eq_M_where, g_M_where, eq_M_where_21, g_M_where_21, eq_M_where_27, g_M_where_27, eq_M_where_61, g_M_where_61, T.isChild, T.isMinute, c1, c2, Option.bind_some, ↓reduceIte, hv_10, hv_01, hI_00, hI_10, hv_X_r1, hv_X_r2, hv_X_r3, hv_X_r4, hv_X_r6, hv_M_r1, hv_M_r2, hv_M_r3, hv_M_r4, hv_M_r6]
    · refine hv_qry hi H 0 (hv_bits (fun r => 0 < hv_all h (hv_pin (hv_may h c) m r)) h.R) ?_ (fun τ T _ => ?_)
      · obtain ⟨υ, e, f, w⟩ := H.look hc
        have d2 := f.atw H
        refine ⟨υ, ?_, hv_Sx.of f.pwSm⟩
        simp only [eq_X_where, g_X_where, eq_X_where_29, g_X_where_29, eq_X_where_64, g_X_where_64, hv_X_point H, c1, c2, Option.bind_some, ↓reduceIte, hv_10, hv_01, hI_00, hI_10, hv_X_r1, hv_X_r2, hv_X_r3, hv_X_r4, hv_X_r6, hv_M_r1, hv_M_r2, hv_M_r3, hv_M_r4, hv_M_r6, e]
        unfold f_X_where_32
        have L := hv_up (body := fun s : Int32 × Int32 × Int32 × am_St => b_X_where_32 s.1 s.2.1 s.2.2.1 s.2.2.2) (P := fun x => x = (hv_bits (fun r => 0 < hv_all h (hv_pin (hv_may h c) m r)) h.R, υ)) h.R (fun i s => s = (hI m, hv_bits (fun r => 0 < hv_all h (hv_pin (hv_may h c) m r)) i, hI i, υ)) 0 (Nat.zero_le _) (hI m, 0, 0, υ) (by rw [hv_bits_0]; rfl) ?_ ?_
        · obtain ⟨x, e, rfl⟩ := L; exact e
        · rintro i s hi rfl
          refine .inl ⟨_, ?_, rfl⟩
          show b_X_where_32 (hI m) _ (hI i) υ = _
          unfold b_X_where_32
          have kb := hv_all_big H.ok (hv_pin (hv_may h c) m i)
          rw [d2.d.R, if_neg (hI_nle (by omega) (by omega) hi), w.through H.ok hm hi]
          simp only [Option.bind_some, eq_X_where_64, g_X_where_64]
          by_cases p : 0 < hv_all h (hv_pin (hv_may h c) m i)
          · rw [if_neg (hI_le0 (by omega) p), hv_bits_y (p := fun r => 0 < hv_all h (hv_pin (hv_may h c) m r)) p, hI_add1]
          · rw [if_pos (show hI (hv_all h (hv_pin (hv_may h c) m i)) ≤ 0 by rw [show hv_all h (hv_pin (hv_may h c) m i) = 0 by omega]; decide), hv_bits_n (p := fun r => 0 < hv_all h (hv_pin (hv_may h c) m r)) p, hI_add1]
        · rintro s rfl
          refine ⟨_, ?_, rfl⟩
          show b_X_where_32 (hI m) _ (hI h.R) υ = _
          unfold b_X_where_32
          rw [d2.d.R, if_pos (Int32.le_refl _)]
      · refine hv_thr ?_
        rw [eq_M_where]; unfold g_M_where
        replace T := T.thrown
        generalize am_sI τ 66 22 0 = τ at T ⊢
        dsimp only
        simp only [eq_M_where, g_M_where, eq_M_where_21, g_M_where_21, eq_M_where_27, g_M_where_27, eq_M_where_61, g_M_where_61, T.isChild, T.isMinute, c1, c2, Option.bind_some, ↓reduceIte, hv_10, hv_01, hI_00, hI_10, hv_X_r1, hv_X_r2, hv_X_r3, hv_X_r4, hv_X_r6, hv_M_r1, hv_M_r2, hv_M_r3, hv_M_r4, hv_M_r6]
        unfold f_M_where_32
        have L := hv_up (body := fun s : Int32 × Int32 × Int32 × Int32 × am_St => b_M_where_32 s.1 s.2.1 s.2.2.1 s.2.2.2.1 s.2.2.2.2) (P := fun x => ∃ υ, x = (hv_bits (fun r => 0 < hv_all h (hv_pin (hv_may h c) m r)) h.R, υ) ∧ hv_fr hv_pm τ υ) h.R (fun i s => ∃ υ, s = (hI c, hI m, hv_bits (fun r => 0 < hv_all h (hv_pin (hv_may h c) m r)) i, hI i, υ) ∧ hv_fr hv_pm τ υ) 0 (Nat.zero_le _) (hI c, hI m, 0, 0, τ) ⟨τ, by rw [hv_bits_0]; rfl, hv_fr.rfl' _ _⟩ ?_ ?_
        · obtain ⟨x, e, υ, rfl, f⟩ := L; exact ⟨υ, e, hv_Sx.of f.pmSm⟩
        · rintro i s hi ⟨υ, rfl, f⟩
          obtain ⟨ω, e, f2⟩ := (f.atm T).waysAt hc hm hi
          refine .inl ⟨_, ?_, ω, rfl, f.trans f2⟩
          show b_M_where_32 (hI c) (hI m) _ (hI i) υ = _
          unfold b_M_where_32
          have kb := hv_all_big H.ok (hv_pin (hv_may h c) m i)
          rw [(f.atm T).m.R, if_neg (hI_nle (by omega) (by omega) hi), e]
          simp only [Option.bind_some, eq_M_where_61, g_M_where_61]
          by_cases p : 0 < hv_all h (hv_pin (hv_may h c) m i)
          · rw [if_neg (hI_le0 (by omega) p), hv_bits_y (p := fun r => 0 < hv_all h (hv_pin (hv_may h c) m r)) p, hI_add1]
          · rw [if_pos (show hI (hv_all h (hv_pin (hv_may h c) m i)) ≤ 0 by rw [show hv_all h (hv_pin (hv_may h c) m i) = 0 by omega]; decide), hv_bits_n2 (p := fun r => 0 < hv_all h (hv_pin (hv_may h c) m r)) p, hI_add1]
        · rintro s ⟨υ, rfl, f⟩
          refine ⟨_, ?_, υ, rfl, f⟩
          show b_M_where_32 (hI c) (hI m) _ (hI h.R) υ = _
          unfold b_M_where_32
          rw [(f.atm T).m.R, if_pos (Int32.le_refl _)]
theorem hv_st_can : st_can hv_inv := by
  intro σ hi b
  obtain ⟨h, H⟩ := hi.at
  have kC := H.ok.C
  rcases hv_rng_cases b (n := 2) (by decide) with c2 | ⟨k, hk, rfl, c2⟩
  · refine hv_qry hi H 2 (-2) (hv_refX (by decide) ?_) (fun τ T _ => ?_)
    · simp only [eq_X_can, g_X_can, eq_X_can_64, g_X_can_64, eq_X_can_85, g_X_can_85, eq_X_can_91, g_X_can_91, hv_X_01, c2, Option.bind_some, ↓reduceIte, hv_10, hv_01, hI_00, hI_10, hv_X_r1, hv_X_r2, hv_X_r3, hv_X_r4, hv_X_r6, hv_M_r1, hv_M_r2, hv_M_r3, hv_M_r4, hv_M_r6]
    · refine hv_thr ?_
      rw [eq_M_can]; unfold g_M_can
      replace T := T.thrown
      generalize am_sI τ 66 22 0 = τ at T ⊢
      dsimp only
      refine hv_refM (by decide) ?_
      simp only [eq_M_can, g_M_can, eq_M_can_67, g_M_can_67, eq_M_can_71, g_M_can_71, eq_M_can_72, g_M_can_72, eq_M_can_87, g_M_can_87, hv_M_01, c2, Option.bind_some, ↓reduceIte, hv_10, hv_01, hI_00, hI_10, hv_X_r1, hv_X_r2, hv_X_r3, hv_X_r4, hv_X_r6, hv_M_r1, hv_M_r2, hv_M_r3, hv_M_r4, hv_M_r6]
  · refine hv_qry hi H 0 (hv_bits (fun c => 0 < hv_there h c ∧ (k = 0 ∨ hv_there h c = hv_ways h c)) h.C) ?_ (fun τ T _ => ?_)
    · simp only [eq_X_can, g_X_can, eq_X_can_64, g_X_can_64, eq_X_can_85, g_X_can_85, eq_X_can_91, g_X_can_91, hv_X_01, c2, Option.bind_some, ↓reduceIte, hv_10, hv_01, hI_00, hI_10, hv_X_r1, hv_X_r2, hv_X_r3, hv_X_r4, hv_X_r6, hv_M_r1, hv_M_r2, hv_M_r3, hv_M_r4, hv_M_r6]
      unfold f_X_can_18
      have L := hv_up (body := fun s : Int32 × Int32 × Int32 × am_St => b_X_can_18 s.1 s.2.1 s.2.2.1 s.2.2.2) (P := fun x => ∃ υ, x = (hv_bits (fun c => 0 < hv_there h c ∧ (k = 0 ∨ hv_there h c = hv_ways h c)) h.C, υ) ∧ hv_fr hv_pw σ υ) h.C (fun i s => ∃ υ, s = (hI k, hv_bits (fun c => 0 < hv_there h c ∧ (k = 0 ∨ hv_there h c = hv_ways h c)) i, hI i, υ) ∧ hv_fr hv_pw σ υ) 0 (Nat.zero_le _) (hI k, 0, 0, σ) ⟨σ, by rw [hv_bits_0]; rfl, hv_fr.rfl' _ _⟩ ?_ ?_
      · obtain ⟨x, e, υ, rfl, f⟩ := L; exact ⟨υ, e, hv_Sx.of f.pwSm⟩
      · rintro i s hi ⟨υ, rfl, f⟩
        obtain ⟨ω, e, f2, w⟩ := (f.atw H).look hi
        refine .inl ⟨_, ?_, ω, rfl, f.trans f2⟩
        show b_X_can_18 (hI k) _ (hI i) υ = _
        unfold b_X_can_18
        have d3 := (f.trans f2).atw H
        have kb := hv_there_big H.ok i
        have kb2 := hv_ways_big H.ok i
        rw [(f.atw H).d.C, if_neg (hI_nle (by omega) (by omega) hi), e]
        simp only [Option.bind_some, w.there d3, eq_X_can_64, g_X_can_64, eq_X_can_91, g_X_can_91, eq_X_can_85, g_X_can_85, w.wu.all H.ok]
        by_cases p : 0 < hv_there h i
        · rw [if_neg (hI_le0 (by omega) p)]
          obtain rfl | rfl : k = 0 ∨ k = 1 := by omega
          · rw [if_pos (show hI 0 = 0 from rfl), hv_bits_y ⟨p, .inl rfl⟩, hI_add1]
          · rw [if_neg (show ¬ hI 1 = 0 by decide)]
            by_cases q : hv_there h i = hv_ways h i
            · rw [if_pos (show hI (hv_there h i) = hI (hv_all h (hv_may h i)) by rw [q]; rfl), hv_bits_y ⟨p, .inr q⟩, hI_add1]
            · rw [if_neg (hI_ne (by omega) (show hv_all h (hv_may h i) < 2 ^ 31 by unfold hv_ways at kb2; omega) q), hv_bits_n (fun x => x.2.elim (by decide) q), hI_add1]
        · rw [if_pos (show hI (hv_there h i) ≤ 0 by rw [show hv_there h i = 0 by omega]; decide), hv_bits_n (fun x => p x.1), hI_add1]
      · rintro s ⟨υ, rfl, f⟩
        refine ⟨_, ?_, υ, rfl, f⟩
        show b_X_can_18 (hI k) _ (hI h.C) υ = _
        unfold b_X_can_18
        rw [(f.atw H).d.C, if_pos (Int32.le_refl _)]
    · refine hv_thr ?_
      rw [eq_M_can]; unfold g_M_can
      replace T := T.thrown
      generalize am_sI τ 66 22 0 = τ at T ⊢
      dsimp only
      simp only [eq_M_can, g_M_can, eq_M_can_67, g_M_can_67, eq_M_can_71, g_M_can_71, eq_M_can_72, g_M_can_72, eq_M_can_87, g_M_can_87, hv_M_01, c2, Option.bind_some, ↓reduceIte, hv_10, hv_01, hI_00, hI_10, hv_X_r1, hv_X_r2, hv_X_r3, hv_X_r4, hv_X_r6, hv_M_r1, hv_M_r2, hv_M_r3, hv_M_r4, hv_M_r6]
      unfold f_M_can_26
      have L := hv_up (body := fun s : Int32 × Int32 × Int32 × am_St => b_M_can_26 s.1 s.2.1 s.2.2.1 s.2.2.2) (P := fun x => ∃ υ, x = (hv_bits (fun c => 0 < hv_there h c ∧ (k = 0 ∨ hv_there h c = hv_ways h c)) h.C, υ) ∧ hv_fr hv_pm τ υ) h.C (fun i s => ∃ υ, s = (hI k, hv_bits (fun c => 0 < hv_there h c ∧ (k = 0 ∨ hv_there h c = hv_ways h c)) i, hI i, υ) ∧ hv_fr hv_pm τ υ) 0 (Nat.zero_le _) (hI k, 0, 0, τ) ⟨τ, by rw [hv_bits_0]; rfl, hv_fr.rfl' _ _⟩ ?_ ?_
      · obtain ⟨x, e, υ, rfl, f⟩ := L; exact ⟨υ, e, hv_Sx.of f.pmSm⟩
      · rintro i s hi ⟨υ, rfl, f⟩
        obtain ⟨ω, e, f2⟩ := (f.atm T).thereOf hi
        have kb := hv_there_big H.ok i
        have kb2 := hv_ways_big H.ok i
        have A1 : ∀ υ x, f_M_can_72 (hI k) x (hI i) 1 υ = some (.inl (hI k, x ||| (1 <<< (hI i &&& 31)), hI (i + 1), υ)) := fun υ x => by
          simp only [eq_M_can_72, g_M_can_72, eq_M_can_87, g_M_can_87, Option.bind_some, ↓reduceIte, hv_10, hv_01, hI_00, hI_10, hv_X_r1, hv_X_r2, hv_X_r3, hv_X_r4, hv_X_r6, hv_M_r1, hv_M_r2, hv_M_r3, hv_M_r4, hv_M_r6, hI_add1]
        have A0 : ∀ υ x, f_M_can_72 (hI k) x (hI i) 0 υ = some (.inl (hI k, x ||| 0, hI (i + 1), υ)) := fun υ x => by
          simp only [eq_M_can_72, g_M_can_72, eq_M_can_87, g_M_can_87, Option.bind_some, ↓reduceIte, hv_10, hv_01, hI_00, hI_10, hv_X_r1, hv_X_r2, hv_X_r3, hv_X_r4, hv_X_r6, hv_M_r1, hv_M_r2, hv_M_r3, hv_M_r4, hv_M_r6, hI_add1]
        obtain rfl | rfl : k = 0 ∨ k = 1 := by omega
        · refine .inl ⟨_, ?_, ω, rfl, f.trans f2⟩
          show b_M_can_26 (hI 0) _ (hI i) υ = _
          unfold b_M_can_26
          rw [(f.atm T).m.C, if_neg (hI_nle (by omega) (by omega) hi), if_pos (show hI 0 = 0 from rfl), e]
          rw [Option.bind_some]
          dsimp only
          by_cases p : 0 < hv_there h i
          · rw [if_neg (hI_le0 (by omega) p), A1, hv_bits_y ⟨p, .inl rfl⟩]
          · rw [if_pos (show hI (hv_there h i) ≤ 0 by rw [show hv_there h i = 0 by omega]; decide), A0, hv_bits_n2 (fun x => p x.1)]
        · obtain ⟨ω2, e3, f3⟩ := ((f.trans f2).atm T).waysOf hi
          refine .inl ⟨_, ?_, ω2, rfl, (f.trans f2).trans f3⟩
          show b_M_can_26 (hI 1) _ (hI i) υ = _
          unfold b_M_can_26
          rw [(f.atm T).m.C, if_neg (hI_nle (by omega) (by omega) hi), if_neg (show ¬ hI 1 = 0 by decide), e]
          simp only [Option.bind_some, e3, eq_M_can_67, g_M_can_67, eq_M_can_71, g_M_can_71]
          by_cases q : hv_there h i = hv_ways h i
          · have p : 0 < hv_there h i := by rw [q]; exact H.so i hi
            rw [if_pos (show hI (hv_there h i) = hI (hv_ways h i) by rw [q]), A1, hv_bits_y ⟨p, .inr q⟩]
          · rw [if_neg (show ¬ hI (hv_there h i) = hI (hv_ways h i) from hI_ne (by omega) (by omega) q), A0, hv_bits_n2 (fun x => x.2.elim (by decide) q)]
      · rintro s ⟨υ, rfl, f⟩
        refine ⟨_, ?_, υ, rfl, f⟩
        show b_M_can_26 (hI k) _ (hI h.C) υ = _
        unfold b_M_can_26
        rw [(f.atm T).m.C, if_pos (Int32.le_refl _)]
