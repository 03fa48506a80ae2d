/-! PURE: together -/
theorem hv_M_belowN {n : Nat} (hn : n < 1000) (a : Int32) (σ : am_St) : f_M_in a.toInt64 0 ((hI n - 1).toInt64) σ = some (hv_rng a n, σ) := by
  rw [hv_M_in]
  unfold hv_rng
  have e1 : ((0 : Int64) ≤ a.toInt64) ↔ 0 ≤ a := by
    rw [Int64.le_iff_toInt_le, Int32.toInt_toInt64, Int32.le_iff_toInt_le]; rfl
  have e3 : (hI n - 1).toInt = (n : Int) - 1 := by
    have : hI n - 1 = Int32.ofInt ((n : Int) - 1) := by
      rw [Int32.ofInt_sub]; rfl
    rw [this, Int32.toInt_ofInt_of_le (by omega) (by omega)]
  have e2 : (a.toInt64 ≤ (hI n - 1).toInt64) ↔ a < hI n := by
    rw [Int64.le_iff_toInt_le, Int32.toInt_toInt64, Int32.toInt_toInt64, Int32.lt_iff_toInt_lt, e3, hI_toInt (by omega)]; omega
  simp only [e1, e2]
theorem hv_ush0 (x : Int32) {s : Nat} (hs : s ≤ 8) : (am_ush x (hI s) = 0) = ¬ (hv_rng x (2 ^ s) = 0) := by
  have hp : 2 ^ s ≤ 2 ^ 8 := Nat.pow_le_pow_right (by decide) hs
  have k : (am_ush x (hI s) = 0) ↔ x.toBitVec.toNat / 2 ^ s = 0 := by
    rw [← Int32.toBitVec_inj, ← BitVec.toNat_inj]
    have e : (am_ush x (hI s)).toBitVec.toNat = x.toBitVec.toNat / 2 ^ s := by
      have h8 : s = 0 ∨ s = 1 ∨ s = 2 ∨ s = 3 ∨ s = 4 ∨ s = 5 ∨ s = 6 ∨ s = 7 ∨ s = 8 := by omega
      rcases h8 with rfl | rfl | rfl | rfl | rfl | rfl | rfl | rfl | rfl <;> (rw [← Nat.shiftRight_eq_div_pow]; rfl)
    rw [e]; rfl
  have k2 : (x.toBitVec.toNat / 2 ^ s = 0) ↔ x.toBitVec.toNat < 2 ^ s := by
    rw [Nat.div_eq_zero_iff]
    have := Nat.two_pow_pos s
    omega
  refine propext ?_
  rw [k, k2]
  have tx : x.toInt = if 2 * x.toBitVec.toNat < 2 ^ 32 then (x.toBitVec.toNat : Int) else (x.toBitVec.toNat : Int) - 2 ^ 32 := by
    show x.toBitVec.toInt = _
    rw [BitVec.toInt_eq_toNat_cond]
    rfl
  have lx : x.toBitVec.toNat < 2 ^ 32 := x.toBitVec.isLt
  unfold hv_rng
  by_cases q : x.toBitVec.toNat < 2 ^ s
  · have q2 : 0 ≤ x ∧ x < hI (2 ^ s) := by
      rw [Int32.le_iff_toInt_le, Int32.lt_iff_toInt_lt, hI_toInt (by omega), tx, if_pos (by omega)]
      exact ⟨Int.natCast_nonneg _, by omega⟩
    rw [if_pos q2]
    exact ⟨fun _ => by decide, fun _ => q⟩
  · have q2 : ¬ (0 ≤ x ∧ x < hI (2 ^ s)) := by
      rw [Int32.le_iff_toInt_le, Int32.lt_iff_toInt_lt, hI_toInt (by omega), tx]
      intro e
      have e1 := e.1
      have e2 := e.2
      rw [show (0 : Int32).toInt = 0 from rfl] at e1
      split at e1
      · rename_i w
        rw [if_pos w] at e2
        omega
      · omega
    rw [if_neg q2]
    exact ⟨fun e => absurd e q, fun e => absurd rfl e⟩
/-- may by the facts and by the first n sayings of the set s -/
def hv_mayS (h : hv) (s c n m r : Nat) : Bool := hv_may h c m r && (List.range n).all fun i => !(s.testBit i && h.sc i == c && h.sm i == m) || h.sr i == r
theorem hv_mayS_0 (h : hv) (s c m r : Nat) : hv_mayS h s c 0 m r = hv_may h c m r := by unfold hv_mayS; simp
theorem hv_mayS_s (h : hv) (s c n m r : Nat) : hv_mayS h s c (n + 1) m r = (hv_mayS h s c n m r && (!(s.testBit n && h.sc n == c && h.sm n == m) || h.sr n == r)) := by
  unfold hv_mayS
  rw [List.range_succ, List.all_append, Bool.and_assoc]
  simp
theorem hv_mayS_other {h : hv} {s c n m r : Nat} (x : ¬ (s.testBit n = true ∧ h.sc n = c ∧ h.sm n = m)) : hv_mayS h s c (n + 1) m r = hv_mayS h s c n m r := by
  rw [hv_mayS_s]
  have : (s.testBit n && h.sc n == c && h.sm n == m) = false := by
    cases e : (s.testBit n && h.sc n == c && h.sm n == m)
    · rfl
    · rw [Bool.and_eq_true, Bool.and_eq_true, beq_iff_eq, beq_iff_eq] at e; exact absurd ⟨e.1.1, e.1.2, e.2⟩ x
  rw [this]; simp
theorem hv_mayS_is {h : hv} {s c n m r : Nat} (x : s.testBit n = true ∧ h.sc n = c ∧ h.sm n = m) : hv_mayS h s c (n + 1) m r = (hv_mayS h s c n m r && r == h.sr n) := by
  rw [hv_mayS_s, x.1, x.2.1, x.2.2, beq_self_eq_true, beq_self_eq_true, show (h.sr n == r) = (r == h.sr n) from Bool.beq_comm]; simp
def hv_agr (h : hv) (s c : Nat) : Nat := hv_all h (hv_mayS h s c h.S)
theorem hv_agr_big {h : hv} (ok : hv_ok h) (s c : Nat) : hv_agr h s c ≤ 4096 := hv_all_big ok _
/-- do the first n children have ways beside the set s -/
def hv_togN (h : hv) (s n : Nat) : Bool := (List.range n).all fun c => decide (0 < hv_agr h s c)
theorem hv_togN_0 (h : hv) (s : Nat) : hv_togN h s 0 = true := rfl
theorem hv_togN_s (h : hv) (s n : Nat) : hv_togN h s (n + 1) = (hv_togN h s n && decide (0 < hv_agr h s n)) := by
  unfold hv_togN
  rw [List.range_succ, List.all_append]
  simp
def hv_tog (h : hv) (s : Nat) : Bool := hv_togN h s h.C
theorem hv_togN_no {h : hv} {s c : Nat} (x : ¬ 0 < hv_agr h s c) : ∀ n, c < n → hv_togN h s n = false := by
  intro n
  induction n with
  | zero => intro e; omega
  | succ n ih =>
    intro e
    rw [hv_togN_s]
    by_cases q : c = n
    · subst q; rw [decide_eq_false x, Bool.and_false]
    · rw [ih (by omega)]; rfl
theorem hv_W_says {h : hv} {σ : am_St} (d : hv_dev 1 h σ) (ok : hv_ok h) {s c : Nat} (hs : s < 256) (hc : c < 4) (w : hv_wo h (hv_may h c) σ) : ∃ τ, f_W_openBySayings_1 (hI c) (hI s) σ = some τ ∧ hv_fr hv_pw σ τ ∧ hv_wo h (hv_mayS h s c h.S) τ := by
  have kS := ok.S
  have kC := ok.C
  rw [eq_W_openBySayings_1]; unfold g_W_openBySayings_1 f_W_openBySayings_1_3
  refine hv_up h.S (fun i t => t.1 = hI c ∧ t.2.1 = hI s ∧ t.2.2.1 = hI i ∧ hv_fr hv_pw σ t.2.2.2 ∧ hv_wo h (hv_mayS h s c i) t.2.2.2) 0 (Nat.zero_le _) _ ⟨rfl, rfl, rfl, hv_fr.rfl' _ _, w.congr fun m r _ _ => (hv_mayS_0 h s c m r).symm⟩ ?_ ?_
  · rintro i ⟨x, y, z, τ⟩ hi ⟨e1, e2, e3, fr, q⟩
    dsimp only at e1 e2 e3 fr q
    subst e1 e2 e3
    have d2 := fr.dev (by decide) d
    obtain ⟨f1, f2, f3, f4⟩ := ok.say i hi
    have f5 := ok.R
    have f6 := ok.M
    have SA : f_H_sayingAt_1 (hI i) τ = some (hI (hv_mark (h.sc i) (h.sm i) (h.sr i) (h.sp i)), τ) := by
      rw [eq_H_sayingAt_1]; unfold g_H_sayingAt_1
      rw [if_neg (hI_lt0 (by omega)), show τ.1 1 6 = hI h.S from d2.S, if_neg (hI_nle (by omega) (by omega) hi), if_pos (hI_ix (by omega) (by decide)), hI_clamp (by omega)]
      exact congrArg some (congrArg (Prod.mk · τ) (d2.say i hi))
    refine .inl ?_
    show ∃ s2, b_W_openBySayings_1_3 (hI c) (hI s) (hI i) τ = _ ∧ _
    unfold b_W_openBySayings_1_3
    rw [show τ.1 1 6 = hI h.S from d2.S, if_neg (hI_nle (by omega) (by omega) hi), SA]
    simp only [Option.bind_some, hI_bit8 hs (show i < 8 by omega)]
    have O : f_W_openBySayings_1_55 (hI c) (hI s) (hI i) τ = some (.inl (hI c, hI s, hI (i + 1), τ)) := by
      rw [eq_W_openBySayings_1_55]; unfold g_W_openBySayings_1_55
      dsimp only
      rw [hI_add1]
    by_cases b : s.testBit i = true
    · simp only [b, ↓reduceIte, eq_H_childIn, g_H_childIn, Option.bind_some]
      rw [show (9 : Int32) &&& 31 = 9 from rfl, hv_mark_child _ (by omega) _ (by omega) _ (by omega) _ (by omega)]
      by_cases cc : h.sc i = c
      · rw [if_pos (by rw [cc])]
        simp only [eq_W_openBySayings_1_39, g_W_openBySayings_1_39, Option.bind_some, eq_H_roomIn, g_H_roomIn, eq_H_minuteIn, g_H_minuteIn]
        rw [show (3 : Int32) &&& 31 = 3 from rfl, show (6 : Int32) &&& 31 = 6 from rfl, hv_mark_room _ (by omega) _ (by omega) _ (by omega) _ (by omega), hv_mark_minute _ (by omega) _ (by omega) _ (by omega) _ (by omega)]
        simp only [hv_W_narrow (show h.sm i < 6 by omega), Option.bind_some, eq_W_openBySayings_1_55, g_W_openBySayings_1_55]
        refine ⟨_, rfl, rfl, rfl, hI_add1 i, fr.set 55 _ _ rfl, q.nar _ (m := h.sm i) (((q.op _ (by omega)).bit (show h.sr i < 4 by omega)).congr fun r _ => (hv_mayS_is ⟨b, cc, rfl⟩).symm) fun j r hj => hv_mayS_other (fun e => hj e.2.2.symm)⟩
      · rw [if_neg (hI_ne (by omega) (by omega) cc), O]
        exact ⟨_, rfl, rfl, rfl, rfl, fr, q.congr fun m r _ _ => (hv_mayS_other (fun e => cc e.2.1)).symm⟩
    · rw [if_neg b, O]
      exact ⟨_, rfl, rfl, rfl, rfl, fr, q.congr fun m r _ _ => (hv_mayS_other (fun e => b e.1)).symm⟩
  · rintro ⟨x, y, z, τ⟩ ⟨e1, e2, e3, fr, q⟩
    dsimp only at e1 e2 e3 fr q
    subst e1 e2 e3
    have d2 := fr.dev (by decide) d
    show ∃ s2, b_W_openBySayings_1_3 (hI c) (hI s) (hI h.S) τ = _ ∧ _
    unfold b_W_openBySayings_1_3
    rw [show τ.1 1 6 = hI h.S from d2.S, if_pos (Int32.le_refl _)]
    exact ⟨_, rfl, fr, q⟩
theorem hv_W_agree {h : hv} {σ : am_St} (d : hv_dev 1 h σ) (ok : hv_ok h) {s c : Nat} (hs : s < 256) (hc : c < 4) : ∃ τ, f_W_agree_1 (hI c) (hI s) σ = some (if 0 < hv_agr h s c then 1 else 0, τ) ∧ hv_fr hv_pw σ τ := by
  obtain ⟨τ, e1, f1, w1⟩ := hv_W_open_1 d ok c hc
  obtain ⟨τ2, e1b, f1b, w1b⟩ := hv_W_says (f1.dev (by decide) d) ok hs hc w1
  obtain ⟨υ, e2, f2, f3, w2⟩ := hv_W_sum_57 ok w1b
  have w3 : hv_wu h (hv_mayS h s c h.S) υ := hv_wu.mk (w1b.keep fun i hi => f3 i (by omega)) w2
  have kb := hv_agr_big ok s c
  refine ⟨υ, ?_, (f1.trans f1b).trans ⟨f2, fun i hi => f3 i (fun e => by rw [e] at hi; cases hi)⟩⟩
  rw [eq_W_agree_1]; unfold g_W_agree_1
  rw [e1]
  simp only [Option.bind_some]
  rw [e1b]
  simp only [Option.bind_some]
  rw [e2]
  simp only [Option.bind_some]
  rw [eq_W_agree_1_23]; unfold g_W_agree_1_23
  rw [w3.all ok]
  simp only [Option.bind_some]
  show (if hI (hv_agr h s c) ≤ 0 then _ else _) = _
  by_cases c : 0 < hv_agr h s c
  · rw [if_pos c, if_neg (hI_le0 (by omega) c)]
  · rw [if_neg c, show hv_agr h s _ = 0 by omega, if_pos (by decide)]
theorem hv_W_allAgree {h : hv} {σ : am_St} (H : hv_at h σ) {s : Nat} (hs : s < 256) : ∃ τ, f_W_allAgree_1 (hI s) σ = some (if hv_tog h s then 1 else 0, τ) ∧ hv_fr hv_pw σ τ := by
  have kC := H.ok.C
  rw [eq_W_allAgree_1]; unfold g_W_allAgree_1 f_W_allAgree_1_2
  have L := hv_up (body := fun s : Int32 × Int32 × am_St => b_W_allAgree_1_2 s.1 s.2.1 s.2.2) (P := fun x => ∃ υ, x = ((if hv_tog h s then 1 else 0), υ) ∧ hv_fr hv_pw σ υ) h.C (fun i t => ∃ υ, t = (hI s, hI i, υ) ∧ hv_fr hv_pw σ υ ∧ hv_togN h s i = true) 0 (Nat.zero_le _) (hI s, 0, σ) ⟨σ, rfl, hv_fr.rfl' _ _, rfl⟩ ?_ ?_
  · obtain ⟨x, e, υ, rfl, f⟩ := L; exact ⟨υ, e, f⟩
  · rintro i t hi ⟨υ, rfl, f, g⟩
    obtain ⟨ω, e, f2⟩ := hv_W_agree ((f.atw H).d) H.ok hs (show i < 4 by omega)
    have B : b_W_allAgree_1_2 (hI s) (hI i) υ = if (if 0 < hv_agr h s i then (1 : Int32) else 0) = 0 then some (.inr (0, ω)) else some (.inl (hI s, hI (i + 1), ω)) := by
      unfold b_W_allAgree_1_2
      rw [(f.atw H).d.C, if_neg (hI_nle (by omega) (by omega) hi), e]
      simp only [Option.bind_some, hI_add1]
    by_cases q : 0 < hv_agr h s i
    · rw [if_pos q, if_neg (by decide)] at B
      exact .inl ⟨_, B, ω, rfl, f.trans f2, by rw [hv_togN_s, g, decide_eq_true q]; rfl⟩
    · rw [if_neg q, if_pos rfl] at B
      refine .inr ⟨_, B, ω, ?_, f.trans f2⟩
      have : hv_tog h s = false := hv_togN_no q h.C hi
      rw [this]; rfl
  · rintro t ⟨υ, rfl, f, g⟩
    refine ⟨(1, υ), ?_, υ, by rw [show hv_tog h s = true from g]; rfl, f⟩
    show b_W_allAgree_1_2 (hI s) (hI h.C) υ = _
    unfold b_W_allAgree_1_2
    rw [(f.atw H).d.C, if_pos (Int32.le_refl _)]
theorem hv_M_has8 {k q : Nat} (hk : k < 256) (hq : q < 8) (σ : am_St) : f_M_has (hI k) (hI q) σ = some (if k.testBit q then 1 else 0, σ) := by
  rw [eq_M_has]; unfold g_M_has
  simp only [hI_bit8 hk hq]
  split <;> rfl
theorem hv_M_agree {h : hv} {σ : am_St} (H : hv_at h σ) {s c : Nat} (hs : s < 256) (hc : c < h.C) (w : hv_mm h (hv_may h c) σ) : ∃ x, f_M_areTogether_24 (hI s) (hI c) 0 σ = some x ∧ ∃ τ, x = .inl (hI s, (if 0 < hv_agr h s c then 1 else 0), hI (c + 1), τ) ∧ hv_fr hv_pm σ τ := by
  have kS := H.ok.S
  have kC := H.ok.C
  unfold f_M_areTogether_24
  refine hv_up h.S (fun i t => t.1 = hI s ∧ t.2.1 = hI c ∧ t.2.2.1 = hI i ∧ hv_fr hv_pm σ t.2.2.2 ∧ hv_mm h (hv_mayS h s c i) t.2.2.2) 0 (Nat.zero_le _) _ ⟨rfl, rfl, rfl, hv_fr.rfl' _ _, w.congr fun m r _ _ => (hv_mayS_0 h s c m r).symm⟩ ?_ ?_
  · rintro i ⟨x, y, z, τ⟩ hi ⟨e1, e2, e3, fr, q⟩
    dsimp only at e1 e2 e3 fr q
    subst e1 e2 e3
    have T := fr.atm H
    obtain ⟨f1, f2, f3, f4⟩ := H.ok.say i hi
    have f5 := H.ok.R
    have f6 := H.ok.M
    refine .inl ?_
    have ix : am_ix (hI i) 8 = true := hI_ix (by omega) (by decide)
    have ix2 : am_ix (hI (h.sm i)) 6 = true := hI_ix (by omega) (by decide)
    have O : ∀ υ, f_M_areTogether_77 (hI s) (hI c) (hI i) υ = some (.inl (hI s, hI c, hI (i + 1), υ)) := fun υ => by
      rw [eq_M_areTogether_77]; unfold g_M_areTogether_77
      dsimp only
      rw [hI_add1]
    show ∃ s2, b_M_areTogether_24 (hI s) (hI c) (hI i) τ = _ ∧ _
    unfold b_M_areTogether_24
    rw [T.m.S, if_neg (hI_nle (by omega) (by omega) hi), hv_M_has8 hs (show i < 8 by omega)]
    simp only [Option.bind_some, O]
    by_cases b : s.testBit i = true
    · simp only [b, ↓reduceIte, hv_10]
      rw [if_pos ix, hI_clamp (by omega), T.m.sc i hi]
      by_cases cc : h.sc i = c
      · rw [if_pos (by rw [cc]), if_pos ix, T.m.sm i hi, if_pos ix2, if_pos ix, if_pos ix2, hI_clamp (by omega), T.m.sr i hi]
        refine ⟨_, rfl, rfl, rfl, rfl, fr.set 83 _ _ rfl, q.nar _ (m := h.sm i) (((q _ (by omega)).bit (show h.sr i < 4 by omega)).congr fun r _ => (hv_mayS_is ⟨b, cc, rfl⟩).symm) fun j r hj => hv_mayS_other (fun e => hj e.2.2.symm)⟩
      · rw [if_neg (hI_ne (by omega) (by omega) cc)]
        exact ⟨_, rfl, rfl, rfl, rfl, fr, q.congr fun m r _ _ => (hv_mayS_other (fun e => cc e.2.1)).symm⟩
    · simp only [b, Bool.false_eq_true, ↓reduceIte]
      exact ⟨_, rfl, rfl, rfl, rfl, fr, q.congr fun m r _ _ => (hv_mayS_other (fun e => b e.1)).symm⟩
  · rintro ⟨x, y, z, τ⟩ ⟨e1, e2, e3, fr, q⟩
    dsimp only at e1 e2 e3 fr q
    subst e1 e2 e3
    have T := fr.atm H
    have kb := hv_agr_big H.ok s c
    obtain ⟨ω, e, f2⟩ := hv_M_cw T.m H.ok q
    refine ⟨_, ?_, ω, rfl, fr.trans f2.p45⟩
    show b_M_areTogether_24 (hI s) (hI c) (hI h.S) τ = _
    unfold b_M_areTogether_24
    rw [T.m.S, if_pos (Int32.le_refl _), e]
    simp only [Option.bind_some, eq_M_areTogether_95, g_M_areTogether_95, hI_add1]
    show (if hI (hv_agr h s c) ≤ 0 then _ else _) = _
    by_cases c : 0 < hv_agr h s c
    · rw [if_pos c, if_neg (hI_le0 (by omega) c)]; rfl
    · rw [if_neg c, show hv_agr h s _ = 0 by omega, if_pos (by decide)]; rfl
theorem hv_M_areTogether {h : hv} {σ : am_St} (H : hv_at h σ) {s : Nat} (hs : s < 256) : ∃ τ, f_M_areTogether (hI s) σ = some (if hv_tog h s then 1 else 0, τ) ∧ hv_fr hv_pm σ τ := by
  have kC := H.ok.C
  rw [eq_M_areTogether]; unfold g_M_areTogether f_M_areTogether_4
  have L := hv_up (body := fun s : Int32 × Int32 × Int32 × am_St => b_M_areTogether_4 s.1 s.2.1 s.2.2.1 s.2.2.2) (P := fun x => ∃ υ, x = ((if hv_tog h s then 1 else 0), υ) ∧ hv_fr hv_pm σ υ) h.C (fun i t => ∃ υ, t = (hI s, (if hv_togN h s i then 1 else 0), hI i, υ) ∧ hv_fr hv_pm σ υ) 0 (Nat.zero_le _) (hI s, 1, 0, σ) ⟨σ, rfl, hv_fr.rfl' _ _⟩ ?_ ?_
  · obtain ⟨x, e, υ, rfl, f⟩ := L; exact ⟨υ, e, f⟩
  · rintro i t hi ⟨υ, rfl, f⟩
    have T := f.atm H
    cases g : hv_togN h s i
    · refine .inr ⟨(0, υ), ?_, υ, ?_, f⟩
      · show b_M_areTogether_4 (hI s) (if false = true then 1 else 0) (hI i) υ = _
        unfold b_M_areTogether_4
        rw [T.m.C, if_neg (hI_nle (by omega) (by omega) hi)]
        rfl
      · have : hv_tog h s = false := by
          have : ∀ n, i ≤ n → hv_togN h s n = false := by
            intro n
            induction n with
            | zero => intro e; rw [show i = 0 by omega] at g; exact g
            | succ n ih =>
              intro e
              by_cases q : i = n + 1
              · rw [← q]; exact g
              · rw [hv_togN_s, ih (by omega)]; rfl
          exact this h.C (by omega)
        rw [this]; rfl
    · obtain ⟨ω, e1, f1, w1⟩ := hv_M_lay T.m H.ok i (by omega)
      obtain ⟨x, e2, ω2, rfl, f2⟩ := hv_M_agree ((f.trans f1).atm H) hs hi w1
      refine .inl ⟨(hI s, (if 0 < hv_agr h s i then 1 else 0), hI (i + 1), ω2), ?_, ω2, ?_, (f.trans f1).trans f2⟩
      · show b_M_areTogether_4 (hI s) (if true = true then 1 else 0) (hI i) υ = _
        unfold b_M_areTogether_4
        rw [T.m.C, if_neg (hI_nle (by omega) (by omega) hi), if_neg (by decide), e1]
        simp only [Option.bind_some]
        exact e2
      · rw [hv_togN_s, g, Bool.true_and]
        by_cases q : 0 < hv_agr h s i
        · rw [if_pos q, decide_eq_true q]; rfl
        · rw [if_neg q, decide_eq_false q]; rfl
  · rintro t ⟨υ, rfl, f⟩
    refine ⟨_, ?_, υ, rfl, f⟩
    show b_M_areTogether_4 (hI s) _ (hI h.C) υ = _
    unfold b_M_areTogether_4
    dsimp only
    rw [(f.atm H).m.C, if_pos (Int32.le_refl _), show hv_togN h s h.C = hv_tog h s from rfl]
    cases hv_tog h s <;> exact if_pos (by decide)
theorem hv_st_together : st_together hv_inv := by
  intro σ hi x
  obtain ⟨h, H⟩ := hi.at
  have kS := H.ok.S
  have hp : 2 ^ h.S ≤ 2 ^ 8 := Nat.pow_le_pow_right (by decide) kS
  have D1 : σ.1 1 6 = hI h.S := H.d.S
  have U := hv_ush0 x kS
  rcases hv_rng_cases x (show 2 ^ h.S < 2 ^ 31 by omega) with c1 | ⟨s, hs, rfl, c1⟩
  · refine hv_qry hi H 1 (-1) (hv_refX (by decide) ?_) (fun τ T _ => ?_)
    · rw [eq_X_together]; unfold g_X_together
      rw [D1, if_neg (by rw [U]; exact fun e => e c1)]
      simp only [Option.bind_some, ↓reduceIte, hv_10, hv_01, hI_00, hI_10, hv_X_r1, hv_X_r2, hv_X_r3, hv_X_r4, hv_X_r6, hv_M_r1, hv_M_r2, hv_M_r3, hv_M_r4, hv_M_r6]
    · refine hv_thr ?_
      rw [eq_M_together]; unfold g_M_together
      replace T := T.thrown
      generalize am_sI τ 66 22 0 = τ at T ⊢
      dsimp only
      refine hv_refM (by decide) ?_
      rw [T.m.S, hI_pow _ (by omega), hv_M_belowN (by omega), c1]
      simp only [Option.bind_some, ↓reduceIte, hv_10, hv_01, hI_00, hI_10, hv_X_r1, hv_X_r2, hv_X_r3, hv_X_r4, hv_X_r6, hv_M_r1, hv_M_r2, hv_M_r3, hv_M_r4, hv_M_r6]
  · refine hv_qry hi H 0 (if hv_tog h s then 1 else 0) ?_ (fun τ T _ => ?_)
    · obtain ⟨υ, e, f⟩ := hv_W_allAgree H (s := s) (by omega)
      refine ⟨υ, ?_, hv_Sx.of f.pwSm⟩
      rw [eq_X_together]; unfold g_X_together
      rw [D1, if_pos (by rw [U, c1]; decide), e]
      simp only [Option.bind_some, eq_X_bit, g_X_bit]
      cases hv_tog h s <;> rfl
    · refine hv_thr ?_
      rw [eq_M_together]; unfold g_M_together
      replace T := T.thrown
      generalize am_sI τ 66 22 0 = τ at T ⊢
      dsimp only
      obtain ⟨υ, e, f⟩ := hv_M_areTogether T (s := s) (by omega)
      refine ⟨υ, ?_, hv_Sx.of f.pmSm⟩
      rw [T.m.S, hI_pow _ (by omega), hv_M_belowN (by omega), c1]
      simp only [Option.bind_some, ↓reduceIte, hv_10, hv_01, hI_00, hI_10, hv_X_r1, hv_X_r2, hv_X_r3, hv_X_r4, hv_X_r6, hv_M_r1, hv_M_r2, hv_M_r3, hv_M_r4, hv_M_r6, e]
      cases hv_tog h s <;> rfl
