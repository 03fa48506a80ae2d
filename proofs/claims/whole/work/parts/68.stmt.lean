/-! PURE: the statements of a house, as they change it -/
def hv_bld (g : hv) (a b : Nat) : hv := hv.mk a b 0 0 0 0 g.S (fun _ => 0) g.kind g.fig g.tie g.skill g.place g.chance g.fc g.fm g.fr g.fi g.sp g.sc g.sm g.sr
def hv_dor (g : hv) (a b : Nat) : hv := hv.mk g.R g.M g.C g.dr g.dm g.F g.S (fun r => if r = a then g.door a ^^^ 2 ^ b else if r = b then g.door b ^^^ 2 ^ a else g.door r) g.kind g.fig g.tie g.skill g.place g.chance g.fc g.fm g.fr g.fi g.sp g.sc g.sm g.sr
def hv_addC (g : hv) (k f t : Nat) : hv := hv.mk g.R g.M (g.C + 1) g.dr g.dm g.F g.S g.door (fun c => if c = g.C then k else g.kind c) (fun c => if c = g.C then f else g.fig c) (fun c => if c = g.C then t else g.tie c) (fun c => if c = g.C then 0 else g.skill c) (fun c m => if c = g.C then 0 else g.place c m) g.chance g.fc g.fm g.fr g.fi g.sp g.sc g.sm g.sr
def hv_setP (g : hv) (c : Nat) (p : Nat → Nat) : hv := hv.mk g.R g.M g.C g.dr g.dm g.F g.S g.door g.kind g.fig g.tie g.skill (fun d m => if d = c then p m else g.place d m) g.chance g.fc g.fm g.fr g.fi g.sp g.sc g.sm g.sr
theorem hv_bld_ok {g : hv} (ok : hv_ok g) (S0 : g.S = 0) {a b : Nat} (ha : 2 ≤ a ∧ a ≤ 4) (hb : 2 ≤ b ∧ b ≤ 6) : hv_ok (hv_bld g a b) := hv_ok.mk (fR := ha) (fM := hb) (fC := Nat.zero_le _) (fdr := by show 0 < a; omega) (fdm := by show 0 < b; omega) (fF := Nat.zero_le _) (fS := ok.S) (fdoor := fun r _ => ⟨Nat.two_pow_pos a, fun _ => rfl, Nat.zero_testBit r⟩) (fsym := fun r q _ _ => by show Nat.testBit 0 q = Nat.testBit 0 r; rw [Nat.zero_testBit, Nat.zero_testBit]) (fkind := fun c h => absurd h (Nat.not_lt_zero c)) (fplace := fun c h => absurd h (Nat.not_lt_zero c)) (fchance := ok.chance) (ffact := fun c h => absurd h (Nat.not_lt_zero c)) (fsay := fun i hi => absurd hi (by show ¬ i < g.S; omega))
theorem hv_bld_some (g : hv) (a b : Nat) : hv_some (hv_bld g a b) := fun c h => absurd h (Nat.not_lt_zero c)
theorem hv_dor_bit (g : hv) (a b r q : Nat) (ab : a ≠ b) : ((hv_dor g a b).door r).testBit q = ((g.door r).testBit q ^^ ((decide (r = a) && decide (q = b)) || (decide (r = b) && decide (q = a)))) := by
  show (if r = a then g.door a ^^^ 2 ^ b else if r = b then g.door b ^^^ 2 ^ a else g.door r).testBit q = _
  by_cases c1 : r = a
  · subst c1
    rw [if_pos rfl, Nat.testBit_xor, Nat.testBit_two_pow, decide_eq_true rfl, decide_eq_false ab, Bool.true_and, Bool.false_and, Bool.or_false]
    congr 1
    exact decide_eq_decide.mpr ⟨fun e => e.symm, fun e => e.symm⟩
  · rw [if_neg c1]
    by_cases c2 : r = b
    · subst c2
      rw [if_pos rfl, Nat.testBit_xor, Nat.testBit_two_pow, decide_eq_true rfl, decide_eq_false c1, Bool.true_and, Bool.false_and, Bool.false_or]
      congr 1
      exact decide_eq_decide.mpr ⟨fun e => e.symm, fun e => e.symm⟩
    · rw [if_neg c2, decide_eq_false c1, decide_eq_false c2]; simp
theorem hv_dor_ok {g : hv} (ok : hv_ok g) {a b : Nat} (ha : a < g.R) (hb : b < g.R) (ab : a ≠ b) : hv_ok (hv_dor g a b) := hv_ok.mk (fR := ok.R) (fM := ok.M) (fC := ok.C) (fdr := ok.dr) (fdm := ok.dm) (fF := ok.F) (fS := ok.S) (fdoor := fun r hr => ⟨by
    have kR := ok.R
    show (if r = a then g.door a ^^^ 2 ^ b else if r = b then g.door b ^^^ 2 ^ a else g.door r) < 2 ^ g.R
    split
    · exact Nat.xor_lt_two_pow (ok.door a (by omega)).1 (Nat.pow_lt_pow_right (by decide) hb)
    · split
      · exact Nat.xor_lt_two_pow (ok.door b (by omega)).1 (Nat.pow_lt_pow_right (by decide) ha)
      · exact (ok.door r hr).1, fun h => by
    show (if r = a then g.door a ^^^ 2 ^ b else if r = b then g.door b ^^^ 2 ^ a else g.door r) = 0
    have h' : g.R ≤ r := h
    rw [if_neg (by omega), if_neg (by omega)]
    exact (ok.door r hr).2.1 h, by
    rw [hv_dor_bit g a b r r ab, (ok.door r hr).2.2]
    by_cases c1 : r = a
    · rw [decide_eq_true c1, decide_eq_false (show ¬ r = b by omega)]; rfl
    · rw [decide_eq_false c1, Bool.and_false]; rfl⟩) (fsym := fun r q hr hq => by
    rw [hv_dor_bit g a b r q ab, hv_dor_bit g a b q r ab, ok.sym r q hr hq]
    congr 1
    rw [Bool.or_comm, Bool.and_comm (decide (r = b)), Bool.and_comm (decide (r = a))]) (fkind := ok.kind) (fplace := ok.place) (fchance := ok.chance) (ffact := ok.fact) (fsay := ok.say)
theorem hv_stay (g : hv) (hR : 0 < g.R) : ∀ m, 0 < hv_cnt g (fun _ _ => true) m 0 := by
  intro m
  induction m with
  | zero => rw [hv_cnt_zero, if_pos rfl]; decide
  | succ m ih =>
    rw [hv_cnt_succ, if_pos rfl]
    refine hv_sum_pos (r := 0) hR _ ?_
    rw [if_pos (show hv_step g 0 0 = true by unfold hv_step; rfl)]
    exact ih
theorem hv_addC_ok {g : hv} (ok : hv_ok g) (S0 : g.S = 0) {k f t : Nat} (hC : g.C < 4) (hk : k < 6) (hf : f < 10) (ht : t < 4) : hv_ok (hv_addC g k f t) := by
  have kR := ok.R
  have up : ∀ c, c < g.C → c < g.C + 1 := fun c h => by omega
  exact hv_ok.mk (fR := ok.R) (fM := ok.M) (fC := hC) (fdr := ok.dr) (fdm := ok.dm) (fF := ok.F) (fS := ok.S) (fdoor := ok.door) (fsym := ok.sym) (fkind := fun c hc => by
      show (if c = g.C then k else g.kind c) < 6 ∧ (if c = g.C then f else g.fig c) < 10 ∧ (if c = g.C then t else g.tie c) < 4 ∧ (if c = g.C then 0 else g.skill c) < 10
      by_cases q : c = g.C
      · rw [if_pos q, if_pos q, if_pos q, if_pos q]; exact ⟨hk, hf, ht, by decide⟩
      · rw [if_neg q, if_neg q, if_neg q, if_neg q]; exact ok.kind c (by have : c < g.C + 1 := hc; omega)) (fplace := fun c hc m hm => by
      show (if c = g.C then 0 else g.place c m) < g.R
      by_cases q : c = g.C
      · rw [if_pos q]; omega
      · rw [if_neg q]; exact ok.place c (by have : c < g.C + 1 := hc; omega) m hm) (fchance := ok.chance) (ffact := fun i hi => ⟨up _ (ok.fact i hi).1, (ok.fact i hi).2⟩) (fsay := fun i hi => absurd hi (by show ¬ i < g.S; omega))
theorem hv_addC_all (g : hv) (k f t : Nat) (may : Nat → Nat → Bool) : hv_all (hv_addC g k f t) may = hv_all g may := by
  rw [hv_all_eq, hv_all_eq]
  exact hv_sum_congr fun q _ => hv_cnt_same (g := hv_addC g k f t) (h := g) _ rfl rfl _ q
theorem hv_addC_some {g : hv} (ok : hv_ok g) (so : hv_some g) (k f t : Nat) : hv_some (hv_addC g k f t) := by
  have kR := ok.R
  intro c hc
  rw [hv_addC_all]
  show 0 < hv_all g (hv_may g c)
  by_cases q : c = g.C
  · have e : hv_may g c = fun _ _ => true := by
      funext m r
      show hv_mayN g c g.F m r = true
      unfold hv_mayN
      rw [List.all_eq_true]
      intro i hi
      have := (ok.fact i (List.mem_range.mp hi)).1
      rw [show (g.fc i == c) = false from beq_eq_false_iff_ne.mpr (by omega)]
      rfl
    rw [e, hv_all_eq]
    exact hv_sum_pos (r := 0) (by omega) _ (hv_stay g (by omega) _)
  · exact so c (by have : c < g.C + 1 := hc; omega)
theorem hv_setP_ok {g : hv} (ok : hv_ok g) {c : Nat} {p : Nat → Nat} (hp : ∀ m, m < g.M → p m < g.R) : hv_ok (hv_setP g c p) := hv_ok.mk (fR := ok.R) (fM := ok.M) (fC := ok.C) (fdr := ok.dr) (fdm := ok.dm) (fF := ok.F) (fS := ok.S) (fdoor := ok.door) (fsym := ok.sym) (fkind := ok.kind) (fplace := fun d hd m hm => by
  show (if d = c then p m else g.place d m) < g.R
  split
  · exact hp m hm
  · exact ok.place d hd m hm) (fchance := ok.chance) (ffact := ok.fact) (fsay := ok.say)
theorem hv_setP_some {g : hv} (so : hv_some g) (c : Nat) (p : Nat → Nat) : hv_some (hv_setP g c p) := hv_some_same (g := hv_setP g c p) (h := g) rfl rfl rfl rfl rfl rfl rfl rfl rfl so
/-- one goes from room to room by open steps -/
def hv_wayP (g : hv) (p : Nat → Nat) : Prop := ∀ m, m < g.M → p m < g.R ∧ (m = 0 ∨ p (m - 1) = p m ∨ (g.door (p (m - 1))).testBit (p m) = true)
/-- a statement: its letter, its digits, its sign -/
noncomputable def hv_do (g : hv) (l : Nat) (D : Nat → Nat) (x : Nat) : Option hv :=
  if l = 114 then @ite _ (2 ≤ D 0 ∧ D 0 ≤ 4 ∧ 2 ≤ D 1 ∧ D 1 ≤ 6) (Classical.propDecidable _) (some (hv_bld g (D 0) (D 1))) none
  else if l = 100 then @ite _ (D 0 < g.R ∧ D 1 < g.R ∧ D 0 ≠ D 1 ∧ hv_some (hv_dor g (D 0) (D 1))) (Classical.propDecidable _) (some (hv_dor g (D 0) (D 1))) none
  else if l = 99 then @ite _ (D 0 < 6 ∧ D 2 < 4 ∧ g.C < 4) (Classical.propDecidable _) (some (hv_addC g (D 0) (D 1) (D 2))) none
  else if l = 116 then @ite _ (D 0 < g.C ∧ hv_wayP g (fun m => D (1 + m))) (Classical.propDecidable _) (some (hv_setP g (D 0) (fun m => D (1 + m)))) none
  else if l = 98 then @ite _ (D 0 < g.R ∧ D 1 < g.M) (Classical.propDecidable _) (some (hv_deedTo g (D 0) (D 1))) none
  else @ite _ (D 0 < g.C ∧ D 1 < g.M ∧ D 2 < g.R ∧ g.F < 16 ∧ 0 < hv_all (hv_addF g (D 0) (D 1) (D 2) x) (hv_may (hv_addF g (D 0) (D 1) (D 2) x) (D 0))) (Classical.propDecidable _) (some (hv_addF g (D 0) (D 1) (D 2) x)) none
theorem hv_do_r (g : hv) (D : Nat → Nat) (x : Nat) : hv_do g 114 D x = @ite _ (2 ≤ D 0 ∧ D 0 ≤ 4 ∧ 2 ≤ D 1 ∧ D 1 ≤ 6) (Classical.propDecidable _) (some (hv_bld g (D 0) (D 1))) none := by unfold hv_do; rw [if_pos rfl]
theorem hv_do_d (g : hv) (D : Nat → Nat) (x : Nat) : hv_do g 100 D x = @ite _ (D 0 < g.R ∧ D 1 < g.R ∧ D 0 ≠ D 1 ∧ hv_some (hv_dor g (D 0) (D 1))) (Classical.propDecidable _) (some (hv_dor g (D 0) (D 1))) none := by unfold hv_do; rw [if_neg (by decide), if_pos rfl]
theorem hv_do_c (g : hv) (D : Nat → Nat) (x : Nat) : hv_do g 99 D x = @ite _ (D 0 < 6 ∧ D 2 < 4 ∧ g.C < 4) (Classical.propDecidable _) (some (hv_addC g (D 0) (D 1) (D 2))) none := by unfold hv_do; rw [if_neg (by decide), if_neg (by decide), if_pos rfl]
theorem hv_do_t (g : hv) (D : Nat → Nat) (x : Nat) : hv_do g 116 D x = @ite _ (D 0 < g.C ∧ hv_wayP g (fun m => D (1 + m))) (Classical.propDecidable _) (some (hv_setP g (D 0) (fun m => D (1 + m)))) none := by unfold hv_do; rw [if_neg (by decide), if_neg (by decide), if_neg (by decide), if_pos rfl]
theorem hv_do_b (g : hv) (D : Nat → Nat) (x : Nat) : hv_do g 98 D x = @ite _ (D 0 < g.R ∧ D 1 < g.M) (Classical.propDecidable _) (some (hv_deedTo g (D 0) (D 1))) none := by unfold hv_do; rw [if_neg (by decide), if_neg (by decide), if_neg (by decide), if_neg (by decide), if_pos rfl]
theorem hv_do_f (g : hv) (D : Nat → Nat) (x : Nat) : hv_do g 102 D x = @ite _ (D 0 < g.C ∧ D 1 < g.M ∧ D 2 < g.R ∧ g.F < 16 ∧ 0 < hv_all (hv_addF g (D 0) (D 1) (D 2) x) (hv_may (hv_addF g (D 0) (D 1) (D 2) x) (D 0))) (Classical.propDecidable _) (some (hv_addF g (D 0) (D 1) (D 2) x)) none := by unfold hv_do; rw [if_neg (by decide), if_neg (by decide), if_neg (by decide), if_neg (by decide), if_neg (by decide)]
/-- the letters that begin a statement -/
def hv_let (l : Nat) : Prop := l = 114 ∨ l = 100 ∨ l = 99 ∨ l = 116 ∨ l = 98 ∨ l = 102
theorem hv_do_ok {g g2 : hv} {l x : Nat} {D : Nat → Nat} (hl : hv_let l) (hD : ∀ i, i < 7 → D i < 10) (hx : x < 2) (ok : hv_ok g) (so : hv_some g) (S0 : g.S = 0) (e : hv_do g l D x = some g2) : hv_ok g2 ∧ hv_some g2 ∧ g2.S = 0 := by
  have iteE : ∀ {P : Prop} {a : hv}, @ite _ P (Classical.propDecidable _) (some a) none = some g2 → P ∧ a = g2 := fun {P a} q => by
    by_cases c : P
    · rw [if_pos c] at q; cases q; exact ⟨c, rfl⟩
    · rw [if_neg c] at q; cases q
  rcases hl with rfl | rfl | rfl | rfl | rfl | rfl
  · rw [hv_do_r] at e
    obtain ⟨c, rfl⟩ := iteE e
    exact ⟨hv_bld_ok ok S0 ⟨c.1, c.2.1⟩ c.2.2, hv_bld_some _ _ _, S0⟩
  · rw [hv_do_d] at e
    obtain ⟨c, rfl⟩ := iteE e
    exact ⟨hv_dor_ok ok c.1 c.2.1 c.2.2.1, c.2.2.2, S0⟩
  · rw [hv_do_c] at e
    obtain ⟨c, rfl⟩ := iteE e
    exact ⟨hv_addC_ok ok S0 c.2.2 c.1 (hD 1 (by decide)) c.2.1, hv_addC_some ok so _ _ _, S0⟩
  · rw [hv_do_t] at e
    obtain ⟨c, rfl⟩ := iteE e
    exact ⟨hv_setP_ok ok fun m hm => (c.2 m hm).1, hv_setP_some so _ _, S0⟩
  · rw [hv_do_b] at e
    obtain ⟨c, rfl⟩ := iteE e
    exact ⟨hv_deedTo_ok ok c.1 c.2, hv_deedTo_some so _ _, S0⟩
  · rw [hv_do_f] at e
    obtain ⟨c, rfl⟩ := iteE e
    exact ⟨hv_addF_ok ok c.2.2.2.1 c.1 c.2.1 c.2.2.1 hx, hv_addF_some so c.2.2.2.2, S0⟩
