/-! PURE: the grammar of a house; the class finds the first wrong letter -/
def hv_len (l mt : Nat) : Nat := if l = 114 ∨ l = 100 ∨ l = 98 then 4 else if l = 99 then 5 else if l = 102 then 6 else if l = 116 then 3 + mt else 0
theorem hv_len_let {l mt : Nat} (h : 0 < hv_len l mt) : hv_let l := by
  unfold hv_len at h
  unfold hv_let
  split at h
  · rename_i q; rcases q with q | q | q <;> omega
  · split at h
    · omega
    · split at h
      · omega
      · split at h
        · omega
        · omega
theorem hv_len_many {l mt : Nat} (h : hv_let l) : hv_len l mt = hv_many l mt + (if l = 102 then 3 else 2) := by
  unfold hv_len hv_many
  rcases h with rfl | rfl | rfl | rfl | rfl | rfl
  · rfl
  · rfl
  · rfl
  · rw [if_neg (by decide), if_neg (by decide), if_neg (by decide), if_pos rfl, if_neg (by decide), if_pos rfl, if_neg (by decide)]; omega
  · rfl
  · rfl
theorem hv_many_le {l mt : Nat} (h : mt ≤ 6) : 2 ≤ hv_many l mt ∨ mt < 2 := by
  unfold hv_many
  split
  · exact .inl (Nat.le_refl _)
  · split
    · omega
    · exact .inl (by omega)
/-- the place p of the statement from b on is right -/
def hv_gp (L : Nat → Nat) (n b len p : Nat) : Prop := b + p < n ∧ (if p = 0 then 0 < len else if p = len - 1 then L (b + p) = 59 else if L b = 102 ∧ p = 4 then (L (b + p) = 43 ∨ L (b + p) = 45) else 48 ≤ L (b + p) ∧ L (b + p) ≤ 57)
/-- the minutes behind the statement from b on -/
def hv_mt (L : Nat → Nat) (b mt : Nat) : Nat := if L b = 114 ∧ 2 ≤ L (b + 1) - 48 ∧ L (b + 1) - 48 ≤ 4 ∧ 2 ≤ L (b + 2) - 48 ∧ L (b + 2) - 48 ≤ 6 then L (b + 2) - 48 else mt
/-- where the statement k begins, and the minutes there -/
def hv_pos (L : Nat → Nat) (mt : Nat) : Nat → Nat × Nat
  | 0 => (0, mt)
  | k + 1 => ((hv_pos L mt k).1 + hv_len (L (hv_pos L mt k).1) (hv_pos L mt k).2, hv_mt L (hv_pos L mt k).1 (hv_pos L mt k).2)
theorem hv_pos_0 (L : Nat → Nat) (mt : Nat) : hv_pos L mt 0 = (0, mt) := by rw [hv_pos]
theorem hv_pos_s (L : Nat → Nat) (mt k : Nat) : hv_pos L mt (k + 1) = ((hv_pos L mt k).1 + hv_len (L (hv_pos L mt k).1) (hv_pos L mt k).2, hv_mt L (hv_pos L mt k).1 (hv_pos L mt k).2) := by rw [hv_pos]
/-- a statement is right -/
def hv_rt (L : Nat → Nat) (n b mt : Nat) : Prop := 0 < hv_len (L b) mt ∧ ∀ p, p < hv_len (L b) mt → hv_gp L n b (hv_len (L b) mt) p
theorem hv_mt_in {L : Nat → Nat} {b mt : Nat} (h : 2 ≤ mt ∧ mt ≤ 6) : 2 ≤ hv_mt L b mt ∧ hv_mt L b mt ≤ 6 := by
  unfold hv_mt
  split
  · rename_i q; exact ⟨q.2.2.2.1, q.2.2.2.2⟩
  · exact h
theorem hv_pos_mt {L : Nat → Nat} {mt : Nat} (h : 2 ≤ mt ∧ mt ≤ 6) : ∀ k, 2 ≤ (hv_pos L mt k).2 ∧ (hv_pos L mt k).2 ≤ 6 := by
  intro k
  induction k with
  | zero => rw [hv_pos_0]; exact h
  | succ k ih => rw [hv_pos_s]; exact hv_mt_in ih
theorem hv_len_in {l mt : Nat} (h : 0 < hv_len l mt) (hm : 2 ≤ mt ∧ mt ≤ 6) : 4 ≤ hv_len l mt ∧ hv_len l mt ≤ 9 := by
  unfold hv_len at h ⊢
  split
  · omega
  · split
    · omega
    · split
      · omega
      · split
        · omega
        · rename_i a b c d
          rw [if_neg a, if_neg b, if_neg c, if_neg d] at h
          omega
theorem hv_rt_end {L : Nat → Nat} {n b mt : Nat} (r : hv_rt L n b mt) : b + hv_len (L b) mt ≤ n := by
  have := (r.2 (hv_len (L b) mt - 1) (by have := r.1; omega)).1
  have := r.1
  omega
theorem hv_pos_ge {L : Nat → Nat} {n mt : Nat} (hm : 2 ≤ mt ∧ mt ≤ 6) : ∀ k, (∀ j, j < k → hv_rt L n (hv_pos L mt j).1 (hv_pos L mt j).2) → 4 * k ≤ (hv_pos L mt k).1 ∧ ((hv_pos L mt k).1 ≤ n ∨ k = 0) := by
  intro k
  induction k with
  | zero => intro _; exact ⟨Nat.zero_le _, .inr rfl⟩
  | succ k ih =>
    intro r
    obtain ⟨i1, -⟩ := ih fun j hj => r j (by omega)
    have rk := r k (by omega)
    have le := hv_len_in rk.1 (hv_pos_mt hm k)
    rw [hv_pos_s]
    dsimp only
    exact ⟨by omega, .inl (hv_rt_end rk)⟩
/-- a text is right to its end, or wrong somewhere -/
theorem hv_text (L : Nat → Nat) (n mt : Nat) (hm : 2 ≤ mt ∧ mt ≤ 6) : ∃ K, (∀ j, j < K → hv_rt L n (hv_pos L mt j).1 (hv_pos L mt j).2) ∧ ((1 ≤ K ∧ (hv_pos L mt K).1 = n) ∨ ((K = 0 ∨ (hv_pos L mt K).1 < n) ∧ ¬ hv_rt L n (hv_pos L mt K).1 (hv_pos L mt K).2)) := by
  have st : ∀ f k, n + 1 ≤ 4 * (k + f) → (∀ j, j < k → hv_rt L n (hv_pos L mt j).1 (hv_pos L mt j).2) → (k = 0 ∨ (hv_pos L mt k).1 < n) → ∃ K, (∀ j, j < K → hv_rt L n (hv_pos L mt j).1 (hv_pos L mt j).2) ∧ ((1 ≤ K ∧ (hv_pos L mt K).1 = n) ∨ ((K = 0 ∨ (hv_pos L mt K).1 < n) ∧ ¬ hv_rt L n (hv_pos L mt K).1 (hv_pos L mt K).2)) := by
    intro f
    induction f with
    | zero =>
      intro k hk r z
      have := (hv_pos_ge hm k r).1
      rcases z with z | z
      · subst z; omega
      · omega
    | succ f ih =>
      intro k hk r z
      by_cases q : hv_rt L n (hv_pos L mt k).1 (hv_pos L mt k).2
      · have r2 : ∀ j, j < k + 1 → hv_rt L n (hv_pos L mt j).1 (hv_pos L mt j).2 := fun j hj => by
          by_cases e : j = k
          · rw [e]; exact q
          · exact r j (by omega)
        have g := (hv_pos_ge hm (k + 1) r2).2
        by_cases e : (hv_pos L mt (k + 1)).1 = n
        · exact ⟨k + 1, r2, .inl ⟨by omega, e⟩⟩
        · exact ih (k + 1) (by omega) r2 (.inr (by omega))
      · exact ⟨k, r, .inr ⟨z, q⟩⟩
  exact st (n + 1) 0 (by omega) (fun j hj => absurd hj (Nat.not_lt_zero j)) (.inl rfl)
/-- the first wrong place of a wrong statement -/
theorem hv_wrong {L : Nat → Nat} {n b mt : Nat} (r : ¬ hv_rt L n b mt) : ∃ w, ¬ hv_gp L n b (hv_len (L b) mt) w ∧ (∀ p, p < w → hv_gp L n b (hv_len (L b) mt) p) ∧ (w = 0 ∨ w < hv_len (L b) mt) := by
  have st : ∀ f p, p + f = hv_len (L b) mt → (∀ j, j < p → hv_gp L n b (hv_len (L b) mt) j) → (∃ w, ¬ hv_gp L n b (hv_len (L b) mt) w ∧ (∀ j, j < w → hv_gp L n b (hv_len (L b) mt) j) ∧ (w = 0 ∨ w < hv_len (L b) mt)) ∨ ∀ j, j < hv_len (L b) mt → hv_gp L n b (hv_len (L b) mt) j := by
    intro f
    induction f with
    | zero => intro p e h; exact .inr fun j hj => h j (by omega)
    | succ f ih =>
      intro p e h
      by_cases q : hv_gp L n b (hv_len (L b) mt) p
      · exact ih (p + 1) (by omega) fun j hj => by
          by_cases z : j = p
          · rw [z]; exact q
          · exact h j (by omega)
      · exact .inl ⟨p, q, h, .inr (by omega)⟩
  by_cases z : 0 < hv_len (L b) mt
  · rcases st _ 0 (Nat.zero_add _) (fun j hj => absurd hj (Nat.not_lt_zero j)) with w | w
    · exact w
    · exact absurd ⟨z, w⟩ r
  · refine ⟨0, fun g => ?_, fun p hp => absurd hp (Nat.not_lt_zero p), .inl rfl⟩
    have := g.2
    rw [if_pos rfl] at this
    omega
/-! the class -/
theorem hv_lenX : ∀ l, l < 256 → ∀ mt, mt < 7 → ∀ σ : am_St, f_T_lengthOf (hI l) (hI mt) σ = some (hI (hv_len l mt), σ) := by
  intro l hl mt hm σ
  rw [eq_T_lengthOf]; unfold g_T_lengthOf
  have E : ∀ k, k < 256 → (hI l = hI k) = (l = k) := fun k hk => propext (hI_inj (by omega) (by omega))
  have e3 : (3 : Int32) + hI mt = hI (3 + mt) := hI_add 3 mt
  simp only [show (98 : Int32) = hI 98 from rfl, show (99 : Int32) = hI 99 from rfl, show (100 : Int32) = hI 100 from rfl, show (101 : Int32) = hI 101 from rfl, show (102 : Int32) = hI 102 from rfl, show (103 : Int32) = hI 103 from rfl, show (104 : Int32) = hI 104 from rfl, show (105 : Int32) = hI 105 from rfl, show (106 : Int32) = hI 106 from rfl, show (107 : Int32) = hI 107 from rfl, show (108 : Int32) = hI 108 from rfl, show (109 : Int32) = hI 109 from rfl, show (110 : Int32) = hI 110 from rfl, show (111 : Int32) = hI 111 from rfl, show (112 : Int32) = hI 112 from rfl, show (113 : Int32) = hI 113 from rfl, show (114 : Int32) = hI 114 from rfl, show (115 : Int32) = hI 115 from rfl, show (116 : Int32) = hI 116 from rfl, E 98 (by decide), E 99 (by decide), E 100 (by decide), E 101 (by decide), E 102 (by decide), E 103 (by decide), E 104 (by decide), E 105 (by decide), E 106 (by decide), E 107 (by decide), E 108 (by decide), E 109 (by decide), E 110 (by decide), E 111 (by decide), E 112 (by decide), E 113 (by decide), E 114 (by decide), E 115 (by decide), E 116 (by decide), e3]
  unfold hv_len
  by_cases c98 : l = 98
  · subst c98; rfl
  by_cases c99 : l = 99
  · subst c99; rfl
  by_cases c100 : l = 100
  · subst c100; rfl
  by_cases c102 : l = 102
  · subst c102; rfl
  by_cases c114 : l = 114
  · subst c114; rfl
  by_cases c116 : l = 116
  · subst c116; rfl
  rw [if_neg c98, if_neg c99, if_neg c100, if_neg c102, if_neg c114, if_neg c116]
  rw [if_neg (show ¬ (l = 114 ∨ l = 100 ∨ l = 98) by omega), if_neg c99, if_neg c102, if_neg c116]
  simp only [ite_self]
  rfl
theorem hv_mayX {L : Nat → Nat} {n b len p : Nat} (hl : len < 100) (hp : p < 100) (hL : L (b + p) < 256) (hb : L b < 256) (hn : b + p < n) (σ : am_St) : (hv_gp L n b len p → f_T_mayStand (hI (L (b + p))) (hI (L b)) (hI p) (hI len) σ = some (1, σ)) ∧ (¬ hv_gp L n b len p → f_T_mayStand (hI (L (b + p))) (hI (L b)) (hI p) (hI len) σ = some (0, σ)) := by
  have E : ∀ a k, a < 256 → k < 256 → (hI a = hI k) = (a = k) := fun a k ha hk => propext (hI_inj (by omega) (by omega))
  rw [eq_T_mayStand]; unfold g_T_mayStand hv_gp
  by_cases p0 : p = 0
  · rw [if_pos (show hI p = 0 by rw [p0]; rfl), if_pos p0]
    by_cases z : 0 < len
    · rw [if_neg (hI_le0 (by omega) z)]; exact ⟨fun _ => rfl, fun e => absurd ⟨hn, z⟩ e⟩
    · rw [if_pos (show hI len ≤ 0 by rw [show len = 0 by omega]; decide)]; exact ⟨fun e => absurd e.2 z, fun _ => rfl⟩
  rw [if_neg (hI_ne0 (by omega) p0), if_neg p0]
  by_cases l0 : len = 0
  · have e1 : ¬ hI p = hI len - 1 := by
      rw [l0]
      have : ∀ p, p < 100 → ¬ hI p = hI 0 - 1 := by decide
      exact this p hp
    rw [if_neg e1, if_neg (show ¬ p = len - 1 by omega)]
    by_cases f : L b = 102
    · rw [if_pos (show hI (L b) = 102 by rw [f]; rfl)]
      by_cases p4 : p = 4
      · rw [if_pos (show hI p = 4 by rw [p4]; rfl), if_pos (show L b = 102 ∧ p = 4 from ⟨f, p4⟩)]
        simp only [show (43 : Int32) = hI 43 from rfl, show (45 : Int32) = hI 45 from rfl, E _ 43 hL (by decide), E _ 45 hL (by decide)]
        by_cases q1 : L (b + p) = 43
        · rw [if_pos q1]; exact ⟨fun _ => rfl, fun e => absurd ⟨hn, .inl q1⟩ e⟩
        · rw [if_neg q1]
          by_cases q2 : L (b + p) = 45
          · rw [if_pos q2]; exact ⟨fun _ => rfl, fun e => absurd ⟨hn, .inr q2⟩ e⟩
          · rw [if_neg q2]; exact ⟨fun e => absurd e.2 (fun z => z.elim q1 q2), fun _ => rfl⟩
      · rw [if_neg (show ¬ hI p = 4 from hI_ne4 (by omega) p4), if_neg (show ¬ (L b = 102 ∧ p = 4) from fun e => p4 e.2), eq_T_mayStand_62]
        unfold g_T_mayStand_62
        by_cases q1 : 48 ≤ L (b + p)
        · rw [if_neg (show ¬ hI (L (b + p)) < 48 from hI_nlt (m := 48) (by omega) (by decide) q1)]
          by_cases q2 : L (b + p) ≤ 57
          · rw [if_neg (show ¬ (57 : Int32) < hI (L (b + p)) from hI_nlt (n := 57) (by decide) (by omega) q2)]; exact ⟨fun _ => rfl, fun e => absurd ⟨hn, q1, q2⟩ e⟩
          · rw [if_pos (show (57 : Int32) < hI (L (b + p)) from (hI_lt (n := 57) (by decide) (by omega)).mpr (by omega))]; exact ⟨fun e => absurd e.2.2 q2, fun _ => rfl⟩
        · rw [if_pos (show hI (L (b + p)) < 48 from (hI_lt (m := 48) (by omega) (by decide)).mpr (by omega))]; exact ⟨fun e => absurd e.2.1 q1, fun _ => rfl⟩
    · rw [if_neg (show ¬ hI (L b) = 102 from hI_ne (m := 102) (by omega) (by decide) f), if_neg (show ¬ (L b = 102 ∧ p = 4) from fun e => f e.1), eq_T_mayStand_62]
      unfold g_T_mayStand_62
      by_cases q1 : 48 ≤ L (b + p)
      · rw [if_neg (show ¬ hI (L (b + p)) < 48 from hI_nlt (m := 48) (by omega) (by decide) q1)]
        by_cases q2 : L (b + p) ≤ 57
        · rw [if_neg (show ¬ (57 : Int32) < hI (L (b + p)) from hI_nlt (n := 57) (by decide) (by omega) q2)]; exact ⟨fun _ => rfl, fun e => absurd ⟨hn, q1, q2⟩ e⟩
        · rw [if_pos (show (57 : Int32) < hI (L (b + p)) from (hI_lt (n := 57) (by decide) (by omega)).mpr (by omega))]; exact ⟨fun e => absurd e.2.2 q2, fun _ => rfl⟩
      · rw [if_pos (show hI (L (b + p)) < 48 from (hI_lt (m := 48) (by omega) (by decide)).mpr (by omega))]; exact ⟨fun e => absurd e.2.1 q1, fun _ => rfl⟩
  rw [show hI len - 1 = hI (len - 1) from hI_sub (m := 1) (by omega)]
  by_cases pl : p = len - 1
  · rw [if_pos (show hI p = hI (len - 1) by rw [← pl]), if_pos pl]
    by_cases q : L (b + p) = 59
    · rw [if_pos (show hI (L (b + p)) = 59 by rw [q]; rfl)]; exact ⟨fun _ => rfl, fun e => absurd ⟨hn, q⟩ e⟩
    · rw [if_neg (show ¬ hI (L (b + p)) = 59 from hI_ne (m := 59) (by omega) (by decide) q)]; exact ⟨fun e => absurd e.2 q, fun _ => rfl⟩
  rw [if_neg (hI_ne (by omega) (by omega) pl), if_neg pl]
  by_cases f : L b = 102
  · rw [if_pos (show hI (L b) = 102 by rw [f]; rfl)]
    by_cases p4 : p = 4
    · rw [if_pos (show hI p = 4 by rw [p4]; rfl), if_pos (show L b = 102 ∧ p = 4 from ⟨f, p4⟩)]
      simp only [show (43 : Int32) = hI 43 from rfl, show (45 : Int32) = hI 45 from rfl, E _ 43 hL (by decide), E _ 45 hL (by decide)]
      by_cases q1 : L (b + p) = 43
      · rw [if_pos q1]; exact ⟨fun _ => rfl, fun e => absurd ⟨hn, .inl q1⟩ e⟩
      · rw [if_neg q1]
        by_cases q2 : L (b + p) = 45
        · rw [if_pos q2]; exact ⟨fun _ => rfl, fun e => absurd ⟨hn, .inr q2⟩ e⟩
        · rw [if_neg q2]; exact ⟨fun e => absurd e.2 (fun z => z.elim q1 q2), fun _ => rfl⟩
    · rw [if_neg (show ¬ hI p = 4 from hI_ne4 (by omega) p4), if_neg (show ¬ (L b = 102 ∧ p = 4) from fun e => p4 e.2), eq_T_mayStand_62]
      unfold g_T_mayStand_62
      by_cases q1 : 48 ≤ L (b + p)
      · rw [if_neg (show ¬ hI (L (b + p)) < 48 from hI_nlt (m := 48) (by omega) (by decide) q1)]
        by_cases q2 : L (b + p) ≤ 57
        · rw [if_neg (show ¬ (57 : Int32) < hI (L (b + p)) from hI_nlt (n := 57) (by decide) (by omega) q2)]; exact ⟨fun _ => rfl, fun e => absurd ⟨hn, q1, q2⟩ e⟩
        · rw [if_pos (show (57 : Int32) < hI (L (b + p)) from (hI_lt (n := 57) (by decide) (by omega)).mpr (by omega))]; exact ⟨fun e => absurd e.2.2 q2, fun _ => rfl⟩
      · rw [if_pos (show hI (L (b + p)) < 48 from (hI_lt (m := 48) (by omega) (by decide)).mpr (by omega))]; exact ⟨fun e => absurd e.2.1 q1, fun _ => rfl⟩
  · rw [if_neg (show ¬ hI (L b) = 102 from hI_ne (m := 102) (by omega) (by decide) f), if_neg (show ¬ (L b = 102 ∧ p = 4) from fun e => f e.1), eq_T_mayStand_62]
    unfold g_T_mayStand_62
    by_cases q1 : 48 ≤ L (b + p)
    · rw [if_neg (show ¬ hI (L (b + p)) < 48 from hI_nlt (m := 48) (by omega) (by decide) q1)]
      by_cases q2 : L (b + p) ≤ 57
      · rw [if_neg (show ¬ (57 : Int32) < hI (L (b + p)) from hI_nlt (n := 57) (by decide) (by omega) q2)]; exact ⟨fun _ => rfl, fun e => absurd ⟨hn, q1, q2⟩ e⟩
      · rw [if_pos (show (57 : Int32) < hI (L (b + p)) from (hI_lt (n := 57) (by decide) (by omega)).mpr (by omega))]; exact ⟨fun e => absurd e.2.2 q2, fun _ => rfl⟩
    · rw [if_pos (show hI (L (b + p)) < 48 from (hI_lt (m := 48) (by omega) (by decide)).mpr (by omega))]; exact ⟨fun e => absurd e.2.1 q1, fun _ => rfl⟩
theorem hv_mtX {n : Nat} {L : Nat → Nat} {σ : am_St} (lt : hv_ltr n L σ) {b mt : Nat} (hm : 2 ≤ mt ∧ mt ≤ 6) (r : hv_rt L n b mt) : f_T_minutesBehind (hI b) (hI mt) σ = some (hI (hv_mt L b mt), σ) := by
  have le := hv_len_in r.1 hm
  have en := hv_rt_end r
  have kn := lt.1
  rw [eq_T_minutesBehind]; unfold g_T_minutesBehind hv_mt
  have l0 := (lt.2.2 b (by omega)).2
  rw [lt.at (show b < n by omega)]
  simp only [Option.bind_some]
  by_cases q : L b = 114
  · have len4 : hv_len (L b) mt = 4 := by rw [q]; rfl
    have g1 := (r.2 1 (by omega)).2
    have g2 := (r.2 2 (by omega)).2
    rw [len4, if_neg (by decide), if_neg (by decide), if_neg (fun e => absurd e.2 (by decide))] at g1 g2
    rw [if_pos (show hI (L b) = 114 by rw [q]; rfl), hI_add1, show hI b + 2 = hI (b + 2) from hI_add b 2, lt.dig (p := b + 1) (by omega) g1.1]
    simp only [Option.bind_some]
    rw [lt.dig (p := b + 2) (by omega) g2.1]
    simp only [Option.bind_some]
    rw [hv_canB (by omega) (by omega)]
    simp only [Option.bind_some]
    by_cases c : 2 ≤ L (b + 1) - 48 ∧ L (b + 1) - 48 ≤ 4 ∧ 2 ≤ L (b + 2) - 48 ∧ L (b + 2) - 48 ≤ 6
    · rw [if_pos c, if_pos (show L b = 114 ∧ 2 ≤ L (b + 1) - 48 ∧ L (b + 1) - 48 ≤ 4 ∧ 2 ≤ L (b + 2) - 48 ∧ L (b + 2) - 48 ≤ 6 from ⟨q, c⟩), eq_T_minutesBehind_27]
      unfold g_T_minutesBehind_27
      rw [if_neg (by decide), eq_T_minutesBehind_35]
      unfold g_T_minutesBehind_35
      rw [if_neg (by decide), show hI b + 2 = hI (b + 2) from hI_add b 2, lt.dig (p := b + 2) (by omega) g2.1]
      rfl
    · rw [if_neg c, if_neg (show ¬ (L b = 114 ∧ 2 ≤ L (b + 1) - 48 ∧ L (b + 1) - 48 ≤ 4 ∧ 2 ≤ L (b + 2) - 48 ∧ L (b + 2) - 48 ≤ 6) from fun e => c e.2), eq_T_minutesBehind_27]
      unfold g_T_minutesBehind_27
      rw [if_pos rfl, eq_T_minutesBehind_34]
      unfold g_T_minutesBehind_34
      rw [eq_T_minutesBehind_35]
      unfold g_T_minutesBehind_35
      rw [if_pos rfl]
  · rw [if_neg (show ¬ hI (L b) = 114 from hI_ne (m := 114) (by omega) (by decide) q), if_neg (show ¬ (L b = 114 ∧ 2 ≤ L (b + 1) - 48 ∧ L (b + 1) - 48 ≤ 4 ∧ 2 ≤ L (b + 2) - 48 ∧ L (b + 2) - 48 ≤ 6) from fun e => q e.1), eq_T_minutesBehind_34]
    unfold g_T_minutesBehind_34
    rw [eq_T_minutesBehind_35]
    unfold g_T_minutesBehind_35
    rw [if_pos rfl]
/-- one letter on -/
theorem hv_fwB {n : Nat} {L : Nat → Nat} {σ : am_St} (lt : hv_ltr n L σ) {b mt p : Nat} (hm : 2 ≤ mt ∧ mt ≤ 6) (hp : p < 10) (hn : b + p < n) : (hv_gp L n b (hv_len (L b) mt) p → ¬ p = hv_len (L b) mt - 1 ∨ hv_len (L b) mt = 0 → b_T_firstWrongLetter_7 (hI mt) (hI b) (hI (b + p)) σ = some (.inl (hI mt, hI b, hI (b + p + 1), σ))) ∧ (¬ hv_gp L n b (hv_len (L b) mt) p → b_T_firstWrongLetter_7 (hI mt) (hI b) (hI (b + p)) σ = some (.inr (hI (b + p), σ))) ∧ (hv_rt L n b mt → p = hv_len (L b) mt - 1 → b_T_firstWrongLetter_7 (hI mt) (hI b) (hI (b + p)) σ = some (.inl (hI (hv_mt L b mt), hI (b + hv_len (L b) mt), hI (b + hv_len (L b) mt), σ))) := by
  have kn := lt.1
  have lb := (lt.2.2 b (by omega)).2
  have lp := (lt.2.2 (b + p) hn).2
  have len10 : hv_len (L b) mt < 100 := by
    unfold hv_len
    split
    · omega
    · split
      · omega
      · split
        · omega
        · split <;> omega
  obtain ⟨m1, m0⟩ := hv_mayX (L := L) (n := n) (b := b) (p := p) len10 (by omega) lp lb hn σ
  have B : b_T_firstWrongLetter_7 (hI mt) (hI b) (hI (b + p)) σ = (f_T_mayStand (hI (L (b + p))) (hI (L b)) (hI p) (hI (hv_len (L b) mt)) σ).bind (fun p2 => if p2.1 = 0 then some (.inr ((hI (b + p), p2.2))) else if hI p = (hI (hv_len (L b) mt) - 1) then f_T_firstWrongLetter_65 (hI mt) (hI b) (hI (b + p)) p2.2 else f_T_firstWrongLetter_77 (hI mt) (hI b) (hI (b + p)) p2.2) := by
    unfold b_T_firstWrongLetter_7
    rw [lt.2.1, if_neg (hI_nle (by omega) (by omega) hn), lt.at (show b < n by omega)]
    simp only [Option.bind_some]
    rw [hv_lenX _ lb _ (by omega)]
    simp only [Option.bind_some]
    rw [eq_T_firstWrongLetter_31]; unfold g_T_firstWrongLetter_31
    rw [lt.at hn]
    simp only [Option.bind_some]
    rw [show hI (b + p) - hI b = hI p by rw [hI_sub (by omega)]; congr 1; omega]
  refine ⟨fun g q => ?_, fun g => ?_, fun r q => ?_⟩
  · rw [B, m1 g]
    simp only [Option.bind_some]
    have ne : ¬ hI p = hI (hv_len (L b) mt) - 1 := by
      by_cases z : hv_len (L b) mt = 0
      · rw [z]
        have : ∀ p, p < 10 → ¬ hI p = hI 0 - 1 := by decide
        exact this p hp
      · rw [show hI (hv_len (L b) mt) - 1 = hI (hv_len (L b) mt - 1) from hI_sub (m := 1) (by omega)]
        exact hI_ne (by omega) (by omega) (q.resolve_right z)
    rw [if_neg (by decide), if_neg ne, eq_T_firstWrongLetter_77]
    unfold g_T_firstWrongLetter_77
    dsimp only
    rw [hI_add1]
  · rw [B, m0 g]; rfl
  · have l0 := r.1
    rw [B, m1 (r.2 p (by omega))]
    simp only [Option.bind_some]
    rw [if_neg (by decide), if_pos (show hI p = hI (hv_len (L b) mt) - 1 by rw [show hI (hv_len (L b) mt) - 1 = hI (hv_len (L b) mt - 1) from hI_sub (m := 1) (by omega), q]), eq_T_firstWrongLetter_65]
    unfold g_T_firstWrongLetter_65
    rw [hv_mtX lt hm r]
    simp only [Option.bind_some, eq_T_firstWrongLetter_77, g_T_firstWrongLetter_77, hI_add1]
    rw [show b + p + 1 = b + hv_len (L b) mt by omega]
/-- the class finds the first wrong letter, or none -/
theorem hv_X_fw {n : Nat} {L : Nat → Nat} {σ : am_St} (lt : hv_ltr n L σ) {mt K : Nat} (hm : 2 ≤ mt ∧ mt ≤ 6) (r : ∀ j, j < K → hv_rt L n (hv_pos L mt j).1 (hv_pos L mt j).2) : (1 ≤ K → (hv_pos L mt K).1 = n → f_T_firstWrongLetter (hI mt) σ = some (-1, σ)) ∧ (∀ w, (K = 0 ∨ (hv_pos L mt K).1 < n) → ¬ hv_gp L n (hv_pos L mt K).1 (hv_len (L (hv_pos L mt K).1) (hv_pos L mt K).2) w → (∀ p, p < w → hv_gp L n (hv_pos L mt K).1 (hv_len (L (hv_pos L mt K).1) (hv_pos L mt K).2) p) → (w = 0 ∨ w < hv_len (L (hv_pos L mt K).1) (hv_pos L mt K).2) → f_T_firstWrongLetter (hI mt) σ = some (hI ((hv_pos L mt K).1 + w), σ)) := by
  have kn := lt.1
  have run : ∀ b mt q, 2 ≤ mt ∧ mt ≤ 6 → q < 10 → (∀ p, p < q → hv_gp L n b (hv_len (L b) mt) p ∧ (¬ p = hv_len (L b) mt - 1 ∨ hv_len (L b) mt = 0)) → am_lp (fun s : Int32 × Int32 × Int32 × am_St => b_T_firstWrongLetter_7 s.1 s.2.1 s.2.2.1 s.2.2.2) (hI mt, hI b, hI b, σ) = am_lp (fun s : Int32 × Int32 × Int32 × am_St => b_T_firstWrongLetter_7 s.1 s.2.1 s.2.2.1 s.2.2.2) (hI mt, hI b, hI (b + q), σ) := by
    intro b mt q hm hq g
    exact am_lp_count (body := fun s : Int32 × Int32 × Int32 × am_St => b_T_firstWrongLetter_7 s.1 s.2.1 s.2.2.1 s.2.2.2) (fun i => (hI mt, hI b, hI (b + i), σ)) q fun i hi => ((hv_fwB lt hm (by omega) (g i hi).1.1).1 (g i hi).1 (g i hi).2)
  have all : ∀ k, k ≤ K → am_lp (fun s : Int32 × Int32 × Int32 × am_St => b_T_firstWrongLetter_7 s.1 s.2.1 s.2.2.1 s.2.2.2) (hI mt, 0, 0, σ) = am_lp (fun s : Int32 × Int32 × Int32 × am_St => b_T_firstWrongLetter_7 s.1 s.2.1 s.2.2.1 s.2.2.2) (hI (hv_pos L mt k).2, hI (hv_pos L mt k).1, hI (hv_pos L mt k).1, σ) := by
    intro k
    induction k with
    | zero => intro _; rw [hv_pos_0]; rfl
    | succ k ih =>
      intro hk
      have rk := r k (by omega)
      have hmk := hv_pos_mt (L := L) hm k
      have le := hv_len_in rk.1 hmk
      rw [ih (by omega), hv_pos_s]
      generalize (hv_pos L mt k).1 = b at rk le ⊢
      generalize (hv_pos L mt k).2 = m at rk le hmk ⊢
      rw [run b m (hv_len (L b) m - 1) hmk (by omega) (fun p hp => ⟨rk.2 p (by omega), .inl (by omega)⟩)]
      exact am_lp_inl ((hv_fwB lt hmk (p := hv_len (L b) m - 1) (by omega) (rk.2 _ (by omega)).1).2.2 rk rfl)
  have F : f_T_firstWrongLetter (hI mt) σ = am_lp (fun s : Int32 × Int32 × Int32 × am_St => b_T_firstWrongLetter_7 s.1 s.2.1 s.2.2.1 s.2.2.2) (hI mt, 0, 0, σ) := by
    rw [eq_T_firstWrongLetter]; rfl
  have pg := hv_pos_ge (L := L) (n := n) hm K r
  have hmK := hv_pos_mt (L := L) hm K
  refine ⟨fun h1 e => ?_, fun w z g0 g1 hw => ?_⟩
  · rw [F, all K (Nat.le_refl _), e]
    refine am_lp_inr (x := some (-1, σ)) ?_
    show b_T_firstWrongLetter_7 (hI (hv_pos L mt K).2) (hI n) (hI n) σ = _
    unfold b_T_firstWrongLetter_7
    rw [lt.2.1, if_pos (Int32.le_refl _), if_neg (hI_le0 (by omega) (by omega)), if_pos rfl]; rfl
  · rw [F, all K (Nat.le_refl _)]
    generalize hb : (hv_pos L mt K).1 = b at g0 g1 hw z pg ⊢
    generalize (hv_pos L mt K).2 = m at g0 g1 hw hmK ⊢
    have w10 : w < 10 := by
      rcases hw with q | q
      · omega
      · have := hv_len_in (show 0 < hv_len (L b) m by omega) hmK; omega
    rw [run b m w hmK w10 (fun p hp => ⟨g1 p hp, by omega⟩)]
    by_cases q : b + w < n
    · refine am_lp_inr (x := some (hI (b + w), σ)) ?_
      exact (hv_fwB lt hmK w10 q).2.1 g0
    · have en : b + w = n := by
        by_cases w0 : w = 0
        · subst w0
          rcases z with z | z
          · subst z
            rw [hv_pos_0] at hb
            dsimp only at hb
            omega
          · omega
        · have := (g1 (w - 1) (by omega)).1
          omega
      refine am_lp_inr (x := some (hI (b + w), σ)) ?_
      show b_T_firstWrongLetter_7 (hI m) (hI b) (hI (b + w)) σ = _
      unfold b_T_firstWrongLetter_7
      rw [lt.2.1, if_pos (show hI n ≤ hI (b + w) by rw [en]; exact Int32.le_refl _)]
      have T : f_T_firstWrongLetter_102 σ = some (hI (b + w), σ) := by
        rw [eq_T_firstWrongLetter_102]; unfold g_T_firstWrongLetter_102
        rw [lt.2.1, en]
      by_cases n0 : n = 0
      · rw [if_pos (show hI n ≤ 0 by rw [n0]; decide), T]
      · have bn : b < n := by
          rcases z with z | z
          · subst z
            rw [hv_pos_0] at hb
            dsimp only at hb
            omega
          · exact z
        rw [if_neg (hI_le0 (by omega) (by omega)), if_neg (hI_ne (by omega) (by omega) (by omega)), T]
