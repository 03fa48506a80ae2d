/-! PURE: a statement of the class, by its letter -/
/-- how many digits a statement has -/
def hv_many (l mt : Nat) : Nat := if l = 114 ∨ l = 100 ∨ l = 98 then 2 else if l = 116 then 1 + mt else 3
/-- the digits, from the letter behind its first on -/
def hv_dg (L : Nat → Nat) (b : Nat) : Nat → Nat := fun i => min 9 (L (b + 1 + i) - 48)
def hv_sg (L : Nat → Nat) (b : Nat) : Nat := if L (b + 4) = 43 then 1 else 0
theorem hv_dg_eq {L : Nat → Nat} {b i : Nat} (h : L (b + 1 + i) ≤ 57) : hv_dg L b i = L (b + 1 + i) - 48 := by unfold hv_dg; omega
theorem hv_setP_cg {g : hv} {a : Nat} {p1 p2 : Nat → Nat} {τ : am_St} (e : ∀ m, m < g.M → p1 m = p2 m) (d : hv_dev 37 (hv_setP g a p1) τ) : hv_dev 37 (hv_setP g a p2) τ := by
  have h1 : τ.1 37 0 = hI g.R := d.R
  have h2 : τ.1 37 1 = hI g.M := d.M
  have h3 : τ.1 37 2 = hI g.C := d.C
  have h4 : τ.1 37 3 = hI g.dr := d.dr
  have h5 : τ.1 37 4 = hI g.dm := d.dm
  have h6 : τ.1 37 5 = hI g.F := d.F
  have h7 : τ.1 37 6 = hI g.S := d.S
  have h8 : ∀ r, r < 4 → τ.1 (37 + 1) r = hI (g.door r) := d.door
  have h9 : ∀ c, c < g.C → τ.1 (37 + 2) c = hI (g.kind c) := d.kind
  have h10 : ∀ c, c < g.C → τ.1 (37 + 3) c = hI (g.fig c) := d.fig
  have h11 : ∀ c, c < g.C → τ.1 (37 + 4) c = hI (g.tie c) := d.tie
  have h12 : ∀ c, c < g.C → τ.1 (37 + 5) c = hI (g.skill c) := d.skill
  have h13 : ∀ c, c < g.C → ∀ m, m < g.M → τ.1 (37 + 6) (c * 6 + m) = hI (if c = a then p1 m else g.place c m) := d.place
  have h14 : ∀ k, k < 3 → τ.1 (37 + 7) k = hI (g.chance k) := d.chance
  have h15 : ∀ i, i < g.F → τ.1 (37 + 8) i = hI (hv_mark (g.fc i) (g.fm i) (g.fr i) (g.fi i)) := d.fact
  have h16 : ∀ i, i < g.S → τ.1 (37 + 9) i = hI (hv_mark (g.sc i) (g.sm i) (g.sr i) (g.sp i)) := d.say
  have h17 : ∀ c, c < g.C → ∀ m, m < g.M → τ.1 (37 + 6) (c * 6 + m) = hI (if c = a then p2 m else g.place c m) := fun c hc m hm => by rw [h13 c hc m hm, e m hm]
  clear d h13
  exact hv_dev.mk h1 h2 h3 h4 h5 h6 h7 h8 h9 h10 h11 h12 h17 h14 h15 h16
theorem hv_X_comes {g : hv} {σ : am_St} (d : hv_dev 37 g σ) (ok : hv_ok g) {n : Nat} {L : Nat → Nat} (lt : hv_ltr n L σ) {b : Nat} (hl : hv_let (L b)) (hn : b + 1 + hv_many (L b) g.M < n) (hf : L b = 102 → b + 5 < n) (hd : ∀ i, i < hv_many (L b) g.M → 48 ≤ L (b + 1 + i) ∧ L (b + 1 + i) ≤ 57) : hv_XS σ (f_T_comes (hI b) σ) (hv_do g (L b) (hv_dg L b) (hv_sg L b)) := by
  have kM := ok.M
  have kn := lt.1
  have two : 2 ≤ hv_many (L b) g.M := by unfold hv_many; split <;> (try split) <;> omega
  obtain ⟨u1, u2⟩ := hd 0 (by omega)
  obtain ⟨u3, u4⟩ := hd 1 (by omega)
  have D0 := hv_dg_eq u2
  have D1 := hv_dg_eq u4
  rw [eq_T_comes]; unfold g_T_comes
  rw [hI_add1, show hI b + 2 = hI (b + 2) from hI_add b 2, show f_T_digitAt (hI (b + 1)) σ = _ from lt.dig (p := b + 1 + 0) (by omega) u1]
  simp only [Option.bind_some]
  rw [show f_T_digitAt (hI (b + 2)) σ = _ from lt.dig (p := b + 1 + 1) (by omega) u3]
  simp only [Option.bind_some]
  rw [← D0, ← D1, eq_T_comes_17]
  unfold g_T_comes_17
  rw [lt.at (show b < n by omega)]
  simp only [Option.bind_some]
  have d0 : hv_dg L b 0 < 10 := by unfold hv_dg; omega
  have d1 : hv_dg L b 1 < 10 := by unfold hv_dg; omega
  have W : ∀ {X : Option (Int32 × am_St)} {o : Option hv}, hv_XS σ X o → hv_XS σ (X.bind (fun p2 => if p2.1 &&& 1 = p2.1 then some ((p2.1, p2.2)) else none)) o := fun {X o} w => by
    obtain ⟨τ, e, f, k⟩ := w
    refine ⟨τ, ?_, f, k⟩
    rw [e]
    simp only [Option.bind_some]
    cases o
    · exact if_pos (show (0 : Int32) &&& 1 = 0 by decide)
    · exact if_pos (show (1 : Int32) &&& 1 = 1 by decide)
  rcases hl with q | q | q | q | q | q
  · rw [q, hv_do_r, if_neg (show ¬ hI 114 = 98 by decide), if_neg (show ¬ hI 114 = 99 by decide), if_neg (show ¬ hI 114 = 100 by decide), if_neg (show ¬ hI 114 = 101 by decide), if_neg (show ¬ hI 114 = 102 by decide), if_neg (show ¬ hI 114 = 103 by decide), if_neg (show ¬ hI 114 = 104 by decide), if_neg (show ¬ hI 114 = 105 by decide), if_neg (show ¬ hI 114 = 106 by decide), if_neg (show ¬ hI 114 = 107 by decide), if_neg (show ¬ hI 114 = 108 by decide), if_neg (show ¬ hI 114 = 109 by decide), if_neg (show ¬ hI 114 = 110 by decide), if_neg (show ¬ hI 114 = 111 by decide), if_neg (show ¬ hI 114 = 112 by decide), if_neg (show ¬ hI 114 = 113 by decide), if_pos (show hI 114 = 114 from rfl)]
    exact W (hv_X_builds d d0 d1)
  · rw [q, hv_do_d, if_neg (show ¬ hI 100 = 98 by decide), if_neg (show ¬ hI 100 = 99 by decide), if_pos (show hI 100 = 100 from rfl)]
    exact W (hv_X_door d ok d0 d1)
  · have m3 : hv_many (L b) g.M = 3 := by rw [q]; rfl
    obtain ⟨u5, u6⟩ := hd 2 (by omega)
    have D2 := hv_dg_eq u6
    have e3 : f_T_digitAt (hI b + 3) σ = some (hI (hv_dg L b 2), σ) := by
      rw [show hI b + 3 = hI (b + 3) from hI_add b 3, D2]
      exact lt.dig (p := b + 1 + 2) (by omega) u5
    rw [q, hv_do_c, if_neg (show ¬ hI 99 = 98 by decide), if_pos (show hI 99 = 99 from rfl)]
    rw [e3]
    simp only [Option.bind_some]
    exact W (hv_X_addC d ok d0 d1 (by unfold hv_dg; omega))
  · have mt : hv_many (L b) g.M = 1 + g.M := by rw [q]; unfold hv_many; rw [if_neg (by decide), if_pos rfl]
    have G := hv_X_goes d ok lt (a := hv_dg L b 0) (b2 := b + 2) d0 (fun m hm => by
      obtain ⟨v1, v2⟩ := hd (1 + m) (by omega)
      rw [show b + 1 + (1 + m) = b + 2 + m by omega] at v1 v2
      exact ⟨by omega, v1, v2⟩)
    have eW : hv_wayP g (fun m => L (b + 2 + m) - 48) ↔ hv_wayP g (fun m => hv_dg L b (1 + m)) := by
      have e : ∀ m, m < g.M → hv_dg L b (1 + m) = L (b + 2 + m) - 48 := fun m hm => by
        rw [hv_dg_eq (hd (1 + m) (by omega)).2, show b + 1 + (1 + m) = b + 2 + m by omega]
      unfold hv_wayP
      refine ⟨fun w m hm => ?_, fun w m hm => ?_⟩
      · have := w m hm
        dsimp only at this ⊢
        rw [e m hm]
        by_cases z : m = 0
        · exact ⟨this.1, .inl z⟩
        · rw [e (m - 1) (by omega)]; exact this
      · have := w m hm
        dsimp only at this ⊢
        rw [e m hm] at this
        by_cases z : m = 0
        · exact ⟨this.1, .inl z⟩
        · rw [e (m - 1) (by omega)] at this; exact this
    rw [q, hv_do_t, if_neg (show ¬ hI 116 = 98 by decide), if_neg (show ¬ hI 116 = 99 by decide), if_neg (show ¬ hI 116 = 100 by decide), if_neg (show ¬ hI 116 = 101 by decide), if_neg (show ¬ hI 116 = 102 by decide), if_neg (show ¬ hI 116 = 103 by decide), if_neg (show ¬ hI 116 = 104 by decide), if_neg (show ¬ hI 116 = 105 by decide), if_neg (show ¬ hI 116 = 106 by decide), if_neg (show ¬ hI 116 = 107 by decide), if_neg (show ¬ hI 116 = 108 by decide), if_neg (show ¬ hI 116 = 109 by decide), if_neg (show ¬ hI 116 = 110 by decide), if_neg (show ¬ hI 116 = 111 by decide), if_neg (show ¬ hI 116 = 112 by decide), if_neg (show ¬ hI 116 = 113 by decide), if_neg (show ¬ hI 116 = 114 by decide), if_neg (show ¬ hI 116 = 115 by decide), if_pos (show hI 116 = 116 from rfl)]
    have G2 : hv_XS σ (f_T_goes (hI (hv_dg L b 0)) (hI (b + 2)) σ) (@ite _ (hv_dg L b 0 < g.C ∧ hv_wayP g (fun m => hv_dg L b (1 + m))) (Classical.propDecidable _) (some (hv_setP g (hv_dg L b 0) (fun m => hv_dg L b (1 + m)))) none) := by
      obtain ⟨τ, e, f, k⟩ := G
      by_cases c : hv_dg L b 0 < g.C ∧ hv_wayP g (fun m => hv_dg L b (1 + m))
      · have c2 : hv_dg L b 0 < g.C ∧ hv_wayP g (fun m => L (b + 2 + m) - 48) := ⟨c.1, eW.mpr c.2⟩
        rw [if_pos c2] at e k
        rw [if_pos c]
        have dd := k _ rfl
        exact hv_XS.yes τ e f (hv_setP_cg (fun m hm => by
          show L (b + 2 + m) - 48 = hv_dg L b (1 + m)
          rw [hv_dg_eq (hd (1 + m) (by omega)).2, show b + 1 + (1 + m) = b + 2 + m by omega]) dd)
      · have c2 : ¬ (hv_dg L b 0 < g.C ∧ hv_wayP g (fun m => L (b + 2 + m) - 48)) := fun z => c ⟨z.1, eW.mp z.2⟩
        rw [if_neg c2] at e k
        rw [if_neg c]
        exact hv_XS.no τ e f
    have W2 := W G2
    rw [show hI b + 2 = hI (b + 2) from hI_add b 2]
    exact W2
  · rw [q, hv_do_b, if_pos (show hI 98 = 98 from rfl)]
    exact W (hv_X_breaks d ok d0 d1)
  · have m3 : hv_many (L b) g.M = 3 := by rw [q]; rfl
    obtain ⟨u5, u6⟩ := hd 2 (by omega)
    have D2 := hv_dg_eq u6
    have G := hv_X_knows d ok lt (b := b) (by have := hf q; omega) (fun i hi => hd i (by omega)) (x := hv_sg L b) rfl
    rw [← D0, ← D1, ← D2] at G
    rw [q, hv_do_f, if_neg (show ¬ hI 102 = 98 by decide), if_neg (show ¬ hI 102 = 99 by decide), if_neg (show ¬ hI 102 = 100 by decide), if_neg (show ¬ hI 102 = 101 by decide), if_pos (show hI 102 = 102 from rfl)]
    exact W G
