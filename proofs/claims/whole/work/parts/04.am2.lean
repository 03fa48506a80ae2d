/-! one instruction after another -/
def am_ush (x y : Int32) : Int32 := (x.toUInt32 >>> (y.toUInt32 &&& Int32.toUInt32 31)).toInt32
def am_rem (x y : Int32) : Int32 := x - x / y * y
def am_lrem (x y : Int64) : Int64 := x - x / y * y
abbrev am_K (ρ : Type) : Type := am_Lc → List Value → am_St → Option ρ
def am_Snd (G : am_G) (M : am_MD) (pc : Nat) {ρ : Type} (P : ρ → am_AQ → Prop) (k : am_K ρ) : Prop := ∀ (ls : am_Lc) (st : List Value) (σ : am_St) (r : ρ) (Q : am_AQ), k ls st σ = some r → P r Q → am_AW G M pc ls st σ Q
section AMR
variable {G : am_G} {M : am_MD} {pc : Nat} {ρ : Type} {P : ρ → am_AQ → Prop} {k k1 k2 : am_K ρ} {ls : am_Lc} {st : List Value} {σ : am_St} {Q : am_AQ}
theorem aw_iadd {x y : Int32} (d : decode M.2.1 pc = .ok (.iadd, 1)) (kk : am_AW G M (pc + 1) ls (.int (x + y) :: st) σ Q) : am_AW G M pc ls (.int y :: .int x :: st) σ Q := by
  intro p e s m args below meth c A hC hA H locs lr hP hD hS hl
  obtain ⟨hx, hb, hr, hml, hown, hts, hlk, hK, hN⟩ := id hC
  exact lv_iadd hx hb d (kk p e s m args below meth c A hC hA H locs lr hP hD hS hl)
def ki_iadd (k : am_K ρ) : am_K ρ := fun ls st σ => match st with
  | .int y :: .int x :: t => k ls (.int (x + y) :: t) σ
  | _ => none
theorem sn_iadd (d : decode M.2.1 pc = .ok (.iadd, 1)) (h : am_Snd G M (pc + 1) P k) : am_Snd G M pc P (ki_iadd k) := by
  intro ls st σ r Q e hr
  unfold ki_iadd at e
  split at e
  · exact aw_iadd d (h _ _ _ _ _ e hr)
  · cases e
theorem aw_isub {x y : Int32} (d : decode M.2.1 pc = .ok (.isub, 1)) (kk : am_AW G M (pc + 1) ls (.int (x - y) :: st) σ Q) : am_AW G M pc ls (.int y :: .int x :: st) σ Q := by
  intro p e s m args below meth c A hC hA H locs lr hP hD hS hl
  obtain ⟨hx, hb, hr, hml, hown, hts, hlk, hK, hN⟩ := id hC
  exact lv_isub hx hb d (kk p e s m args below meth c A hC hA H locs lr hP hD hS hl)
def ki_isub (k : am_K ρ) : am_K ρ := fun ls st σ => match st with
  | .int y :: .int x :: t => k ls (.int (x - y) :: t) σ
  | _ => none
theorem sn_isub (d : decode M.2.1 pc = .ok (.isub, 1)) (h : am_Snd G M (pc + 1) P k) : am_Snd G M pc P (ki_isub k) := by
  intro ls st σ r Q e hr
  unfold ki_isub at e
  split at e
  · exact aw_isub d (h _ _ _ _ _ e hr)
  · cases e
theorem aw_imul {x y : Int32} (d : decode M.2.1 pc = .ok (.imul, 1)) (kk : am_AW G M (pc + 1) ls (.int (x * y) :: st) σ Q) : am_AW G M pc ls (.int y :: .int x :: st) σ Q := by
  intro p e s m args below meth c A hC hA H locs lr hP hD hS hl
  obtain ⟨hx, hb, hr, hml, hown, hts, hlk, hK, hN⟩ := id hC
  exact lv_imul hx hb d (kk p e s m args below meth c A hC hA H locs lr hP hD hS hl)
def ki_imul (k : am_K ρ) : am_K ρ := fun ls st σ => match st with
  | .int y :: .int x :: t => k ls (.int (x * y) :: t) σ
  | _ => none
theorem sn_imul (d : decode M.2.1 pc = .ok (.imul, 1)) (h : am_Snd G M (pc + 1) P k) : am_Snd G M pc P (ki_imul k) := by
  intro ls st σ r Q e hr
  unfold ki_imul at e
  split at e
  · exact aw_imul d (h _ _ _ _ _ e hr)
  · cases e
theorem aw_iand {x y : Int32} (d : decode M.2.1 pc = .ok (.iand, 1)) (kk : am_AW G M (pc + 1) ls (.int (x &&& y) :: st) σ Q) : am_AW G M pc ls (.int y :: .int x :: st) σ Q := by
  intro p e s m args below meth c A hC hA H locs lr hP hD hS hl
  obtain ⟨hx, hb, hr, hml, hown, hts, hlk, hK, hN⟩ := id hC
  exact lv_iand hx hb d (kk p e s m args below meth c A hC hA H locs lr hP hD hS hl)
def ki_iand (k : am_K ρ) : am_K ρ := fun ls st σ => match st with
  | .int y :: .int x :: t => k ls (.int (x &&& y) :: t) σ
  | _ => none
theorem sn_iand (d : decode M.2.1 pc = .ok (.iand, 1)) (h : am_Snd G M (pc + 1) P k) : am_Snd G M pc P (ki_iand k) := by
  intro ls st σ r Q e hr
  unfold ki_iand at e
  split at e
  · exact aw_iand d (h _ _ _ _ _ e hr)
  · cases e
theorem aw_ior {x y : Int32} (d : decode M.2.1 pc = .ok (.ior, 1)) (kk : am_AW G M (pc + 1) ls (.int (x ||| y) :: st) σ Q) : am_AW G M pc ls (.int y :: .int x :: st) σ Q := by
  intro p e s m args below meth c A hC hA H locs lr hP hD hS hl
  obtain ⟨hx, hb, hr, hml, hown, hts, hlk, hK, hN⟩ := id hC
  exact lv_ior hx hb d (kk p e s m args below meth c A hC hA H locs lr hP hD hS hl)
def ki_ior (k : am_K ρ) : am_K ρ := fun ls st σ => match st with
  | .int y :: .int x :: t => k ls (.int (x ||| y) :: t) σ
  | _ => none
theorem sn_ior (d : decode M.2.1 pc = .ok (.ior, 1)) (h : am_Snd G M (pc + 1) P k) : am_Snd G M pc P (ki_ior k) := by
  intro ls st σ r Q e hr
  unfold ki_ior at e
  split at e
  · exact aw_ior d (h _ _ _ _ _ e hr)
  · cases e
theorem aw_ixor {x y : Int32} (d : decode M.2.1 pc = .ok (.ixor, 1)) (kk : am_AW G M (pc + 1) ls (.int (x ^^^ y) :: st) σ Q) : am_AW G M pc ls (.int y :: .int x :: st) σ Q := by
  intro p e s m args below meth c A hC hA H locs lr hP hD hS hl
  obtain ⟨hx, hb, hr, hml, hown, hts, hlk, hK, hN⟩ := id hC
  exact lv_ixor hx hb d (kk p e s m args below meth c A hC hA H locs lr hP hD hS hl)
def ki_ixor (k : am_K ρ) : am_K ρ := fun ls st σ => match st with
  | .int y :: .int x :: t => k ls (.int (x ^^^ y) :: t) σ
  | _ => none
theorem sn_ixor (d : decode M.2.1 pc = .ok (.ixor, 1)) (h : am_Snd G M (pc + 1) P k) : am_Snd G M pc P (ki_ixor k) := by
  intro ls st σ r Q e hr
  unfold ki_ixor at e
  split at e
  · exact aw_ixor d (h _ _ _ _ _ e hr)
  · cases e
theorem aw_ishl {x y : Int32} (d : decode M.2.1 pc = .ok (.ishl, 1)) (kk : am_AW G M (pc + 1) ls (.int (x <<< (y &&& 31)) :: st) σ Q) : am_AW G M pc ls (.int y :: .int x :: st) σ Q := by
  intro p e s m args below meth c A hC hA H locs lr hP hD hS hl
  obtain ⟨hx, hb, hr, hml, hown, hts, hlk, hK, hN⟩ := id hC
  exact lv_ishl hx hb d (kk p e s m args below meth c A hC hA H locs lr hP hD hS hl)
def ki_ishl (k : am_K ρ) : am_K ρ := fun ls st σ => match st with
  | .int y :: .int x :: t => k ls (.int (x <<< (y &&& 31)) :: t) σ
  | _ => none
theorem sn_ishl (d : decode M.2.1 pc = .ok (.ishl, 1)) (h : am_Snd G M (pc + 1) P k) : am_Snd G M pc P (ki_ishl k) := by
  intro ls st σ r Q e hr
  unfold ki_ishl at e
  split at e
  · exact aw_ishl d (h _ _ _ _ _ e hr)
  · cases e
theorem aw_ishr {x y : Int32} (d : decode M.2.1 pc = .ok (.ishr, 1)) (kk : am_AW G M (pc + 1) ls (.int (x >>> (y &&& 31)) :: st) σ Q) : am_AW G M pc ls (.int y :: .int x :: st) σ Q := by
  intro p e s m args below meth c A hC hA H locs lr hP hD hS hl
  obtain ⟨hx, hb, hr, hml, hown, hts, hlk, hK, hN⟩ := id hC
  exact lv_ishr hx hb d (kk p e s m args below meth c A hC hA H locs lr hP hD hS hl)
def ki_ishr (k : am_K ρ) : am_K ρ := fun ls st σ => match st with
  | .int y :: .int x :: t => k ls (.int (x >>> (y &&& 31)) :: t) σ
  | _ => none
theorem sn_ishr (d : decode M.2.1 pc = .ok (.ishr, 1)) (h : am_Snd G M (pc + 1) P k) : am_Snd G M pc P (ki_ishr k) := by
  intro ls st σ r Q e hr
  unfold ki_ishr at e
  split at e
  · exact aw_ishr d (h _ _ _ _ _ e hr)
  · cases e
theorem aw_idiv {x y : Int32} (h0 : ¬ y = 0) (d : decode M.2.1 pc = .ok (.idiv, 1)) (kk : am_AW G M (pc + 1) ls (.int (x / y) :: st) σ Q) : am_AW G M pc ls (.int y :: .int x :: st) σ Q := by
  intro p e s m args below meth c A hC hA H locs lr hP hD hS hl
  obtain ⟨hx, hb, hr, hml, hown, hts, hlk, hK, hN⟩ := id hC
  exact lv_idiv hx hb d h0 (kk p e s m args below meth c A hC hA H locs lr hP hD hS hl)
def ki_idiv (k : am_K ρ) : am_K ρ := fun ls st σ => match st with
  | .int y :: .int x :: t => if y = 0 then none else k ls (.int (x / y) :: t) σ
  | _ => none
theorem sn_idiv (d : decode M.2.1 pc = .ok (.idiv, 1)) (h : am_Snd G M (pc + 1) P k) : am_Snd G M pc P (ki_idiv k) := by
  intro ls st σ r Q e hr
  unfold ki_idiv at e
  split at e
  · split at e
    · cases e
    · rename_i h0
      exact aw_idiv h0 d (h _ _ _ _ _ e hr)
  · cases e
theorem aw_irem {x y : Int32} (h0 : ¬ y = 0) (d : decode M.2.1 pc = .ok (.irem, 1)) (kk : am_AW G M (pc + 1) ls (.int (am_rem x y) :: st) σ Q) : am_AW G M pc ls (.int y :: .int x :: st) σ Q := by
  intro p e s m args below meth c A hC hA H locs lr hP hD hS hl
  obtain ⟨hx, hb, hr, hml, hown, hts, hlk, hK, hN⟩ := id hC
  exact lv_irem hx hb d h0 (kk p e s m args below meth c A hC hA H locs lr hP hD hS hl)
def ki_irem (k : am_K ρ) : am_K ρ := fun ls st σ => match st with
  | .int y :: .int x :: t => if y = 0 then none else k ls (.int (am_rem x y) :: t) σ
  | _ => none
theorem sn_irem (d : decode M.2.1 pc = .ok (.irem, 1)) (h : am_Snd G M (pc + 1) P k) : am_Snd G M pc P (ki_irem k) := by
  intro ls st σ r Q e hr
  unfold ki_irem at e
  split at e
  · split at e
    · cases e
    · rename_i h0
      exact aw_irem h0 d (h _ _ _ _ _ e hr)
  · cases e
theorem aw_ladd {x y : Int64} (d : decode M.2.1 pc = .ok (.ladd, 1)) (kk : am_AW G M (pc + 1) ls (.long (x + y) :: st) σ Q) : am_AW G M pc ls (.long y :: .long x :: st) σ Q := by
  intro p e s m args below meth c A hC hA H locs lr hP hD hS hl
  obtain ⟨hx, hb, hr, hml, hown, hts, hlk, hK, hN⟩ := id hC
  exact lv_ladd hx hb d (kk p e s m args below meth c A hC hA H locs lr hP hD hS hl)
def ki_ladd (k : am_K ρ) : am_K ρ := fun ls st σ => match st with
  | .long y :: .long x :: t => k ls (.long (x + y) :: t) σ
  | _ => none
theorem sn_ladd (d : decode M.2.1 pc = .ok (.ladd, 1)) (h : am_Snd G M (pc + 1) P k) : am_Snd G M pc P (ki_ladd k) := by
  intro ls st σ r Q e hr
  unfold ki_ladd at e
  split at e
  · exact aw_ladd d (h _ _ _ _ _ e hr)
  · cases e
theorem aw_lsub {x y : Int64} (d : decode M.2.1 pc = .ok (.lsub, 1)) (kk : am_AW G M (pc + 1) ls (.long (x - y) :: st) σ Q) : am_AW G M pc ls (.long y :: .long x :: st) σ Q := by
  intro p e s m args below meth c A hC hA H locs lr hP hD hS hl
  obtain ⟨hx, hb, hr, hml, hown, hts, hlk, hK, hN⟩ := id hC
  exact lv_lsub hx hb d (kk p e s m args below meth c A hC hA H locs lr hP hD hS hl)
def ki_lsub (k : am_K ρ) : am_K ρ := fun ls st σ => match st with
  | .long y :: .long x :: t => k ls (.long (x - y) :: t) σ
  | _ => none
theorem sn_lsub (d : decode M.2.1 pc = .ok (.lsub, 1)) (h : am_Snd G M (pc + 1) P k) : am_Snd G M pc P (ki_lsub k) := by
  intro ls st σ r Q e hr
  unfold ki_lsub at e
  split at e
  · exact aw_lsub d (h _ _ _ _ _ e hr)
  · cases e
theorem aw_lmul {x y : Int64} (d : decode M.2.1 pc = .ok (.lmul, 1)) (kk : am_AW G M (pc + 1) ls (.long (x * y) :: st) σ Q) : am_AW G M pc ls (.long y :: .long x :: st) σ Q := by
  intro p e s m args below meth c A hC hA H locs lr hP hD hS hl
  obtain ⟨hx, hb, hr, hml, hown, hts, hlk, hK, hN⟩ := id hC
  exact lv_lmul hx hb d (kk p e s m args below meth c A hC hA H locs lr hP hD hS hl)
def ki_lmul (k : am_K ρ) : am_K ρ := fun ls st σ => match st with
  | .long y :: .long x :: t => k ls (.long (x * y) :: t) σ
  | _ => none
theorem sn_lmul (d : decode M.2.1 pc = .ok (.lmul, 1)) (h : am_Snd G M (pc + 1) P k) : am_Snd G M pc P (ki_lmul k) := by
  intro ls st σ r Q e hr
  unfold ki_lmul at e
  split at e
  · exact aw_lmul d (h _ _ _ _ _ e hr)
  · cases e
theorem aw_ldiv {x y : Int64} (h0 : ¬ y = 0) (d : decode M.2.1 pc = .ok (.ldiv, 1)) (kk : am_AW G M (pc + 1) ls (.long (x / y) :: st) σ Q) : am_AW G M pc ls (.long y :: .long x :: st) σ Q := by
  intro p e s m args below meth c A hC hA H locs lr hP hD hS hl
  obtain ⟨hx, hb, hr, hml, hown, hts, hlk, hK, hN⟩ := id hC
  exact lv_ldiv hx hb d h0 (kk p e s m args below meth c A hC hA H locs lr hP hD hS hl)
def ki_ldiv (k : am_K ρ) : am_K ρ := fun ls st σ => match st with
  | .long y :: .long x :: t => if y = 0 then none else k ls (.long (x / y) :: t) σ
  | _ => none
theorem sn_ldiv (d : decode M.2.1 pc = .ok (.ldiv, 1)) (h : am_Snd G M (pc + 1) P k) : am_Snd G M pc P (ki_ldiv k) := by
  intro ls st σ r Q e hr
  unfold ki_ldiv at e
  split at e
  · split at e
    · cases e
    · rename_i h0
      exact aw_ldiv h0 d (h _ _ _ _ _ e hr)
  · cases e
theorem aw_lrem {x y : Int64} (h0 : ¬ y = 0) (d : decode M.2.1 pc = .ok (.lrem, 1)) (kk : am_AW G M (pc + 1) ls (.long (am_lrem x y) :: st) σ Q) : am_AW G M pc ls (.long y :: .long x :: st) σ Q := by
  intro p e s m args below meth c A hC hA H locs lr hP hD hS hl
  obtain ⟨hx, hb, hr, hml, hown, hts, hlk, hK, hN⟩ := id hC
  exact lv_lrem hx hb d h0 (kk p e s m args below meth c A hC hA H locs lr hP hD hS hl)
def ki_lrem (k : am_K ρ) : am_K ρ := fun ls st σ => match st with
  | .long y :: .long x :: t => if y = 0 then none else k ls (.long (am_lrem x y) :: t) σ
  | _ => none
theorem sn_lrem (d : decode M.2.1 pc = .ok (.lrem, 1)) (h : am_Snd G M (pc + 1) P k) : am_Snd G M pc P (ki_lrem k) := by
  intro ls st σ r Q e hr
  unfold ki_lrem at e
  split at e
  · split at e
    · cases e
    · rename_i h0
      exact aw_lrem h0 d (h _ _ _ _ _ e hr)
  · cases e
theorem aw_iushr {x y : Int32} (d : decode M.2.1 pc = .ok (.iushr, 1)) (kk : am_AW G M (pc + 1) ls (.int (am_ush x y) :: st) σ Q) : am_AW G M pc ls (.int y :: .int x :: st) σ Q := by
  intro p e s m args below meth c A hC hA H locs lr hP hD hS hl
  obtain ⟨hx, hb, hr, hml, hown, hts, hlk, hK, hN⟩ := id hC
  exact lv_iushr hx hb d rfl (kk p e s m args below meth c A hC hA H locs lr hP hD hS hl)
def ki_iushr (k : am_K ρ) : am_K ρ := fun ls st σ => match st with
  | .int y :: .int x :: t => k ls (.int (am_ush x y) :: t) σ
  | _ => none
theorem sn_iushr (d : decode M.2.1 pc = .ok (.iushr, 1)) (h : am_Snd G M (pc + 1) P k) : am_Snd G M pc P (ki_iushr k) := by
  intro ls st σ r Q e hr
  unfold ki_iushr at e
  split at e
  · exact aw_iushr d (h _ _ _ _ _ e hr)
  · cases e
theorem aw_ineg {x : Int32} (d : decode M.2.1 pc = .ok (.ineg, 1)) (kk : am_AW G M (pc + 1) ls (.int (-x) :: st) σ Q) : am_AW G M pc ls (.int x :: st) σ Q := by
  intro p e s m args below meth c A hC hA H locs lr hP hD hS hl
  obtain ⟨hx, hb, hr, hml, hown, hts, hlk, hK, hN⟩ := id hC
  exact lv_ineg hx hb d (kk p e s m args below meth c A hC hA H locs lr hP hD hS hl)
def ki_ineg (k : am_K ρ) : am_K ρ := fun ls st σ => match st with
  | .int x :: t => k ls (.int (-x) :: t) σ
  | _ => none
theorem sn_ineg (d : decode M.2.1 pc = .ok (.ineg, 1)) (h : am_Snd G M (pc + 1) P k) : am_Snd G M pc P (ki_ineg k) := by
  intro ls st σ r Q e hr
  unfold ki_ineg at e
  split at e
  · exact aw_ineg d (h _ _ _ _ _ e hr)
  · cases e
theorem aw_i2l {x : Int32} (d : decode M.2.1 pc = .ok (.i2l, 1)) (kk : am_AW G M (pc + 1) ls (.long (x.toInt64) :: st) σ Q) : am_AW G M pc ls (.int x :: st) σ Q := by
  intro p e s m args below meth c A hC hA H locs lr hP hD hS hl
  obtain ⟨hx, hb, hr, hml, hown, hts, hlk, hK, hN⟩ := id hC
  exact lv_i2l hx hb d rfl (kk p e s m args below meth c A hC hA H locs lr hP hD hS hl)
def ki_i2l (k : am_K ρ) : am_K ρ := fun ls st σ => match st with
  | .int x :: t => k ls (.long (x.toInt64) :: t) σ
  | _ => none
theorem sn_i2l (d : decode M.2.1 pc = .ok (.i2l, 1)) (h : am_Snd G M (pc + 1) P k) : am_Snd G M pc P (ki_i2l k) := by
  intro ls st σ r Q e hr
  unfold ki_i2l at e
  split at e
  · exact aw_i2l d (h _ _ _ _ _ e hr)
  · cases e
theorem aw_lcmp {x y : Int64} (d : decode M.2.1 pc = .ok (.lcmp, 1)) (kk : am_AW G M (pc + 1) ls (.int (lg_cmp x y) :: st) σ Q) : am_AW G M pc ls (.long y :: .long x :: st) σ Q := by
  intro p e s m args below meth c A hC hA H locs lr hP hD hS hl
  obtain ⟨hx, hb, hr, hml, hown, hts, hlk, hK, hN⟩ := id hC
  exact W.lcmp hx hb d (kk p e s m args below meth c A hC hA H locs lr hP hD hS hl)
def ki_lcmp (k : am_K ρ) : am_K ρ := fun ls st σ => match st with
  | .long y :: .long x :: t => k ls (.int (lg_cmp x y) :: t) σ
  | _ => none
theorem sn_lcmp (d : decode M.2.1 pc = .ok (.lcmp, 1)) (h : am_Snd G M (pc + 1) P k) : am_Snd G M pc P (ki_lcmp k) := by
  intro ls st σ r Q e hr
  unfold ki_lcmp at e
  split at e
  · exact aw_lcmp d (h _ _ _ _ _ e hr)
  · cases e
theorem aw_iconst {n : Int} {v : Int32} (d : decode M.2.1 pc = .ok (.iconst n, 1)) (hv : Int32.ofInt n = v) (kk : am_AW G M (pc + 1) ls (.int v :: st) σ Q) : am_AW G M pc ls st σ Q := by
  intro p e s m args below meth c A hC hA H locs lr hP hD hS hl
  obtain ⟨hx, hb, hr, hml, hown, hts, hlk, hK, hN⟩ := id hC
  exact lv_iconst hx hb d hv (kk p e s m args below meth c A hC hA H locs lr hP hD hS hl)
def ki_iconst (v : Int32) (k : am_K ρ) : am_K ρ := fun ls st σ => k ls (.int v :: st) σ
theorem sn_iconst {n : Int} {v : Int32} (d : decode M.2.1 pc = .ok (.iconst n, 1)) (hv : Int32.ofInt n = v) (h : am_Snd G M (pc + 1) P k) : am_Snd G M pc P (ki_iconst v k) := fun ls st σ r Q e hr => aw_iconst d hv (h _ _ _ _ _ e hr)
theorem aw_bipush {n : Int} {v : Int32} (d : decode M.2.1 pc = .ok (.bipush n, 2)) (hv : (Int8.ofInt n).toInt32 = v) (kk : am_AW G M (pc + 2) ls (.int v :: st) σ Q) : am_AW G M pc ls st σ Q := by
  intro p e s m args below meth c A hC hA H locs lr hP hD hS hl
  obtain ⟨hx, hb, hr, hml, hown, hts, hlk, hK, hN⟩ := id hC
  exact lv_bipush hx hb d hv (kk p e s m args below meth c A hC hA H locs lr hP hD hS hl)
theorem sn_bipush {n : Int} {v : Int32} (d : decode M.2.1 pc = .ok (.bipush n, 2)) (hv : (Int8.ofInt n).toInt32 = v) (h : am_Snd G M (pc + 2) P k) : am_Snd G M pc P (ki_iconst v k) := fun ls st σ r Q e hr => aw_bipush d hv (h _ _ _ _ _ e hr)
theorem aw_sipush {n : Int} {v : Int32} (d : decode M.2.1 pc = .ok (.sipush n, 3)) (hv : (Int16.ofInt n).toInt32 = v) (kk : am_AW G M (pc + 3) ls (.int v :: st) σ Q) : am_AW G M pc ls st σ Q := by
  intro p e s m args below meth c A hC hA H locs lr hP hD hS hl
  obtain ⟨hx, hb, hr, hml, hown, hts, hlk, hK, hN⟩ := id hC
  exact lv_sipush hx hb d hv (kk p e s m args below meth c A hC hA H locs lr hP hD hS hl)
theorem sn_sipush {n : Int} {v : Int32} (d : decode M.2.1 pc = .ok (.sipush n, 3)) (hv : (Int16.ofInt n).toInt32 = v) (h : am_Snd G M (pc + 3) P k) : am_Snd G M pc P (ki_iconst v k) := fun ls st σ r Q e hr => aw_sipush d hv (h _ _ _ _ _ e hr)
theorem aw_lconst {n : Fin 2} {v : Int64} (d : decode M.2.1 pc = .ok (.lconst n, 1)) (hv : Int64.ofNat (n : Nat) = v) (kk : am_AW G M (pc + 1) ls (.long v :: st) σ Q) : am_AW G M pc ls st σ Q := by
  intro p e s m args below meth c A hC hA H locs lr hP hD hS hl
  obtain ⟨hx, hb, hr, hml, hown, hts, hlk, hK, hN⟩ := id hC
  exact lv_lconst hx hb d hv (kk p e s m args below meth c A hC hA H locs lr hP hD hS hl)
def ki_lconst (v : Int64) (k : am_K ρ) : am_K ρ := fun ls st σ => k ls (.long v :: st) σ
theorem sn_lconst {n : Fin 2} {v : Int64} (d : decode M.2.1 pc = .ok (.lconst n, 1)) (hv : Int64.ofNat (n : Nat) = v) (h : am_Snd G M (pc + 1) P k) : am_Snd G M pc P (ki_lconst v k) := fun ls st σ r Q e hr => aw_lconst d hv (h _ _ _ _ _ e hr)
theorem aw_ldc {index : Nat} {v : Int32} (d : decode M.2.1 pc = .ok (.ldc index, 2)) (hw : am_in (.constant M.1.cls index v)) (kk : am_AW G M (pc + 2) ls (.int v :: st) σ Q) : am_AW G M pc ls st σ Q := by
  intro p e s m args below meth c A hC hA H locs lr hP hD hS hl
  obtain ⟨hx, hb, hr, hml, hown, hts, hlk, hK, hN⟩ := id hC
  exact lv_ldc hx hb hown (hts _ hw.LT) d (kk p e s m args below meth c A hC hA H locs lr hP hD hS hl)
theorem sn_ldc {index : Nat} {v : Int32} (d : decode M.2.1 pc = .ok (.ldc index, 2)) (hw : am_in (.constant M.1.cls index v)) (h : am_Snd G M (pc + 2) P k) : am_Snd G M pc P (ki_iconst v k) := fun ls st σ r Q e hr => aw_ldc d hw (h _ _ _ _ _ e hr)
theorem aw_ldcw {index : Nat} {v : Int32} (d : decode M.2.1 pc = .ok (.ldc_w index, 3)) (hw : am_in (.constant M.1.cls index v)) (kk : am_AW G M (pc + 3) ls (.int v :: st) σ Q) : am_AW G M pc ls st σ Q := by
  intro p e s m args below meth c A hC hA H locs lr hP hD hS hl
  obtain ⟨hx, hb, hr, hml, hown, hts, hlk, hK, hN⟩ := id hC
  exact lv_ldcw hx hb hown (hts _ hw.LT) d (kk p e s m args below meth c A hC hA H locs lr hP hD hS hl)
theorem sn_ldcw {index : Nat} {v : Int32} (d : decode M.2.1 pc = .ok (.ldc_w index, 3)) (hw : am_in (.constant M.1.cls index v)) (h : am_Snd G M (pc + 3) P k) : am_Snd G M pc P (ki_iconst v k) := fun ls st σ r Q e hr => aw_ldcw d hw (h _ _ _ _ _ e hr)
theorem aw_ldc2 {index : Nat} {v : Int64} (d : decode M.2.1 pc = .ok (.ldc2_w index, 3)) (hw : am_in (.constantLong M.1.cls index v)) (kk : am_AW G M (pc + 3) ls (.long v :: st) σ Q) : am_AW G M pc ls st σ Q := by
  intro p e s m args below meth c A hC hA H locs lr hP hD hS hl
  obtain ⟨hx, hb, hr, hml, hown, hts, hlk, hK, hN⟩ := id hC
  exact lv_ldc2 hx hb hown (hts _ hw.LT) d (kk p e s m args below meth c A hC hA H locs lr hP hD hS hl)
theorem sn_ldc2 {index : Nat} {v : Int64} (d : decode M.2.1 pc = .ok (.ldc2_w index, 3)) (hw : am_in (.constantLong M.1.cls index v)) (h : am_Snd G M (pc + 3) P k) : am_Snd G M pc P (ki_lconst v k) := fun ls st σ r Q e hr => aw_ldc2 d hw (h _ _ _ _ _ e hr)
def ki_ild (i : Nat) (k : am_K ρ) : am_K ρ := fun ls st σ => match am_gl ls i with
  | some (.int x) => k ls (.int x :: st) σ
  | _ => none
def ki_lld (i : Nat) (k : am_K ρ) : am_K ρ := fun ls st σ => match am_gl ls i with
  | some (.long x) => k ls (.long x :: st) σ
  | _ => none
def ki_ald (i : Nat) (k : am_K ρ) : am_K ρ := fun ls st σ => match am_gl ls i with
  | some (.ref x) => k ls (.ref x :: st) σ
  | _ => none
theorem aw_iload {i : Nat} {x : Int32} (d : decode M.2.1 pc = .ok (.iload i, 2)) (hg : am_gl ls i = some (.int x)) (kk : am_AW G M (pc + 2) ls (.int x :: st) σ Q) : am_AW G M pc ls st σ Q := by
  intro p e s m args below meth c A hC hA H locs lr hP hD hS hl
  obtain ⟨hx, hb, hr, hml, hown, hts, hlk, hK, hN⟩ := id hC
  exact lv_iload hx hb d (am_ml_get hl hg) (kk p e s m args below meth c A hC hA H locs lr hP hD hS hl)
theorem sn_iload {i : Nat} (d : decode M.2.1 pc = .ok (.iload i, 2)) (h : am_Snd G M (pc + 2) P k) : am_Snd G M pc P (ki_ild i k) := by
  intro ls st σ r Q e hr
  unfold ki_ild at e
  split at e
  · rename_i hg
    exact aw_iload d hg (h _ _ _ _ _ e hr)
  · cases e
theorem aw_iload_n {j : Fin 4} {x : Int32} (d : decode M.2.1 pc = .ok (.iload_n j, 1)) (hg : am_gl ls j = some (.int x)) (kk : am_AW G M (pc + 1) ls (.int x :: st) σ Q) : am_AW G M pc ls st σ Q := by
  intro p e s m args below meth c A hC hA H locs lr hP hD hS hl
  obtain ⟨hx, hb, hr, hml, hown, hts, hlk, hK, hN⟩ := id hC
  exact lv_iload_n hx hb d rfl (am_ml_get hl hg) (kk p e s m args below meth c A hC hA H locs lr hP hD hS hl)
theorem sn_iload_n {j : Fin 4} {i : Nat} (d : decode M.2.1 pc = .ok (.iload_n j, 1)) (hj : (j : Nat) = i) (h : am_Snd G M (pc + 1) P k) : am_Snd G M pc P (ki_ild i k) := by
  intro ls st σ r Q e hr
  unfold ki_ild at e
  split at e
  · rename_i hg
    rw [← hj] at hg
    exact aw_iload_n d hg (h _ _ _ _ _ e hr)
  · cases e
theorem aw_lload {i : Nat} {x : Int64} (d : decode M.2.1 pc = .ok (.lload i, 2)) (hg : am_gl ls i = some (.long x)) (kk : am_AW G M (pc + 2) ls (.long x :: st) σ Q) : am_AW G M pc ls st σ Q := by
  intro p e s m args below meth c A hC hA H locs lr hP hD hS hl
  obtain ⟨hx, hb, hr, hml, hown, hts, hlk, hK, hN⟩ := id hC
  exact lv_lload hx hb d (am_ml_get hl hg) (kk p e s m args below meth c A hC hA H locs lr hP hD hS hl)
theorem sn_lload {i : Nat} (d : decode M.2.1 pc = .ok (.lload i, 2)) (h : am_Snd G M (pc + 2) P k) : am_Snd G M pc P (ki_lld i k) := by
  intro ls st σ r Q e hr
  unfold ki_lld at e
  split at e
  · rename_i hg
    exact aw_lload d hg (h _ _ _ _ _ e hr)
  · cases e
theorem aw_lload_n {j : Fin 4} {x : Int64} (d : decode M.2.1 pc = .ok (.lload_n j, 1)) (hg : am_gl ls j = some (.long x)) (kk : am_AW G M (pc + 1) ls (.long x :: st) σ Q) : am_AW G M pc ls st σ Q := by
  intro p e s m args below meth c A hC hA H locs lr hP hD hS hl
  obtain ⟨hx, hb, hr, hml, hown, hts, hlk, hK, hN⟩ := id hC
  exact lv_lload_n hx hb d rfl (am_ml_get hl hg) (kk p e s m args below meth c A hC hA H locs lr hP hD hS hl)
theorem sn_lload_n {j : Fin 4} {i : Nat} (d : decode M.2.1 pc = .ok (.lload_n j, 1)) (hj : (j : Nat) = i) (h : am_Snd G M (pc + 1) P k) : am_Snd G M pc P (ki_lld i k) := by
  intro ls st σ r Q e hr
  unfold ki_lld at e
  split at e
  · rename_i hg
    rw [← hj] at hg
    exact aw_lload_n d hg (h _ _ _ _ _ e hr)
  · cases e
theorem aw_aload {i : Nat} {x : Nat} (d : decode M.2.1 pc = .ok (.aload i, 2)) (hg : am_gl ls i = some (.ref x)) (kk : am_AW G M (pc + 2) ls (.ref x :: st) σ Q) : am_AW G M pc ls st σ Q := by
  intro p e s m args below meth c A hC hA H locs lr hP hD hS hl
  obtain ⟨hx, hb, hr, hml, hown, hts, hlk, hK, hN⟩ := id hC
  exact lv_aload hx hb d (am_ml_get hl hg) (kk p e s m args below meth c A hC hA H locs lr hP hD hS hl)
theorem sn_aload {i : Nat} (d : decode M.2.1 pc = .ok (.aload i, 2)) (h : am_Snd G M (pc + 2) P k) : am_Snd G M pc P (ki_ald i k) := by
  intro ls st σ r Q e hr
  unfold ki_ald at e
  split at e
  · rename_i hg
    exact aw_aload d hg (h _ _ _ _ _ e hr)
  · cases e
theorem aw_aload_n {j : Fin 4} {x : Nat} (d : decode M.2.1 pc = .ok (.aload_n j, 1)) (hg : am_gl ls j = some (.ref x)) (kk : am_AW G M (pc + 1) ls (.ref x :: st) σ Q) : am_AW G M pc ls st σ Q := by
  intro p e s m args below meth c A hC hA H locs lr hP hD hS hl
  obtain ⟨hx, hb, hr, hml, hown, hts, hlk, hK, hN⟩ := id hC
  exact lv_aload_n hx hb d rfl (am_ml_get hl hg) (kk p e s m args below meth c A hC hA H locs lr hP hD hS hl)
theorem sn_aload_n {j : Fin 4} {i : Nat} (d : decode M.2.1 pc = .ok (.aload_n j, 1)) (hj : (j : Nat) = i) (h : am_Snd G M (pc + 1) P k) : am_Snd G M pc P (ki_ald i k) := by
  intro ls st σ r Q e hr
  unfold ki_ald at e
  split at e
  · rename_i hg
    rw [← hj] at hg
    exact aw_aload_n d hg (h _ _ _ _ _ e hr)
  · cases e
def ki_ist (i : Nat) (k : am_K ρ) : am_K ρ := fun ls st σ => match st with
  | .int x :: t => k (am_sl ls i (.int x)) t σ
  | _ => none
theorem aw_istore {i : Nat} {x : Int32} (d : decode M.2.1 pc = .ok (.istore i, 2)) (hi : i < M.2.2.1) (kk : am_AW G M (pc + 2) (am_sl ls i (.int x)) st σ Q) : am_AW G M pc ls (.int x :: st) σ Q := by
  intro p e s m args below meth c A hC hA H locs lr hP hD hS hl
  obtain ⟨hx, hb, hr, hml, hown, hts, hlk, hK, hN⟩ := id hC
  exact lv_istore hx hb d hl hi (am_ml_sl (ad := G.2.2.2) (v := .int x)) (fun lr hl => (kk p e s m args below meth c A hC hA H locs lr hP hD hS hl))
theorem sn_istore {i : Nat} (d : decode M.2.1 pc = .ok (.istore i, 2)) (hi : i < M.2.2.1) (h : am_Snd G M (pc + 2) P k) : am_Snd G M pc P (ki_ist i k) := by
  intro ls st σ r Q e hr
  unfold ki_ist at e
  split at e
  · exact aw_istore d hi (h _ _ _ _ _ e hr)
  · cases e
theorem aw_istore_n {j : Fin 4} {x : Int32} (d : decode M.2.1 pc = .ok (.istore_n j, 1)) (hi : (j : Nat) < M.2.2.1) (kk : am_AW G M (pc + 1) (am_sl ls j (.int x)) st σ Q) : am_AW G M pc ls (.int x :: st) σ Q := by
  intro p e s m args below meth c A hC hA H locs lr hP hD hS hl
  obtain ⟨hx, hb, hr, hml, hown, hts, hlk, hK, hN⟩ := id hC
  exact lv_istore_n hx hb d rfl hl hi (am_ml_sl (ad := G.2.2.2) (v := .int x)) (fun lr hl => (kk p e s m args below meth c A hC hA H locs lr hP hD hS hl))
theorem sn_istore_n {j : Fin 4} {i : Nat} (d : decode M.2.1 pc = .ok (.istore_n j, 1)) (hj : (j : Nat) = i) (hi : i < M.2.2.1) (h : am_Snd G M (pc + 1) P k) : am_Snd G M pc P (ki_ist i k) := by
  subst hj
  intro ls st σ r Q e hr
  unfold ki_ist at e
  split at e
  · exact aw_istore_n d hi (h _ _ _ _ _ e hr)
  · cases e
def ki_lst (i : Nat) (k : am_K ρ) : am_K ρ := fun ls st σ => match st with
  | .long x :: t => k (am_sl2 ls i (.long x)) t σ
  | _ => none
theorem aw_lstore {i : Nat} {x : Int64} (d : decode M.2.1 pc = .ok (.lstore i, 2)) (hi : i + 1 < M.2.2.1) (kk : am_AW G M (pc + 2) (am_sl2 ls i (.long x)) st σ Q) : am_AW G M pc ls (.long x :: st) σ Q := by
  intro p e s m args below meth c A hC hA H locs lr hP hD hS hl
  obtain ⟨hx, hb, hr, hml, hown, hts, hlk, hK, hN⟩ := id hC
  exact lv_lstore hx hb d hl hi (am_ml_sl2 (ad := G.2.2.2) (v := .long x)) (fun lr hl => (kk p e s m args below meth c A hC hA H locs lr hP hD hS hl))
theorem sn_lstore {i : Nat} (d : decode M.2.1 pc = .ok (.lstore i, 2)) (hi : i + 1 < M.2.2.1) (h : am_Snd G M (pc + 2) P k) : am_Snd G M pc P (ki_lst i k) := by
  intro ls st σ r Q e hr
  unfold ki_lst at e
  split at e
  · exact aw_lstore d hi (h _ _ _ _ _ e hr)
  · cases e
theorem aw_lstore_n {j : Fin 4} {x : Int64} (d : decode M.2.1 pc = .ok (.lstore_n j, 1)) (hi : (j : Nat) + 1 < M.2.2.1) (kk : am_AW G M (pc + 1) (am_sl2 ls j (.long x)) st σ Q) : am_AW G M pc ls (.long x :: st) σ Q := by
  intro p e s m args below meth c A hC hA H locs lr hP hD hS hl
  obtain ⟨hx, hb, hr, hml, hown, hts, hlk, hK, hN⟩ := id hC
  exact lv_lstore_n hx hb d rfl hl hi (am_ml_sl2 (ad := G.2.2.2) (v := .long x)) (fun lr hl => (kk p e s m args below meth c A hC hA H locs lr hP hD hS hl))
theorem sn_lstore_n {j : Fin 4} {i : Nat} (d : decode M.2.1 pc = .ok (.lstore_n j, 1)) (hj : (j : Nat) = i) (hi : i + 1 < M.2.2.1) (h : am_Snd G M (pc + 1) P k) : am_Snd G M pc P (ki_lst i k) := by
  subst hj
  intro ls st σ r Q e hr
  unfold ki_lst at e
  split at e
  · exact aw_lstore_n d hi (h _ _ _ _ _ e hr)
  · cases e
def ki_ast (i : Nat) (k : am_K ρ) : am_K ρ := fun ls st σ => match st with
  | .ref x :: t => k (am_sl ls i (.ref x)) t σ
  | _ => none
theorem aw_astore {i : Nat} {x : Nat} (d : decode M.2.1 pc = .ok (.astore i, 2)) (hi : i < M.2.2.1) (kk : am_AW G M (pc + 2) (am_sl ls i (.ref x)) st σ Q) : am_AW G M pc ls (.ref x :: st) σ Q := by
  intro p e s m args below meth c A hC hA H locs lr hP hD hS hl
  obtain ⟨hx, hb, hr, hml, hown, hts, hlk, hK, hN⟩ := id hC
  exact lv_astore hx hb d hl hi (am_ml_sl (ad := G.2.2.2) (v := .ref x)) (fun lr hl => (kk p e s m args below meth c A hC hA H locs lr hP hD hS hl))
theorem sn_astore {i : Nat} (d : decode M.2.1 pc = .ok (.astore i, 2)) (hi : i < M.2.2.1) (h : am_Snd G M (pc + 2) P k) : am_Snd G M pc P (ki_ast i k) := by
  intro ls st σ r Q e hr
  unfold ki_ast at e
  split at e
  · exact aw_astore d hi (h _ _ _ _ _ e hr)
  · cases e
theorem aw_astore_n {j : Fin 4} {x : Nat} (d : decode M.2.1 pc = .ok (.astore_n j, 1)) (hi : (j : Nat) < M.2.2.1) (kk : am_AW G M (pc + 1) (am_sl ls j (.ref x)) st σ Q) : am_AW G M pc ls (.ref x :: st) σ Q := by
  intro p e s m args below meth c A hC hA H locs lr hP hD hS hl
  obtain ⟨hx, hb, hr, hml, hown, hts, hlk, hK, hN⟩ := id hC
  exact lv_astore_n hx hb d rfl hl hi (am_ml_sl (ad := G.2.2.2) (v := .ref x)) (fun lr hl => (kk p e s m args below meth c A hC hA H locs lr hP hD hS hl))
theorem sn_astore_n {j : Fin 4} {i : Nat} (d : decode M.2.1 pc = .ok (.astore_n j, 1)) (hj : (j : Nat) = i) (hi : i < M.2.2.1) (h : am_Snd G M (pc + 1) P k) : am_Snd G M pc P (ki_ast i k) := by
  subst hj
  intro ls st σ r Q e hr
  unfold ki_ast at e
  split at e
  · exact aw_astore_n d hi (h _ _ _ _ _ e hr)
  · cases e
def ki_iinc (i : Nat) (v : Int32) (k : am_K ρ) : am_K ρ := fun ls st σ => match am_gl ls i with
  | some (.int x) => k (am_sl ls i (.int (x + v))) st σ
  | _ => none
theorem aw_iinc {i : Nat} {n : Int} {x v : Int32} (d : decode M.2.1 pc = .ok (.iinc i n, 3)) (hv : Int32.ofInt n = v) (hi : i < M.2.2.1) (hg : am_gl ls i = some (.int x)) (kk : am_AW G M (pc + 3) (am_sl ls i (.int (x + v))) st σ Q) : am_AW G M pc ls st σ Q := by
  intro p e s m args below meth c A hC hA H locs lr hP hD hS hl
  obtain ⟨hx, hb, hr, hml, hown, hts, hlk, hK, hN⟩ := id hC
  obtain ⟨q, hq⟩ := List.getElem?_of_mem (List.mem_map.mpr ⟨(i, .int x), am_gl_mem hg, rfl⟩ : (i, am_cv G.2.2.2 (.int x)) ∈ am_ml G.2.2.2 ls)
  exact lv_iinc hx hb d hl hq (by rw [hv]) hi (am_ml_sl (ad := G.2.2.2) (v := .int (x + v))) (fun lr hl => (kk p e s m args below meth c A hC hA H locs lr hP hD hS hl))
theorem sn_iinc {i : Nat} {n : Int} {v : Int32} (d : decode M.2.1 pc = .ok (.iinc i n, 3)) (hv : Int32.ofInt n = v) (hi : i < M.2.2.1) (h : am_Snd G M (pc + 3) P k) : am_Snd G M pc P (ki_iinc i v k) := by
  intro ls st σ r Q e hr
  unfold ki_iinc at e
  split at e
  · rename_i hg
    exact aw_iinc d hv hi hg (h _ _ _ _ _ e hr)
  · cases e
def ki_dup (k : am_K ρ) : am_K ρ := fun ls st σ => match st with
  | .int x :: t => k ls (.int x :: .int x :: t) σ
  | .ref x :: t => k ls (.ref x :: .ref x :: t) σ
  | _ => none
theorem aw_dup {v : Value} (d : decode M.2.1 pc = .ok (.dup, 1)) (hv : v.category = 1) (kk : am_AW G M (pc + 1) ls (v :: v :: st) σ Q) : am_AW G M pc ls (v :: st) σ Q := by
  intro p e s m args below meth c A hC hA H locs lr hP hD hS hl
  obtain ⟨hx, hb, hr, hml, hown, hts, hlk, hK, hN⟩ := id hC
  exact lv_dup hx hb d (by rw [am_cv_cat]; exact hv) (kk p e s m args below meth c A hC hA H locs lr hP hD hS hl)
theorem sn_dup (d : decode M.2.1 pc = .ok (.dup, 1)) (h : am_Snd G M (pc + 1) P k) : am_Snd G M pc P (ki_dup k) := by
  intro ls st σ r Q e hr
  unfold ki_dup at e
  split at e
  · exact aw_dup d rfl (h _ _ _ _ _ e hr)
  · exact aw_dup d rfl (h _ _ _ _ _ e hr)
  · cases e
def ki_pop (k : am_K ρ) : am_K ρ := fun ls st σ => match st with
  | .int _ :: t => k ls t σ
  | _ => none
theorem aw_pop {v : Value} (d : decode M.2.1 pc = .ok (.pop, 1)) (hv : v.category = 1) (kk : am_AW G M (pc + 1) ls st σ Q) : am_AW G M pc ls (v :: st) σ Q := by
  intro p e s m args below meth c A hC hA H locs lr hP hD hS hl
  obtain ⟨hx, hb, hr, hml, hown, hts, hlk, hK, hN⟩ := id hC
  exact lv_pop hx hb d (by rw [am_cv_cat]; exact hv) (kk p e s m args below meth c A hC hA H locs lr hP hD hS hl)
theorem sn_pop (d : decode M.2.1 pc = .ok (.pop, 1)) (h : am_Snd G M (pc + 1) P k) : am_Snd G M pc P (ki_pop k) := by
  intro ls st σ r Q e hr
  unfold ki_pop at e
  split at e
  · exact aw_pop d rfl (h _ _ _ _ _ e hr)
  · cases e
theorem aw_goto {off : Int} {tgt : Nat} (d : decode M.2.1 pc = .ok (.goto off, 3)) (ht : (pc : Int) + off = (tgt : Int)) (kk : am_AW G M tgt ls st σ Q) : am_AW G M pc ls st σ Q := by
  intro p e s m args below meth c A hC hA H locs lr hP hD hS hl
  obtain ⟨hx, hb, hr, hml, hown, hts, hlk, hK, hN⟩ := id hC
  exact lv_goto hx hb d ht (kk p e s m args below meth c A hC hA H locs lr hP hD hS hl)
theorem sn_goto {off : Int} {tgt : Nat} (d : decode M.2.1 pc = .ok (.goto off, 3)) (ht : (pc : Int) + off = (tgt : Int)) (h : am_Snd G M tgt P k) : am_Snd G M pc P k := fun ls st σ r Q e hr => aw_goto d ht (h _ _ _ _ _ e hr)
theorem aw_if_eq {x : Int32} {off : Int} {tgt : Nat} (d : decode M.2.1 pc = .ok (.ifCond .eq off, 3)) (ht : (pc : Int) + off = (tgt : Int)) (k1 : x = 0 → am_AW G M tgt ls st σ Q) (k2 : ¬ x = 0 → am_AW G M (pc + 3) ls st σ Q) : am_AW G M pc ls (.int x :: st) σ Q := by
  intro p e s m args below meth c A hC hA H locs lr hP hD hS hl
  obtain ⟨hx, hb, hr, hml, hown, hts, hlk, hK, hN⟩ := id hC
  exact lv_if_eq hx hb d ht (fun q => (k1 q) p e s m args below meth c A hC hA H locs lr hP hD hS hl) (fun q => (k2 q) p e s m args below meth c A hC hA H locs lr hP hD hS hl)
theorem aw_icmp_eq {x y : Int32} {off : Int} {tgt : Nat} (d : decode M.2.1 pc = .ok (.if_icmp .eq off, 3)) (ht : (pc : Int) + off = (tgt : Int)) (k1 : x = y → am_AW G M tgt ls st σ Q) (k2 : ¬ x = y → am_AW G M (pc + 3) ls st σ Q) : am_AW G M pc ls (.int y :: .int x :: st) σ Q := by
  intro p e s m args below meth c A hC hA H locs lr hP hD hS hl
  obtain ⟨hx, hb, hr, hml, hown, hts, hlk, hK, hN⟩ := id hC
  exact lv_icmp_eq hx hb d ht (fun q => (k1 q) p e s m args below meth c A hC hA H locs lr hP hD hS hl) (fun q => (k2 q) p e s m args below meth c A hC hA H locs lr hP hD hS hl)
def ki_if_eq (k1 k2 : am_K ρ) : am_K ρ := fun ls st σ => match st with
  | .int x :: t => if x = 0 then k1 ls t σ else k2 ls t σ
  | _ => none
def ki_icmp_eq (k1 k2 : am_K ρ) : am_K ρ := fun ls st σ => match st with
  | .int y :: .int x :: t => if x = y then k1 ls t σ else k2 ls t σ
  | _ => none
theorem sn_if_eq {off : Int} {tgt : Nat} (d : decode M.2.1 pc = .ok (.ifCond .eq off, 3)) (ht : (pc : Int) + off = (tgt : Int)) (h1 : am_Snd G M tgt P k1) (h2 : am_Snd G M (pc + 3) P k2) : am_Snd G M pc P (ki_if_eq k1 k2) := by
  intro ls st σ r Q e hr
  unfold ki_if_eq at e
  split at e
  · split at e <;> rename_i hc
    · exact aw_if_eq d ht (fun _ => h1 _ _ _ _ _ e hr) (fun q => absurd hc q)
    · exact aw_if_eq d ht (fun q => absurd q hc) (fun _ => h2 _ _ _ _ _ e hr)
  · cases e
theorem sn_icmp_eq {off : Int} {tgt : Nat} (d : decode M.2.1 pc = .ok (.if_icmp .eq off, 3)) (ht : (pc : Int) + off = (tgt : Int)) (h1 : am_Snd G M tgt P k1) (h2 : am_Snd G M (pc + 3) P k2) : am_Snd G M pc P (ki_icmp_eq k1 k2) := by
  intro ls st σ r Q e hr
  unfold ki_icmp_eq at e
  split at e
  · split at e <;> rename_i hc
    · exact aw_icmp_eq d ht (fun _ => h1 _ _ _ _ _ e hr) (fun q => absurd hc q)
    · exact aw_icmp_eq d ht (fun q => absurd q hc) (fun _ => h2 _ _ _ _ _ e hr)
  · cases e
theorem aw_if_ne {x : Int32} {off : Int} {tgt : Nat} (d : decode M.2.1 pc = .ok (.ifCond .ne off, 3)) (ht : (pc : Int) + off = (tgt : Int)) (k1 : ¬ x = 0 → am_AW G M tgt ls st σ Q) (k2 : x = 0 → am_AW G M (pc + 3) ls st σ Q) : am_AW G M pc ls (.int x :: st) σ Q := by
  intro p e s m args below meth c A hC hA H locs lr hP hD hS hl
  obtain ⟨hx, hb, hr, hml, hown, hts, hlk, hK, hN⟩ := id hC
  exact lv_if_ne hx hb d ht (fun q => (k1 q) p e s m args below meth c A hC hA H locs lr hP hD hS hl) (fun q => (k2 q) p e s m args below meth c A hC hA H locs lr hP hD hS hl)
theorem aw_icmp_ne {x y : Int32} {off : Int} {tgt : Nat} (d : decode M.2.1 pc = .ok (.if_icmp .ne off, 3)) (ht : (pc : Int) + off = (tgt : Int)) (k1 : ¬ x = y → am_AW G M tgt ls st σ Q) (k2 : x = y → am_AW G M (pc + 3) ls st σ Q) : am_AW G M pc ls (.int y :: .int x :: st) σ Q := by
  intro p e s m args below meth c A hC hA H locs lr hP hD hS hl
  obtain ⟨hx, hb, hr, hml, hown, hts, hlk, hK, hN⟩ := id hC
  exact lv_icmp_ne hx hb d ht (fun q => (k1 q) p e s m args below meth c A hC hA H locs lr hP hD hS hl) (fun q => (k2 q) p e s m args below meth c A hC hA H locs lr hP hD hS hl)
theorem sn_if_ne {off : Int} {tgt : Nat} (d : decode M.2.1 pc = .ok (.ifCond .ne off, 3)) (ht : (pc : Int) + off = (tgt : Int)) (h1 : am_Snd G M tgt P k1) (h2 : am_Snd G M (pc + 3) P k2) : am_Snd G M pc P (ki_if_eq k2 k1) := by
  intro ls st σ r Q e hr
  unfold ki_if_eq at e
  split at e
  · split at e <;> rename_i hc
    · exact aw_if_ne d ht (fun q => absurd hc q) (fun _ => h2 _ _ _ _ _ e hr)
    · exact aw_if_ne d ht (fun _ => h1 _ _ _ _ _ e hr) (fun q => absurd q hc)
  · cases e
theorem sn_icmp_ne {off : Int} {tgt : Nat} (d : decode M.2.1 pc = .ok (.if_icmp .ne off, 3)) (ht : (pc : Int) + off = (tgt : Int)) (h1 : am_Snd G M tgt P k1) (h2 : am_Snd G M (pc + 3) P k2) : am_Snd G M pc P (ki_icmp_eq k2 k1) := by
  intro ls st σ r Q e hr
  unfold ki_icmp_eq at e
  split at e
  · split at e <;> rename_i hc
    · exact aw_icmp_ne d ht (fun q => absurd hc q) (fun _ => h2 _ _ _ _ _ e hr)
    · exact aw_icmp_ne d ht (fun _ => h1 _ _ _ _ _ e hr) (fun q => absurd q hc)
  · cases e
theorem aw_if_lt {x : Int32} {off : Int} {tgt : Nat} (d : decode M.2.1 pc = .ok (.ifCond .lt off, 3)) (ht : (pc : Int) + off = (tgt : Int)) (k1 : x < 0 → am_AW G M tgt ls st σ Q) (k2 : ¬ x < 0 → am_AW G M (pc + 3) ls st σ Q) : am_AW G M pc ls (.int x :: st) σ Q := by
  intro p e s m args below meth c A hC hA H locs lr hP hD hS hl
  obtain ⟨hx, hb, hr, hml, hown, hts, hlk, hK, hN⟩ := id hC
  exact lv_if_lt hx hb d ht (fun q => (k1 q) p e s m args below meth c A hC hA H locs lr hP hD hS hl) (fun q => (k2 q) p e s m args below meth c A hC hA H locs lr hP hD hS hl)
theorem aw_icmp_lt {x y : Int32} {off : Int} {tgt : Nat} (d : decode M.2.1 pc = .ok (.if_icmp .lt off, 3)) (ht : (pc : Int) + off = (tgt : Int)) (k1 : x < y → am_AW G M tgt ls st σ Q) (k2 : ¬ x < y → am_AW G M (pc + 3) ls st σ Q) : am_AW G M pc ls (.int y :: .int x :: st) σ Q := by
  intro p e s m args below meth c A hC hA H locs lr hP hD hS hl
  obtain ⟨hx, hb, hr, hml, hown, hts, hlk, hK, hN⟩ := id hC
  exact lv_icmp_lt hx hb d ht (fun q => (k1 q) p e s m args below meth c A hC hA H locs lr hP hD hS hl) (fun q => (k2 q) p e s m args below meth c A hC hA H locs lr hP hD hS hl)
def ki_if_lt (k1 k2 : am_K ρ) : am_K ρ := fun ls st σ => match st with
  | .int x :: t => if x < 0 then k1 ls t σ else k2 ls t σ
  | _ => none
def ki_icmp_lt (k1 k2 : am_K ρ) : am_K ρ := fun ls st σ => match st with
  | .int y :: .int x :: t => if x < y then k1 ls t σ else k2 ls t σ
  | _ => none
theorem sn_if_lt {off : Int} {tgt : Nat} (d : decode M.2.1 pc = .ok (.ifCond .lt off, 3)) (ht : (pc : Int) + off = (tgt : Int)) (h1 : am_Snd G M tgt P k1) (h2 : am_Snd G M (pc + 3) P k2) : am_Snd G M pc P (ki_if_lt k1 k2) := by
  intro ls st σ r Q e hr
  unfold ki_if_lt at e
  split at e
  · split at e <;> rename_i hc
    · exact aw_if_lt d ht (fun _ => h1 _ _ _ _ _ e hr) (fun q => absurd hc q)
    · exact aw_if_lt d ht (fun q => absurd q hc) (fun _ => h2 _ _ _ _ _ e hr)
  · cases e
theorem sn_icmp_lt {off : Int} {tgt : Nat} (d : decode M.2.1 pc = .ok (.if_icmp .lt off, 3)) (ht : (pc : Int) + off = (tgt : Int)) (h1 : am_Snd G M tgt P k1) (h2 : am_Snd G M (pc + 3) P k2) : am_Snd G M pc P (ki_icmp_lt k1 k2) := by
  intro ls st σ r Q e hr
  unfold ki_icmp_lt at e
  split at e
  · split at e <;> rename_i hc
    · exact aw_icmp_lt d ht (fun _ => h1 _ _ _ _ _ e hr) (fun q => absurd hc q)
    · exact aw_icmp_lt d ht (fun q => absurd q hc) (fun _ => h2 _ _ _ _ _ e hr)
  · cases e
theorem aw_if_ge {x : Int32} {off : Int} {tgt : Nat} (d : decode M.2.1 pc = .ok (.ifCond .ge off, 3)) (ht : (pc : Int) + off = (tgt : Int)) (k1 : 0 ≤ x → am_AW G M tgt ls st σ Q) (k2 : ¬ 0 ≤ x → am_AW G M (pc + 3) ls st σ Q) : am_AW G M pc ls (.int x :: st) σ Q := by
  intro p e s m args below meth c A hC hA H locs lr hP hD hS hl
  obtain ⟨hx, hb, hr, hml, hown, hts, hlk, hK, hN⟩ := id hC
  exact lv_if_ge hx hb d ht (fun q => (k1 q) p e s m args below meth c A hC hA H locs lr hP hD hS hl) (fun q => (k2 q) p e s m args below meth c A hC hA H locs lr hP hD hS hl)
theorem aw_icmp_ge {x y : Int32} {off : Int} {tgt : Nat} (d : decode M.2.1 pc = .ok (.if_icmp .ge off, 3)) (ht : (pc : Int) + off = (tgt : Int)) (k1 : y ≤ x → am_AW G M tgt ls st σ Q) (k2 : ¬ y ≤ x → am_AW G M (pc + 3) ls st σ Q) : am_AW G M pc ls (.int y :: .int x :: st) σ Q := by
  intro p e s m args below meth c A hC hA H locs lr hP hD hS hl
  obtain ⟨hx, hb, hr, hml, hown, hts, hlk, hK, hN⟩ := id hC
  exact lv_icmp_ge hx hb d ht (fun q => (k1 q) p e s m args below meth c A hC hA H locs lr hP hD hS hl) (fun q => (k2 q) p e s m args below meth c A hC hA H locs lr hP hD hS hl)
def ki_if_ge (k1 k2 : am_K ρ) : am_K ρ := fun ls st σ => match st with
  | .int x :: t => if 0 ≤ x then k1 ls t σ else k2 ls t σ
  | _ => none
def ki_icmp_ge (k1 k2 : am_K ρ) : am_K ρ := fun ls st σ => match st with
  | .int y :: .int x :: t => if y ≤ x then k1 ls t σ else k2 ls t σ
  | _ => none
theorem sn_if_ge {off : Int} {tgt : Nat} (d : decode M.2.1 pc = .ok (.ifCond .ge off, 3)) (ht : (pc : Int) + off = (tgt : Int)) (h1 : am_Snd G M tgt P k1) (h2 : am_Snd G M (pc + 3) P k2) : am_Snd G M pc P (ki_if_ge k1 k2) := by
  intro ls st σ r Q e hr
  unfold ki_if_ge at e
  split at e
  · split at e <;> rename_i hc
    · exact aw_if_ge d ht (fun _ => h1 _ _ _ _ _ e hr) (fun q => absurd hc q)
    · exact aw_if_ge d ht (fun q => absurd q hc) (fun _ => h2 _ _ _ _ _ e hr)
  · cases e
theorem sn_icmp_ge {off : Int} {tgt : Nat} (d : decode M.2.1 pc = .ok (.if_icmp .ge off, 3)) (ht : (pc : Int) + off = (tgt : Int)) (h1 : am_Snd G M tgt P k1) (h2 : am_Snd G M (pc + 3) P k2) : am_Snd G M pc P (ki_icmp_ge k1 k2) := by
  intro ls st σ r Q e hr
  unfold ki_icmp_ge at e
  split at e
  · split at e <;> rename_i hc
    · exact aw_icmp_ge d ht (fun _ => h1 _ _ _ _ _ e hr) (fun q => absurd hc q)
    · exact aw_icmp_ge d ht (fun q => absurd q hc) (fun _ => h2 _ _ _ _ _ e hr)
  · cases e
theorem aw_if_gt {x : Int32} {off : Int} {tgt : Nat} (d : decode M.2.1 pc = .ok (.ifCond .gt off, 3)) (ht : (pc : Int) + off = (tgt : Int)) (k1 : 0 < x → am_AW G M tgt ls st σ Q) (k2 : ¬ 0 < x → am_AW G M (pc + 3) ls st σ Q) : am_AW G M pc ls (.int x :: st) σ Q := by
  intro p e s m args below meth c A hC hA H locs lr hP hD hS hl
  obtain ⟨hx, hb, hr, hml, hown, hts, hlk, hK, hN⟩ := id hC
  exact lv_if_gt hx hb d ht (fun q => (k1 q) p e s m args below meth c A hC hA H locs lr hP hD hS hl) (fun q => (k2 q) p e s m args below meth c A hC hA H locs lr hP hD hS hl)
theorem aw_icmp_gt {x y : Int32} {off : Int} {tgt : Nat} (d : decode M.2.1 pc = .ok (.if_icmp .gt off, 3)) (ht : (pc : Int) + off = (tgt : Int)) (k1 : y < x → am_AW G M tgt ls st σ Q) (k2 : ¬ y < x → am_AW G M (pc + 3) ls st σ Q) : am_AW G M pc ls (.int y :: .int x :: st) σ Q := by
  intro p e s m args below meth c A hC hA H locs lr hP hD hS hl
  obtain ⟨hx, hb, hr, hml, hown, hts, hlk, hK, hN⟩ := id hC
  exact lv_icmp_gt hx hb d ht (fun q => (k1 q) p e s m args below meth c A hC hA H locs lr hP hD hS hl) (fun q => (k2 q) p e s m args below meth c A hC hA H locs lr hP hD hS hl)
def ki_if_gt (k1 k2 : am_K ρ) : am_K ρ := fun ls st σ => match st with
  | .int x :: t => if 0 < x then k1 ls t σ else k2 ls t σ
  | _ => none
def ki_icmp_gt (k1 k2 : am_K ρ) : am_K ρ := fun ls st σ => match st with
  | .int y :: .int x :: t => if y < x then k1 ls t σ else k2 ls t σ
  | _ => none
theorem sn_if_gt {off : Int} {tgt : Nat} (d : decode M.2.1 pc = .ok (.ifCond .gt off, 3)) (ht : (pc : Int) + off = (tgt : Int)) (h1 : am_Snd G M tgt P k1) (h2 : am_Snd G M (pc + 3) P k2) : am_Snd G M pc P (ki_if_gt k1 k2) := by
  intro ls st σ r Q e hr
  unfold ki_if_gt at e
  split at e
  · split at e <;> rename_i hc
    · exact aw_if_gt d ht (fun _ => h1 _ _ _ _ _ e hr) (fun q => absurd hc q)
    · exact aw_if_gt d ht (fun q => absurd q hc) (fun _ => h2 _ _ _ _ _ e hr)
  · cases e
theorem sn_icmp_gt {off : Int} {tgt : Nat} (d : decode M.2.1 pc = .ok (.if_icmp .gt off, 3)) (ht : (pc : Int) + off = (tgt : Int)) (h1 : am_Snd G M tgt P k1) (h2 : am_Snd G M (pc + 3) P k2) : am_Snd G M pc P (ki_icmp_gt k1 k2) := by
  intro ls st σ r Q e hr
  unfold ki_icmp_gt at e
  split at e
  · split at e <;> rename_i hc
    · exact aw_icmp_gt d ht (fun _ => h1 _ _ _ _ _ e hr) (fun q => absurd hc q)
    · exact aw_icmp_gt d ht (fun q => absurd q hc) (fun _ => h2 _ _ _ _ _ e hr)
  · cases e
theorem aw_if_le {x : Int32} {off : Int} {tgt : Nat} (d : decode M.2.1 pc = .ok (.ifCond .le off, 3)) (ht : (pc : Int) + off = (tgt : Int)) (k1 : x ≤ 0 → am_AW G M tgt ls st σ Q) (k2 : ¬ x ≤ 0 → am_AW G M (pc + 3) ls st σ Q) : am_AW G M pc ls (.int x :: st) σ Q := by
  intro p e s m args below meth c A hC hA H locs lr hP hD hS hl
  obtain ⟨hx, hb, hr, hml, hown, hts, hlk, hK, hN⟩ := id hC
  exact lv_if_le hx hb d ht (fun q => (k1 q) p e s m args below meth c A hC hA H locs lr hP hD hS hl) (fun q => (k2 q) p e s m args below meth c A hC hA H locs lr hP hD hS hl)
theorem aw_icmp_le {x y : Int32} {off : Int} {tgt : Nat} (d : decode M.2.1 pc = .ok (.if_icmp .le off, 3)) (ht : (pc : Int) + off = (tgt : Int)) (k1 : x ≤ y → am_AW G M tgt ls st σ Q) (k2 : ¬ x ≤ y → am_AW G M (pc + 3) ls st σ Q) : am_AW G M pc ls (.int y :: .int x :: st) σ Q := by
  intro p e s m args below meth c A hC hA H locs lr hP hD hS hl
  obtain ⟨hx, hb, hr, hml, hown, hts, hlk, hK, hN⟩ := id hC
  exact lv_icmp_le hx hb d ht (fun q => (k1 q) p e s m args below meth c A hC hA H locs lr hP hD hS hl) (fun q => (k2 q) p e s m args below meth c A hC hA H locs lr hP hD hS hl)
def ki_if_le (k1 k2 : am_K ρ) : am_K ρ := fun ls st σ => match st with
  | .int x :: t => if x ≤ 0 then k1 ls t σ else k2 ls t σ
  | _ => none
def ki_icmp_le (k1 k2 : am_K ρ) : am_K ρ := fun ls st σ => match st with
  | .int y :: .int x :: t => if x ≤ y then k1 ls t σ else k2 ls t σ
  | _ => none
theorem sn_if_le {off : Int} {tgt : Nat} (d : decode M.2.1 pc = .ok (.ifCond .le off, 3)) (ht : (pc : Int) + off = (tgt : Int)) (h1 : am_Snd G M tgt P k1) (h2 : am_Snd G M (pc + 3) P k2) : am_Snd G M pc P (ki_if_le k1 k2) := by
  intro ls st σ r Q e hr
  unfold ki_if_le at e
  split at e
  · split at e <;> rename_i hc
    · exact aw_if_le d ht (fun _ => h1 _ _ _ _ _ e hr) (fun q => absurd hc q)
    · exact aw_if_le d ht (fun q => absurd q hc) (fun _ => h2 _ _ _ _ _ e hr)
  · cases e
theorem sn_icmp_le {off : Int} {tgt : Nat} (d : decode M.2.1 pc = .ok (.if_icmp .le off, 3)) (ht : (pc : Int) + off = (tgt : Int)) (h1 : am_Snd G M tgt P k1) (h2 : am_Snd G M (pc + 3) P k2) : am_Snd G M pc P (ki_icmp_le k1 k2) := by
  intro ls st σ r Q e hr
  unfold ki_icmp_le at e
  split at e
  · split at e <;> rename_i hc
    · exact aw_icmp_le d ht (fun _ => h1 _ _ _ _ _ e hr) (fun q => absurd hc q)
    · exact aw_icmp_le d ht (fun q => absurd q hc) (fun _ => h2 _ _ _ _ _ e hr)
  · cases e
def ki_ifnn (k : am_K ρ) : am_K ρ := fun ls st σ => match st with
  | .ref _ :: t => k ls t σ
  | _ => none
theorem sn_ifnn {off : Int} {tgt : Nat} (d : decode M.2.1 pc = .ok (.ifnonnull off, 3)) (ht : (pc : Int) + off = (tgt : Int)) (h : am_Snd G M tgt P k) : am_Snd G M pc P (ki_ifnn k) := by
  intro ls st σ r Q e hr
  unfold ki_ifnn at e
  split at e
  · rename_i x t
    have kk := h _ _ _ _ _ e hr
    intro p e s m args below meth c A hC hA H locs lr hP hD hS hl
    obtain ⟨hx, hb, -⟩ := id hC
    exact lv_ifnonnull hx hb d ht (kk p e s m args below meth c A hC hA H locs lr hP hD hS hl)
  · cases e
def ki_dup2 (k : am_K ρ) : am_K ρ := fun ls st σ => match st with
  | .int x :: .ref q :: t => k ls (.int x :: .ref q :: .int x :: .ref q :: t) σ
  | _ => none
theorem aw_dup2 {v w : Value} (d : decode M.2.1 pc = .ok (.dup2, 1)) (hv : v.category = 1) (hw : w.category = 1) (kk : am_AW G M (pc + 1) ls (v :: w :: v :: w :: st) σ Q) : am_AW G M pc ls (v :: w :: st) σ Q := by
  intro p e s m args below meth c A hC hA H locs lr hP hD hS hl
  obtain ⟨hx, hb, hr, hml, hown, hts, hlk, hK, hN⟩ := id hC
  exact lv_dup2_11 hx hb d (by rw [am_cv_cat]; exact hv) (by rw [am_cv_cat]; exact hw) (kk p e s m args below meth c A hC hA H locs lr hP hD hS hl)
theorem sn_dup2 (d : decode M.2.1 pc = .ok (.dup2, 1)) (h : am_Snd G M (pc + 1) P k) : am_Snd G M pc P (ki_dup2 k) := by
  intro ls st σ r Q e hr
  unfold ki_dup2 at e
  split at e
  · exact aw_dup2 d rfl rfl (h _ _ _ _ _ e hr)
  · cases e
end AMR
