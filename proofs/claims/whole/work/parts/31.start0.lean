theorem tw_17 : am_in (.classLink RL 7 RX11) := am_in1 17 rfl rfl
theorem tw_18 : am_in (.instantiable RX11 9) := am_in1 18 rfl rfl
theorem tw_19 : am_in (.methodLink RL 9 yX11_init) := am_in1 19 rfl rfl
theorem tw_20 : am_in (.instanceMethod yX11_init) := am_in1 20 rfl rfl
theorem tw_21 : am_in (.code yX11_init cX11_init 1 none) := am_in1 21 rfl rfl
theorem tw_935 : am_in (.classLink RL 10 RX12) := am_in4 215 rfl rfl
theorem tw_936 : am_in (.instantiable RX12 48) := am_in4 216 rfl rfl
theorem tw_937 : am_in (.methodLink RL 12 yX12_init) := am_in4 217 rfl rfl
theorem tw_938 : am_in (.instanceMethod yX12_init) := am_in4 218 rfl rfl
theorem tw_939 : am_in (.code yX12_init cX12_init 1 none) := am_in4 219 rfl rfl
theorem am_nest_in : ∀ w ∈ am_nest, Cond.methodLinkNest w.1 w.2.1 w.2.2.1 w.2.2.2 ∈ lw_tbl := by
  intro w hw
  simp only [am_nest, List.mem_cons, List.not_mem_nil, or_false] at hw
  rcases hw with rfl | rfl | rfl | rfl | rfl | rfl | rfl | rfl | rfl | rfl | rfl | rfl | rfl
  · exact List.mem_append_right _ (List.mem_append_left _ (List.mem_of_getElem? (l := tables_1_1) (i := 34) rfl))
  · exact List.mem_append_right _ (List.mem_append_left _ (List.mem_of_getElem? (l := tables_1_1) (i := 42) rfl))
  · exact List.mem_append_right _ (List.mem_append_left _ (List.mem_of_getElem? (l := tables_1_1) (i := 45) rfl))
  · exact List.mem_append_right _ (List.mem_append_left _ (List.mem_of_getElem? (l := tables_1_1) (i := 49) rfl))
  · exact List.mem_append_right _ (List.mem_append_left _ (List.mem_of_getElem? (l := tables_1_1) (i := 52) rfl))
  · exact List.mem_append_right _ (List.mem_append_left _ (List.mem_of_getElem? (l := tables_1_1) (i := 56) rfl))
  · exact List.mem_append_right _ (List.mem_append_left _ (List.mem_of_getElem? (l := tables_1_1) (i := 59) rfl))
  · exact List.mem_append_right _ (List.mem_append_left _ (List.mem_of_getElem? (l := tables_1_1) (i := 63) rfl))
  · exact List.mem_append_right _ (List.mem_append_left _ (List.mem_of_getElem? (l := tables_1_1) (i := 66) rfl))
  · exact List.mem_append_right _ (List.mem_append_left _ (List.mem_of_getElem? (l := tables_1_1) (i := 70) rfl))
  · exact List.mem_append_right _ (List.mem_append_left _ (List.mem_of_getElem? (l := tables_1_1) (i := 73) rfl))
  · exact List.mem_append_right _ (List.mem_append_right _ (List.mem_append_left _ (List.mem_of_getElem? (l := tables_1_2) (i := 171) rfl)))
  · exact List.mem_append_right _ (List.mem_append_right _ (List.mem_append_right _ (List.mem_append_right _ (List.mem_append_left _ (List.mem_of_getElem? (l := tables_1_4) (i := 189) rfl)))))
theorem am_cast_in : ∀ c ∈ [RX9, RX5, RX1, RX0, RX8], Cond.castable c "ItWasLikeThat$Child" ∈ lw_tbl := by
  intro c hc
  simp only [List.mem_cons, List.not_mem_nil, or_false] at hc
  rcases hc with rfl | rfl | rfl | rfl | rfl
  · exact List.mem_append_right _ (List.mem_append_right _ (List.mem_append_right _ (List.mem_append_right _ (List.mem_append_right _ (List.mem_append_right _ (List.mem_append_right _ (List.mem_of_getElem? (l := tables_1_7) (i := 27) rfl)))))))
  · exact List.mem_append_right _ (List.mem_append_right _ (List.mem_append_right _ (List.mem_append_right _ (List.mem_append_right _ (List.mem_append_right _ (List.mem_append_right _ (List.mem_of_getElem? (l := tables_1_7) (i := 28) rfl)))))))
  · exact List.mem_append_right _ (List.mem_append_right _ (List.mem_append_right _ (List.mem_append_right _ (List.mem_append_right _ (List.mem_append_right _ (List.mem_append_right _ (List.mem_of_getElem? (l := tables_1_7) (i := 29) rfl)))))))
  · exact List.mem_append_right _ (List.mem_append_right _ (List.mem_append_right _ (List.mem_append_right _ (List.mem_append_right _ (List.mem_append_right _ (List.mem_append_right _ (List.mem_of_getElem? (l := tables_1_7) (i := 30) rfl)))))))
  · exact List.mem_append_right _ (List.mem_append_right _ (List.mem_append_right _ (List.mem_append_right _ (List.mem_append_right _ (List.mem_append_right _ (List.mem_append_right _ (List.mem_of_getElem? (l := tables_1_7) (i := 31) rfl)))))))
/-- what the cells hold behind the two constructors -/
def am_I0 : Nat → Nat → Int32 := fun i => match i with
  | 1 => upd (upd (fun _ => 0) 0 3) 1 4
  | 8 => upd (upd (upd (fun _ => 0) 0 2) 1 1) 2 1
  | 18 => upd (upd (fun _ => 0) 0 3) 1 4
  | 25 => upd (upd (upd (fun _ => 0) 0 2) 1 1) 2 1
  | 37 => upd (upd (fun _ => 0) 0 3) 1 4
  | 44 => upd (upd (upd (fun _ => 0) 0 2) 1 1) 2 1
  | 66 => upd (upd (fun _ => 0) 0 3) 1 4
  | 77 => upd (upd (upd (fun _ => 0) 0 2) 1 1) 2 1
  | _ => fun _ => 0
def am_s0 : am_St := (am_I0, fun _ _ => 0, none)
def am_ad0 (l : List Nat) (i : Nat) : Nat := l.getD i 0
theorem am_at_row {D : va_G} {cl : List vw_C} {a n : Nat} {cA : ClassId} {f g : Nat → Option Nat} {H : Heap} (h : ∀ j, j < n → f j = g j) (hp : va_at D cl (a, .inl (cA, n, .inr (.inr (.inr (.inr f))))) H) : va_at D cl (a, .inl (cA, n, .inr (.inr (.inr (.inr g))))) H := by
  have e : arrV cA n (fun j => va_rf (f j)) = arrV cA n (fun j => va_rf (g j)) := by
    unfold arrV
    congr 1
    apply Array.ext
    · simp
    · intro i h1 h2
      simp only [Array.getElem_ofFn]
      rw [h i (by simpa using h1)]
  have h2 : H[a]? = some (arrV cA n (fun j => va_rf (f j))) := hp
  rw [e] at h2
  exact h2
def am_w0 (ta : Nat → ClassId) (l : List Nat) : va_W := am_ws ta (am_ad0 l) am_s0
set_option maxRecDepth 100000 in
set_option maxHeartbeats 4000000 in
theorem am_w0_P {D : va_G} {ta : Nat → ClassId} {H : Heap} {x0 x1 x2 x3 x4 x5 x6 x7 x8 x9 x10 x11 x12 x13 x14 x15 x16 x17 x18 x19 x20 x21 x22 x23 x24 x25 x26 x27 x28 x29 x30 x31 x32 x33 x34 x35 x36 x37 x38 x39 x40 x41 x42 x43 x44 x45 x46 x47 x48 x49 x50 x51 x52 x53 x54 x55 x56 x57 x58 x59 x60 x61 x62 x63 x64 x65 x66 x67 x68 x69 x70 x71 x72 x73 x74 x75 x76 x77 x78 x79 x80 x81 x82 x83 x84 x85 x86 x87 x88 x89 x90 x91 x92 x93 x94 : Nat} (hP : va_P D am_cl [(x0, .inr (10, [.ref x1, .ref x18, .int 0, .ref x35, .ref x54, .ref x60, .ref x64, .int 0, .ref x65])), (x1, .inr (3, [.int 3, .int 4, .int 0, .int 0, .int 0, .int 0, .int 0, .ref x2, .ref x3, .ref x4, .ref x5, .ref x6, .ref x7, .ref x8, .ref x9, .ref x10, .ref x11])), (x2, .inl (ta 0, 4, .inl (fun _ => 0))), (x3, .inl (ta 0, 4, .inl (fun _ => 0))), (x4, .inl (ta 0, 4, .inl (fun _ => 0))), (x5, .inl (ta 0, 4, .inl (fun _ => 0))), (x6, .inl (ta 0, 4, .inl (fun _ => 0))), (x7, .inl (ta 0, 24, .inl (fun _ => 0))), (x8, .inl (ta 0, 3, .inl (upd (upd (upd (fun _ => 0) 0 2) 1 1) 2 1))), (x9, .inl (ta 0, 16, .inl (fun _ => 0))), (x10, .inl (ta 0, 8, .inl (fun _ => 0))), (x11, .inl (ta 3, 6, .inr (.inr (.inr (.inr (va_up (va_up (va_up (va_up (va_up (va_up (fun _ => none) 0 (some x12)) 1 (some x13)) 2 (some x14)) 3 (some x15)) 4 (some x16)) 5 (some x17))))))), (x12, .inr (2, [])), (x13, .inr (8, [])), (x14, .inr (5, [])), (x15, .inr (1, [])), (x16, .inr (0, [])), (x17, .inr (7, [])), (x18, .inr (3, [.int 3, .int 4, .int 0, .int 0, .int 0, .int 0, .int 0, .ref x19, .ref x20, .ref x21, .ref x22, .ref x23, .ref x24, .ref x25, .ref x26, .ref x27, .ref x28])), (x19, .inl (ta 0, 4, .inl (fun _ => 0))), (x20, .inl (ta 0, 4, .inl (fun _ => 0))), (x21, .inl (ta 0, 4, .inl (fun _ => 0))), (x22, .inl (ta 0, 4, .inl (fun _ => 0))), (x23, .inl (ta 0, 4, .inl (fun _ => 0))), (x24, .inl (ta 0, 24, .inl (fun _ => 0))), (x25, .inl (ta 0, 3, .inl (upd (upd (upd (fun _ => 0) 0 2) 1 1) 2 1))), (x26, .inl (ta 0, 16, .inl (fun _ => 0))), (x27, .inl (ta 0, 8, .inl (fun _ => 0))), (x28, .inl (ta 3, 6, .inr (.inr (.inr (.inr (va_up (va_up (va_up (va_up (va_up (va_up (fun _ => none) 0 (some x29)) 1 (some x30)) 2 (some x31)) 3 (some x32)) 4 (some x33)) 5 (some x34))))))), (x29, .inr (2, [])), (x30, .inr (8, [])), (x31, .inr (5, [])), (x32, .inr (1, [])), (x33, .inr (0, [])), (x34, .inr (7, [])), (x35, .inr (4, [.ref x36, .int 0, .ref x37])), (x36, .inl (ta 0, 96, .inl (fun _ => 0))), (x37, .inr (3, [.int 3, .int 4, .int 0, .int 0, .int 0, .int 0, .int 0, .ref x38, .ref x39, .ref x40, .ref x41, .ref x42, .ref x43, .ref x44, .ref x45, .ref x46, .ref x47])), (x38, .inl (ta 0, 4, .inl (fun _ => 0))), (x39, .inl (ta 0, 4, .inl (fun _ => 0))), (x40, .inl (ta 0, 4, .inl (fun _ => 0))), (x41, .inl (ta 0, 4, .inl (fun _ => 0))), (x42, .inl (ta 0, 4, .inl (fun _ => 0))), (x43, .inl (ta 0, 24, .inl (fun _ => 0))), (x44, .inl (ta 0, 3, .inl (upd (upd (upd (fun _ => 0) 0 2) 1 1) 2 1))), (x45, .inl (ta 0, 16, .inl (fun _ => 0))), (x46, .inl (ta 0, 8, .inl (fun _ => 0))), (x47, .inl (ta 3, 6, .inr (.inr (.inr (.inr (va_up (va_up (va_up (va_up (va_up (va_up (fun _ => none) 0 (some x48)) 1 (some x49)) 2 (some x50)) 3 (some x51)) 4 (some x52)) 5 (some x53))))))), (x48, .inr (2, [])), (x49, .inr (8, [])), (x50, .inr (5, [])), (x51, .inr (1, [])), (x52, .inr (0, [])), (x53, .inr (7, [])), (x54, .inr (9, [.ref x55, .ref x56, .ref x57, .ref x58, .ref x59, .int 0, .int 0])), (x55, .inl (ta 0, 6, .inl (fun _ => 0))), (x56, .inl (ta 0, 4, .inl (fun _ => 0))), (x57, .inl (ta 0, 24, .inl (fun _ => 0))), (x58, .inl (ta 0, 24, .inl (fun _ => 0))), (x59, .inl (ta 1, 256, .inl (fun _ => 0))), (x60, .inr (6, [.ref x61, .ref x62, .ref x63, .long 0])), (x61, .inl (ta 2, 7, .inr (.inl (fun _ => 0)))), (x62, .inl (ta 0, 4, .inl (fun _ => 0))), (x63, .inl (ta 0, 4, .inl (fun _ => 0))), (x64, .inl (ta 0, 12, .inl (fun _ => 0))), (x65, .inl (ta 0, 7, .inl (fun _ => 0))), (x66, .inr (11, [.int 3, .int 4, .int 0, .int 0, .int 0, .int 0, .int 0, .ref x67, .ref x68, .ref x69, .ref x70, .ref x71, .ref x72, .ref x73, .ref x74, .ref x75, .ref x76, .ref x77, .ref x78, .ref x79, .ref x80, .ref x81, .int 0, .ref x82, .ref x83, .ref x84, .ref x85, .ref x86, .int 0, .int 0, .int 0, .int 0, .int 0, .ref x87, .ref x88, .ref x89, .ref x90, .ref x91, .int 0, .int 0, .int 0, .null, .ref x92, .long 0, .ref x93, .ref x94, .int 0, .int 0])), (x67, .inl (ta 0, 4, .inl (fun _ => 0))), (x68, .inl (ta 0, 4, .inl (fun _ => 0))), (x69, .inl (ta 0, 4, .inl (fun _ => 0))), (x70, .inl (ta 0, 4, .inl (fun _ => 0))), (x71, .inl (ta 0, 4, .inl (fun _ => 0))), (x72, .inl (ta 0, 24, .inl (fun _ => 0))), (x73, .inl (ta 0, 17, .inl (fun _ => 0))), (x74, .inl (ta 0, 17, .inl (fun _ => 0))), (x75, .inl (ta 0, 17, .inl (fun _ => 0))), (x76, .inl (ta 0, 17, .inl (fun _ => 0))), (x77, .inl (ta 0, 3, .inl (upd (upd (upd (fun _ => 0) 0 2) 1 1) 2 1))), (x78, .inl (ta 0, 8, .inl (fun _ => 0))), (x79, .inl (ta 0, 8, .inl (fun _ => 0))), (x80, .inl (ta 0, 8, .inl (fun _ => 0))), (x81, .inl (ta 0, 8, .inl (fun _ => 0))), (x82, .inl (ta 0, 7, .inl (fun _ => 0))), (x83, .inl (ta 0, 6, .inl (fun _ => 0))), (x84, .inl (ta 0, 4, .inl (fun _ => 0))), (x85, .inl (ta 0, 4, .inl (fun _ => 0))), (x86, .inl (ta 0, 96, .inl (fun _ => 0))), (x87, .inl (ta 0, 33, .inl (fun _ => 0))), (x88, .inl (ta 0, 33, .inl (fun _ => 0))), (x89, .inl (ta 0, 231, .inl (fun _ => 0))), (x90, .inl (ta 0, 154, .inl (fun _ => 0))), (x91, .inl (ta 0, 154, .inl (fun _ => 0))), (x92, .inl (ta 2, 7, .inr (.inl (fun _ => 0)))), (x93, .inl (ta 0, 4, .inl (fun _ => 0))), (x94, .inl (ta 0, 12, .inl (fun _ => 0)))] H) : va_P D am_cl (am_w0 ta [x0, x1, x2, x3, x4, x5, x6, x7, x8, x9, x10, x11, x12, x13, x14, x15, x16, x17, x18, x19, x20, x21, x22, x23, x24, x25, x26, x27, x28, x29, x30, x31, x32, x33, x34, x35, x36, x37, x38, x39, x40, x41, x42, x43, x44, x45, x46, x47, x48, x49, x50, x51, x52, x53, x54, x55, x56, x57, x58, x59, x60, x61, x62, x63, x64, x65, x66, x67, x68, x69, x70, x71, x72, x73, x74, x75, x76, x77, x78, x79, x80, x81, x82, x83, x84, x85, x86, x87, x88, x89, x90, x91, x92, x93, x94]) H := by
  intro k q hq
  have hk : k < 95 := by
    have h1 := (List.getElem?_eq_some_iff.mp hq).1
    simpa [am_w0, am_ws, am_shapes_len] using h1
  have hq2 : q = (am_ad0 [x0, x1, x2, x3, x4, x5, x6, x7, x8, x9, x10, x11, x12, x13, x14, x15, x16, x17, x18, x19, x20, x21, x22, x23, x24, x25, x26, x27, x28, x29, x30, x31, x32, x33, x34, x35, x36, x37, x38, x39, x40, x41, x42, x43, x44, x45, x46, x47, x48, x49, x50, x51, x52, x53, x54, x55, x56, x57, x58, x59, x60, x61, x62, x63, x64, x65, x66, x67, x68, x69, x70, x71, x72, x73, x74, x75, x76, x77, x78, x79, x80, x81, x82, x83, x84, x85, x86, x87, x88, x89, x90, x91, x92, x93, x94] k, am_ce ta (am_ad0 [x0, x1, x2, x3, x4, x5, x6, x7, x8, x9, x10, x11, x12, x13, x14, x15, x16, x17, x18, x19, x20, x21, x22, x23, x24, x25, x26, x27, x28, x29, x30, x31, x32, x33, x34, x35, x36, x37, x38, x39, x40, x41, x42, x43, x44, x45, x46, x47, x48, x49, x50, x51, x52, x53, x54, x55, x56, x57, x58, x59, x60, x61, x62, x63, x64, x65, x66, x67, x68, x69, x70, x71, x72, x73, x74, x75, x76, x77, x78, x79, x80, x81, x82, x83, x84, x85, x86, x87, x88, x89, x90, x91, x92, x93, x94]) am_s0 k) := by
    have h1 := am_ws_get (ta := ta) (ad := am_ad0 [x0, x1, x2, x3, x4, x5, x6, x7, x8, x9, x10, x11, x12, x13, x14, x15, x16, x17, x18, x19, x20, x21, x22, x23, x24, x25, x26, x27, x28, x29, x30, x31, x32, x33, x34, x35, x36, x37, x38, x39, x40, x41, x42, x43, x44, x45, x46, x47, x48, x49, x50, x51, x52, x53, x54, x55, x56, x57, x58, x59, x60, x61, x62, x63, x64, x65, x66, x67, x68, x69, x70, x71, x72, x73, x74, x75, x76, x77, x78, x79, x80, x81, x82, x83, x84, x85, x86, x87, x88, x89, x90, x91, x92, x93, x94]) (σ := am_s0) (i := k) (by rw [show am_NC = 95 from am_shapes_len]; exact hk)
    exact (Option.some.inj (h1.symm.trans hq)).symm
  subst hq2
  clear hq
  match k, hk with
  | 0, _ =>
    have e : am_fs (am_ad0 [x0, x1, x2, x3, x4, x5, x6, x7, x8, x9, x10, x11, x12, x13, x14, x15, x16, x17, x18, x19, x20, x21, x22, x23, x24, x25, x26, x27, x28, x29, x30, x31, x32, x33, x34, x35, x36, x37, x38, x39, x40, x41, x42, x43, x44, x45, x46, x47, x48, x49, x50, x51, x52, x53, x54, x55, x56, x57, x58, x59, x60, x61, x62, x63, x64, x65, x66, x67, x68, x69, x70, x71, x72, x73, x74, x75, x76, x77, x78, x79, x80, x81, x82, x83, x84, x85, x86, x87, x88, x89, x90, x91, x92, x93, x94]) am_s0 0 [4, 21, 0, 38, 57, 63, 67, 0, 68] = [.ref x1, .ref x18, .int 0, .ref x35, .ref x54, .ref x60, .ref x64, .int 0, .ref x65] := by
      apply List.ext_getElem?
      intro k
      by_cases hk : k < 9
      · match k, hk with
          | 0, _ => exact (am_fs_get rfl).trans rfl
          | 1, _ => exact (am_fs_get rfl).trans rfl
          | 2, _ => exact (am_fs_get rfl).trans rfl
          | 3, _ => exact (am_fs_get rfl).trans rfl
          | 4, _ => exact (am_fs_get rfl).trans rfl
          | 5, _ => exact (am_fs_get rfl).trans rfl
          | 6, _ => exact (am_fs_get rfl).trans rfl
          | 7, _ => exact (am_fs_get rfl).trans rfl
          | 8, _ => exact (am_fs_get rfl).trans rfl
          | z + 9, h => exact absurd h (by omega)
      · rw [List.getElem?_eq_none (by rw [am_fs_len]; simpa using hk), List.getElem?_eq_none (by simpa using hk)]
    show va_at D am_cl (x0, .inr (10, am_fs (am_ad0 [x0, x1, x2, x3, x4, x5, x6, x7, x8, x9, x10, x11, x12, x13, x14, x15, x16, x17, x18, x19, x20, x21, x22, x23, x24, x25, x26, x27, x28, x29, x30, x31, x32, x33, x34, x35, x36, x37, x38, x39, x40, x41, x42, x43, x44, x45, x46, x47, x48, x49, x50, x51, x52, x53, x54, x55, x56, x57, x58, x59, x60, x61, x62, x63, x64, x65, x66, x67, x68, x69, x70, x71, x72, x73, x74, x75, x76, x77, x78, x79, x80, x81, x82, x83, x84, x85, x86, x87, x88, x89, x90, x91, x92, x93, x94]) am_s0 0 [4, 21, 0, 38, 57, 63, 67, 0, 68])) H
    rw [e]
    exact hP 0 _ rfl
  | 1, _ =>
    have e : am_fs (am_ad0 [x0, x1, x2, x3, x4, x5, x6, x7, x8, x9, x10, x11, x12, x13, x14, x15, x16, x17, x18, x19, x20, x21, x22, x23, x24, x25, x26, x27, x28, x29, x30, x31, x32, x33, x34, x35, x36, x37, x38, x39, x40, x41, x42, x43, x44, x45, x46, x47, x48, x49, x50, x51, x52, x53, x54, x55, x56, x57, x58, x59, x60, x61, x62, x63, x64, x65, x66, x67, x68, x69, x70, x71, x72, x73, x74, x75, x76, x77, x78, x79, x80, x81, x82, x83, x84, x85, x86, x87, x88, x89, x90, x91, x92, x93, x94]) am_s0 1 [0, 0, 0, 0, 0, 0, 0, 5, 6, 7, 8, 9, 10, 11, 12, 13, 14] = [.int 3, .int 4, .int 0, .int 0, .int 0, .int 0, .int 0, .ref x2, .ref x3, .ref x4, .ref x5, .ref x6, .ref x7, .ref x8, .ref x9, .ref x10, .ref x11] := by
      apply List.ext_getElem?
      intro k
      by_cases hk : k < 17
      · match k, hk with
          | 0, _ => exact (am_fs_get rfl).trans rfl
          | 1, _ => exact (am_fs_get rfl).trans rfl
          | 2, _ => exact (am_fs_get rfl).trans rfl
          | 3, _ => exact (am_fs_get rfl).trans rfl
          | 4, _ => exact (am_fs_get rfl).trans rfl
          | 5, _ => exact (am_fs_get rfl).trans rfl
          | 6, _ => exact (am_fs_get rfl).trans rfl
          | 7, _ => exact (am_fs_get rfl).trans rfl
          | 8, _ => exact (am_fs_get rfl).trans rfl
          | 9, _ => exact (am_fs_get rfl).trans rfl
          | 10, _ => exact (am_fs_get rfl).trans rfl
          | 11, _ => exact (am_fs_get rfl).trans rfl
          | 12, _ => exact (am_fs_get rfl).trans rfl
          | 13, _ => exact (am_fs_get rfl).trans rfl
          | 14, _ => exact (am_fs_get rfl).trans rfl
          | 15, _ => exact (am_fs_get rfl).trans rfl
          | 16, _ => exact (am_fs_get rfl).trans rfl
          | z + 17, h => exact absurd h (by omega)
      · rw [List.getElem?_eq_none (by rw [am_fs_len]; simpa using hk), List.getElem?_eq_none (by simpa using hk)]
    show va_at D am_cl (x1, .inr (3, am_fs (am_ad0 [x0, x1, x2, x3, x4, x5, x6, x7, x8, x9, x10, x11, x12, x13, x14, x15, x16, x17, x18, x19, x20, x21, x22, x23, x24, x25, x26, x27, x28, x29, x30, x31, x32, x33, x34, x35, x36, x37, x38, x39, x40, x41, x42, x43, x44, x45, x46, x47, x48, x49, x50, x51, x52, x53, x54, x55, x56, x57, x58, x59, x60, x61, x62, x63, x64, x65, x66, x67, x68, x69, x70, x71, x72, x73, x74, x75, x76, x77, x78, x79, x80, x81, x82, x83, x84, x85, x86, x87, x88, x89, x90, x91, x92, x93, x94]) am_s0 1 [0, 0, 0, 0, 0, 0, 0, 5, 6, 7, 8, 9, 10, 11, 12, 13, 14])) H
    rw [e]
    exact hP 1 _ rfl
  | 2, _ => exact hP 2 _ rfl
  | 3, _ => exact hP 3 _ rfl
  | 4, _ => exact hP 4 _ rfl
  | 5, _ => exact hP 5 _ rfl
  | 6, _ => exact hP 6 _ rfl
  | 7, _ => exact hP 7 _ rfl
  | 8, _ => exact hP 8 _ rfl
  | 9, _ => exact hP 9 _ rfl
  | 10, _ => exact hP 10 _ rfl
  | 11, _ => exact am_at_row (fun j hj => by match j, hj with | 0, _ => rfl | 1, _ => rfl | 2, _ => rfl | 3, _ => rfl | 4, _ => rfl | 5, _ => rfl | z + 6, hj => exact absurd hj (by omega)) (hP 11 _ rfl)
  | 12, _ => exact hP 12 _ rfl
  | 13, _ => exact hP 13 _ rfl
  | 14, _ => exact hP 14 _ rfl
  | 15, _ => exact hP 15 _ rfl
  | 16, _ => exact hP 16 _ rfl
  | 17, _ => exact hP 17 _ rfl
  | 18, _ =>
    have e : am_fs (am_ad0 [x0, x1, x2, x3, x4, x5, x6, x7, x8, x9, x10, x11, x12, x13, x14, x15, x16, x17, x18, x19, x20, x21, x22, x23, x24, x25, x26, x27, x28, x29, x30, x31, x32, x33, x34, x35, x36, x37, x38, x39, x40, x41, x42, x43, x44, x45, x46, x47, x48, x49, x50, x51, x52, x53, x54, x55, x56, x57, x58, x59, x60, x61, x62, x63, x64, x65, x66, x67, x68, x69, x70, x71, x72, x73, x74, x75, x76, x77, x78, x79, x80, x81, x82, x83, x84, x85, x86, x87, x88, x89, x90, x91, x92, x93, x94]) am_s0 18 [0, 0, 0, 0, 0, 0, 0, 22, 23, 24, 25, 26, 27, 28, 29, 30, 31] = [.int 3, .int 4, .int 0, .int 0, .int 0, .int 0, .int 0, .ref x19, .ref x20, .ref x21, .ref x22, .ref x23, .ref x24, .ref x25, .ref x26, .ref x27, .ref x28] := by
      apply List.ext_getElem?
      intro k
      by_cases hk : k < 17
      · match k, hk with
          | 0, _ => exact (am_fs_get rfl).trans rfl
          | 1, _ => exact (am_fs_get rfl).trans rfl
          | 2, _ => exact (am_fs_get rfl).trans rfl
          | 3, _ => exact (am_fs_get rfl).trans rfl
          | 4, _ => exact (am_fs_get rfl).trans rfl
          | 5, _ => exact (am_fs_get rfl).trans rfl
          | 6, _ => exact (am_fs_get rfl).trans rfl
          | 7, _ => exact (am_fs_get rfl).trans rfl
          | 8, _ => exact (am_fs_get rfl).trans rfl
          | 9, _ => exact (am_fs_get rfl).trans rfl
          | 10, _ => exact (am_fs_get rfl).trans rfl
          | 11, _ => exact (am_fs_get rfl).trans rfl
          | 12, _ => exact (am_fs_get rfl).trans rfl
          | 13, _ => exact (am_fs_get rfl).trans rfl
          | 14, _ => exact (am_fs_get rfl).trans rfl
          | 15, _ => exact (am_fs_get rfl).trans rfl
          | 16, _ => exact (am_fs_get rfl).trans rfl
          | z + 17, h => exact absurd h (by omega)
      · rw [List.getElem?_eq_none (by rw [am_fs_len]; simpa using hk), List.getElem?_eq_none (by simpa using hk)]
    show va_at D am_cl (x18, .inr (3, am_fs (am_ad0 [x0, x1, x2, x3, x4, x5, x6, x7, x8, x9, x10, x11, x12, x13, x14, x15, x16, x17, x18, x19, x20, x21, x22, x23, x24, x25, x26, x27, x28, x29, x30, x31, x32, x33, x34, x35, x36, x37, x38, x39, x40, x41, x42, x43, x44, x45, x46, x47, x48, x49, x50, x51, x52, x53, x54, x55, x56, x57, x58, x59, x60, x61, x62, x63, x64, x65, x66, x67, x68, x69, x70, x71, x72, x73, x74, x75, x76, x77, x78, x79, x80, x81, x82, x83, x84, x85, x86, x87, x88, x89, x90, x91, x92, x93, x94]) am_s0 18 [0, 0, 0, 0, 0, 0, 0, 22, 23, 24, 25, 26, 27, 28, 29, 30, 31])) H
    rw [e]
    exact hP 18 _ rfl
  | 19, _ => exact hP 19 _ rfl
  | 20, _ => exact hP 20 _ rfl
  | 21, _ => exact hP 21 _ rfl
  | 22, _ => exact hP 22 _ rfl
  | 23, _ => exact hP 23 _ rfl
  | 24, _ => exact hP 24 _ rfl
  | 25, _ => exact hP 25 _ rfl
  | 26, _ => exact hP 26 _ rfl
  | 27, _ => exact hP 27 _ rfl
  | 28, _ => exact am_at_row (fun j hj => by match j, hj with | 0, _ => rfl | 1, _ => rfl | 2, _ => rfl | 3, _ => rfl | 4, _ => rfl | 5, _ => rfl | z + 6, hj => exact absurd hj (by omega)) (hP 28 _ rfl)
  | 29, _ => exact hP 29 _ rfl
  | 30, _ => exact hP 30 _ rfl
  | 31, _ => exact hP 31 _ rfl
  | 32, _ => exact hP 32 _ rfl
  | 33, _ => exact hP 33 _ rfl
  | 34, _ => exact hP 34 _ rfl
  | 35, _ => exact hP 35 _ rfl
  | 36, _ => exact hP 36 _ rfl
  | 37, _ =>
    have e : am_fs (am_ad0 [x0, x1, x2, x3, x4, x5, x6, x7, x8, x9, x10, x11, x12, x13, x14, x15, x16, x17, x18, x19, x20, x21, x22, x23, x24, x25, x26, x27, x28, x29, x30, x31, x32, x33, x34, x35, x36, x37, x38, x39, x40, x41, x42, x43, x44, x45, x46, x47, x48, x49, x50, x51, x52, x53, x54, x55, x56, x57, x58, x59, x60, x61, x62, x63, x64, x65, x66, x67, x68, x69, x70, x71, x72, x73, x74, x75, x76, x77, x78, x79, x80, x81, x82, x83, x84, x85, x86, x87, x88, x89, x90, x91, x92, x93, x94]) am_s0 37 [0, 0, 0, 0, 0, 0, 0, 41, 42, 43, 44, 45, 46, 47, 48, 49, 50] = [.int 3, .int 4, .int 0, .int 0, .int 0, .int 0, .int 0, .ref x38, .ref x39, .ref x40, .ref x41, .ref x42, .ref x43, .ref x44, .ref x45, .ref x46, .ref x47] := by
      apply List.ext_getElem?
      intro k
      by_cases hk : k < 17
      · match k, hk with
          | 0, _ => exact (am_fs_get rfl).trans rfl
          | 1, _ => exact (am_fs_get rfl).trans rfl
          | 2, _ => exact (am_fs_get rfl).trans rfl
          | 3, _ => exact (am_fs_get rfl).trans rfl
          | 4, _ => exact (am_fs_get rfl).trans rfl
          | 5, _ => exact (am_fs_get rfl).trans rfl
          | 6, _ => exact (am_fs_get rfl).trans rfl
          | 7, _ => exact (am_fs_get rfl).trans rfl
          | 8, _ => exact (am_fs_get rfl).trans rfl
          | 9, _ => exact (am_fs_get rfl).trans rfl
          | 10, _ => exact (am_fs_get rfl).trans rfl
          | 11, _ => exact (am_fs_get rfl).trans rfl
          | 12, _ => exact (am_fs_get rfl).trans rfl
          | 13, _ => exact (am_fs_get rfl).trans rfl
          | 14, _ => exact (am_fs_get rfl).trans rfl
          | 15, _ => exact (am_fs_get rfl).trans rfl
          | 16, _ => exact (am_fs_get rfl).trans rfl
          | z + 17, h => exact absurd h (by omega)
      · rw [List.getElem?_eq_none (by rw [am_fs_len]; simpa using hk), List.getElem?_eq_none (by simpa using hk)]
    show va_at D am_cl (x37, .inr (3, am_fs (am_ad0 [x0, x1, x2, x3, x4, x5, x6, x7, x8, x9, x10, x11, x12, x13, x14, x15, x16, x17, x18, x19, x20, x21, x22, x23, x24, x25, x26, x27, x28, x29, x30, x31, x32, x33, x34, x35, x36, x37, x38, x39, x40, x41, x42, x43, x44, x45, x46, x47, x48, x49, x50, x51, x52, x53, x54, x55, x56, x57, x58, x59, x60, x61, x62, x63, x64, x65, x66, x67, x68, x69, x70, x71, x72, x73, x74, x75, x76, x77, x78, x79, x80, x81, x82, x83, x84, x85, x86, x87, x88, x89, x90, x91, x92, x93, x94]) am_s0 37 [0, 0, 0, 0, 0, 0, 0, 41, 42, 43, 44, 45, 46, 47, 48, 49, 50])) H
    rw [e]
    exact hP 37 _ rfl
  | 38, _ => exact hP 38 _ rfl
  | 39, _ => exact hP 39 _ rfl
  | 40, _ => exact hP 40 _ rfl
  | 41, _ => exact hP 41 _ rfl
  | 42, _ => exact hP 42 _ rfl
  | 43, _ => exact hP 43 _ rfl
  | 44, _ => exact hP 44 _ rfl
  | 45, _ => exact hP 45 _ rfl
  | 46, _ => exact hP 46 _ rfl
  | 47, _ => exact am_at_row (fun j hj => by match j, hj with | 0, _ => rfl | 1, _ => rfl | 2, _ => rfl | 3, _ => rfl | 4, _ => rfl | 5, _ => rfl | z + 6, hj => exact absurd hj (by omega)) (hP 47 _ rfl)
  | 48, _ => exact hP 48 _ rfl
  | 49, _ => exact hP 49 _ rfl
  | 50, _ => exact hP 50 _ rfl
  | 51, _ => exact hP 51 _ rfl
  | 52, _ => exact hP 52 _ rfl
  | 53, _ => exact hP 53 _ rfl
  | 54, _ =>
    have e : am_fs (am_ad0 [x0, x1, x2, x3, x4, x5, x6, x7, x8, x9, x10, x11, x12, x13, x14, x15, x16, x17, x18, x19, x20, x21, x22, x23, x24, x25, x26, x27, x28, x29, x30, x31, x32, x33, x34, x35, x36, x37, x38, x39, x40, x41, x42, x43, x44, x45, x46, x47, x48, x49, x50, x51, x52, x53, x54, x55, x56, x57, x58, x59, x60, x61, x62, x63, x64, x65, x66, x67, x68, x69, x70, x71, x72, x73, x74, x75, x76, x77, x78, x79, x80, x81, x82, x83, x84, x85, x86, x87, x88, x89, x90, x91, x92, x93, x94]) am_s0 54 [58, 59, 60, 61, 62, 0, 0] = [.ref x55, .ref x56, .ref x57, .ref x58, .ref x59, .int 0, .int 0] := by
      apply List.ext_getElem?
      intro k
      by_cases hk : k < 7
      · match k, hk with
          | 0, _ => exact (am_fs_get rfl).trans rfl
          | 1, _ => exact (am_fs_get rfl).trans rfl
          | 2, _ => exact (am_fs_get rfl).trans rfl
          | 3, _ => exact (am_fs_get rfl).trans rfl
          | 4, _ => exact (am_fs_get rfl).trans rfl
          | 5, _ => exact (am_fs_get rfl).trans rfl
          | 6, _ => exact (am_fs_get rfl).trans rfl
          | z + 7, h => exact absurd h (by omega)
      · rw [List.getElem?_eq_none (by rw [am_fs_len]; simpa using hk), List.getElem?_eq_none (by simpa using hk)]
    show va_at D am_cl (x54, .inr (9, am_fs (am_ad0 [x0, x1, x2, x3, x4, x5, x6, x7, x8, x9, x10, x11, x12, x13, x14, x15, x16, x17, x18, x19, x20, x21, x22, x23, x24, x25, x26, x27, x28, x29, x30, x31, x32, x33, x34, x35, x36, x37, x38, x39, x40, x41, x42, x43, x44, x45, x46, x47, x48, x49, x50, x51, x52, x53, x54, x55, x56, x57, x58, x59, x60, x61, x62, x63, x64, x65, x66, x67, x68, x69, x70, x71, x72, x73, x74, x75, x76, x77, x78, x79, x80, x81, x82, x83, x84, x85, x86, x87, x88, x89, x90, x91, x92, x93, x94]) am_s0 54 [58, 59, 60, 61, 62, 0, 0])) H
    rw [e]
    exact hP 54 _ rfl
  | 55, _ => exact hP 55 _ rfl
  | 56, _ => exact hP 56 _ rfl
  | 57, _ => exact hP 57 _ rfl
  | 58, _ => exact hP 58 _ rfl
  | 59, _ => exact hP 59 _ rfl
  | 60, _ =>
    have e : am_fs (am_ad0 [x0, x1, x2, x3, x4, x5, x6, x7, x8, x9, x10, x11, x12, x13, x14, x15, x16, x17, x18, x19, x20, x21, x22, x23, x24, x25, x26, x27, x28, x29, x30, x31, x32, x33, x34, x35, x36, x37, x38, x39, x40, x41, x42, x43, x44, x45, x46, x47, x48, x49, x50, x51, x52, x53, x54, x55, x56, x57, x58, x59, x60, x61, x62, x63, x64, x65, x66, x67, x68, x69, x70, x71, x72, x73, x74, x75, x76, x77, x78, x79, x80, x81, x82, x83, x84, x85, x86, x87, x88, x89, x90, x91, x92, x93, x94]) am_s0 60 [64, 65, 66, 1] = [.ref x61, .ref x62, .ref x63, .long 0] := by
      apply List.ext_getElem?
      intro k
      by_cases hk : k < 4
      · match k, hk with
          | 0, _ => exact (am_fs_get rfl).trans rfl
          | 1, _ => exact (am_fs_get rfl).trans rfl
          | 2, _ => exact (am_fs_get rfl).trans rfl
          | 3, _ => exact (am_fs_get rfl).trans rfl
          | z + 4, h => exact absurd h (by omega)
      · rw [List.getElem?_eq_none (by rw [am_fs_len]; simpa using hk), List.getElem?_eq_none (by simpa using hk)]
    show va_at D am_cl (x60, .inr (6, am_fs (am_ad0 [x0, x1, x2, x3, x4, x5, x6, x7, x8, x9, x10, x11, x12, x13, x14, x15, x16, x17, x18, x19, x20, x21, x22, x23, x24, x25, x26, x27, x28, x29, x30, x31, x32, x33, x34, x35, x36, x37, x38, x39, x40, x41, x42, x43, x44, x45, x46, x47, x48, x49, x50, x51, x52, x53, x54, x55, x56, x57, x58, x59, x60, x61, x62, x63, x64, x65, x66, x67, x68, x69, x70, x71, x72, x73, x74, x75, x76, x77, x78, x79, x80, x81, x82, x83, x84, x85, x86, x87, x88, x89, x90, x91, x92, x93, x94]) am_s0 60 [64, 65, 66, 1])) H
    rw [e]
    exact hP 60 _ rfl
  | 61, _ => exact hP 61 _ rfl
  | 62, _ => exact hP 62 _ rfl
  | 63, _ => exact hP 63 _ rfl
  | 64, _ => exact hP 64 _ rfl
  | 65, _ => exact hP 65 _ rfl
  | 66, _ =>
    have e : am_fs (am_ad0 [x0, x1, x2, x3, x4, x5, x6, x7, x8, x9, x10, x11, x12, x13, x14, x15, x16, x17, x18, x19, x20, x21, x22, x23, x24, x25, x26, x27, x28, x29, x30, x31, x32, x33, x34, x35, x36, x37, x38, x39, x40, x41, x42, x43, x44, x45, x46, x47, x48, x49, x50, x51, x52, x53, x54, x55, x56, x57, x58, x59, x60, x61, x62, x63, x64, x65, x66, x67, x68, x69, x70, x71, x72, x73, x74, x75, x76, x77, x78, x79, x80, x81, x82, x83, x84, x85, x86, x87, x88, x89, x90, x91, x92, x93, x94]) am_s0 66 [0, 0, 0, 0, 0, 0, 0, 70, 71, 72, 73, 74, 75, 76, 77, 78, 79, 80, 81, 82, 83, 84, 0, 85, 86, 87, 88, 89, 0, 0, 0, 0, 0, 90, 91, 92, 93, 94, 0, 0, 0, 2, 95, 1, 96, 97, 0, 0] = [.int 3, .int 4, .int 0, .int 0, .int 0, .int 0, .int 0, .ref x67, .ref x68, .ref x69, .ref x70, .ref x71, .ref x72, .ref x73, .ref x74, .ref x75, .ref x76, .ref x77, .ref x78, .ref x79, .ref x80, .ref x81, .int 0, .ref x82, .ref x83, .ref x84, .ref x85, .ref x86, .int 0, .int 0, .int 0, .int 0, .int 0, .ref x87, .ref x88, .ref x89, .ref x90, .ref x91, .int 0, .int 0, .int 0, .null, .ref x92, .long 0, .ref x93, .ref x94, .int 0, .int 0] := by
      apply List.ext_getElem?
      intro k
      by_cases hk : k < 48
      · match k, hk with
          | 0, _ => exact (am_fs_get rfl).trans rfl
          | 1, _ => exact (am_fs_get rfl).trans rfl
          | 2, _ => exact (am_fs_get rfl).trans rfl
          | 3, _ => exact (am_fs_get rfl).trans rfl
          | 4, _ => exact (am_fs_get rfl).trans rfl
          | 5, _ => exact (am_fs_get rfl).trans rfl
          | 6, _ => exact (am_fs_get rfl).trans rfl
          | 7, _ => exact (am_fs_get rfl).trans rfl
          | 8, _ => exact (am_fs_get rfl).trans rfl
          | 9, _ => exact (am_fs_get rfl).trans rfl
          | 10, _ => exact (am_fs_get rfl).trans rfl
          | 11, _ => exact (am_fs_get rfl).trans rfl
          | 12, _ => exact (am_fs_get rfl).trans rfl
          | 13, _ => exact (am_fs_get rfl).trans rfl
          | 14, _ => exact (am_fs_get rfl).trans rfl
          | 15, _ => exact (am_fs_get rfl).trans rfl
          | 16, _ => exact (am_fs_get rfl).trans rfl
          | 17, _ => exact (am_fs_get rfl).trans rfl
          | 18, _ => exact (am_fs_get rfl).trans rfl
          | 19, _ => exact (am_fs_get rfl).trans rfl
          | 20, _ => exact (am_fs_get rfl).trans rfl
          | 21, _ => exact (am_fs_get rfl).trans rfl
          | 22, _ => exact (am_fs_get rfl).trans rfl
          | 23, _ => exact (am_fs_get rfl).trans rfl
          | 24, _ => exact (am_fs_get rfl).trans rfl
          | 25, _ => exact (am_fs_get rfl).trans rfl
          | 26, _ => exact (am_fs_get rfl).trans rfl
          | 27, _ => exact (am_fs_get rfl).trans rfl
          | 28, _ => exact (am_fs_get rfl).trans rfl
          | 29, _ => exact (am_fs_get rfl).trans rfl
          | 30, _ => exact (am_fs_get rfl).trans rfl
          | 31, _ => exact (am_fs_get rfl).trans rfl
          | 32, _ => exact (am_fs_get rfl).trans rfl
          | 33, _ => exact (am_fs_get rfl).trans rfl
          | 34, _ => exact (am_fs_get rfl).trans rfl
          | 35, _ => exact (am_fs_get rfl).trans rfl
          | 36, _ => exact (am_fs_get rfl).trans rfl
          | 37, _ => exact (am_fs_get rfl).trans rfl
          | 38, _ => exact (am_fs_get rfl).trans rfl
          | 39, _ => exact (am_fs_get rfl).trans rfl
          | 40, _ => exact (am_fs_get rfl).trans rfl
          | 41, _ => exact (am_fs_get rfl).trans rfl
          | 42, _ => exact (am_fs_get rfl).trans rfl
          | 43, _ => exact (am_fs_get rfl).trans rfl
          | 44, _ => exact (am_fs_get rfl).trans rfl
          | 45, _ => exact (am_fs_get rfl).trans rfl
          | 46, _ => exact (am_fs_get rfl).trans rfl
          | 47, _ => exact (am_fs_get rfl).trans rfl
          | z + 48, h => exact absurd h (by omega)
      · rw [List.getElem?_eq_none (by rw [am_fs_len]; simpa using hk), List.getElem?_eq_none (by simpa using hk)]
    show va_at D am_cl (x66, .inr (11, am_fs (am_ad0 [x0, x1, x2, x3, x4, x5, x6, x7, x8, x9, x10, x11, x12, x13, x14, x15, x16, x17, x18, x19, x20, x21, x22, x23, x24, x25, x26, x27, x28, x29, x30, x31, x32, x33, x34, x35, x36, x37, x38, x39, x40, x41, x42, x43, x44, x45, x46, x47, x48, x49, x50, x51, x52, x53, x54, x55, x56, x57, x58, x59, x60, x61, x62, x63, x64, x65, x66, x67, x68, x69, x70, x71, x72, x73, x74, x75, x76, x77, x78, x79, x80, x81, x82, x83, x84, x85, x86, x87, x88, x89, x90, x91, x92, x93, x94]) am_s0 66 [0, 0, 0, 0, 0, 0, 0, 70, 71, 72, 73, 74, 75, 76, 77, 78, 79, 80, 81, 82, 83, 84, 0, 85, 86, 87, 88, 89, 0, 0, 0, 0, 0, 90, 91, 92, 93, 94, 0, 0, 0, 2, 95, 1, 96, 97, 0, 0])) H
    rw [e]
    exact hP 66 _ rfl
  | 67, _ => exact hP 67 _ rfl
  | 68, _ => exact hP 68 _ rfl
  | 69, _ => exact hP 69 _ rfl
  | 70, _ => exact hP 70 _ rfl
  | 71, _ => exact hP 71 _ rfl
  | 72, _ => exact hP 72 _ rfl
  | 73, _ => exact hP 73 _ rfl
  | 74, _ => exact hP 74 _ rfl
  | 75, _ => exact hP 75 _ rfl
  | 76, _ => exact hP 76 _ rfl
  | 77, _ => exact hP 77 _ rfl
  | 78, _ => exact hP 78 _ rfl
  | 79, _ => exact hP 79 _ rfl
  | 80, _ => exact hP 80 _ rfl
  | 81, _ => exact hP 81 _ rfl
  | 82, _ => exact hP 82 _ rfl
  | 83, _ => exact hP 83 _ rfl
  | 84, _ => exact hP 84 _ rfl
  | 85, _ => exact hP 85 _ rfl
  | 86, _ => exact hP 86 _ rfl
  | 87, _ => exact hP 87 _ rfl
  | 88, _ => exact hP 88 _ rfl
  | 89, _ => exact hP 89 _ rfl
  | 90, _ => exact hP 90 _ rfl
  | 91, _ => exact hP 91 _ rfl
  | 92, _ => exact hP 92 _ rfl
  | 93, _ => exact hP 93 _ rfl
  | 94, _ => exact hP 94 _ rfl
  | n + 95, h => exact absurd h (by omega)
