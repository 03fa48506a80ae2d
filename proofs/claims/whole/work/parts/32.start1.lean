set_option maxRecDepth 100000 in
set_option maxHeartbeats 4000000 in
theorem am_w0_D {A : Nat → Prop} {ta : Nat → ClassId} {x0 x1 x2 x3 x4 x5 x6 x7 x8 x9 x10 x11 x12 x13 x14 x15 x16 x17 x18 x19 x20 x21 x22 x23 x24 x25 x26 x27 x28 x29 x30 x31 x32 x33 x34 x35 x36 x37 x38 x39 x40 x41 x42 x43 x44 x45 x46 x47 x48 x49 x50 x51 x52 x53 x54 x55 x56 x57 x58 x59 x60 x61 x62 x63 x64 x65 x66 x67 x68 x69 x70 x71 x72 x73 x74 x75 x76 x77 x78 x79 x80 x81 x82 x83 x84 x85 x86 x87 x88 x89 x90 x91 x92 x93 x94 : Nat} (hD : va_D A [(x0, .inr (10, [.ref x1, .ref x18, .int 0, .ref x35, .ref x54, .ref x60, .ref x64, .int 0, .ref x65])), (x1, .inr (3, [.int 3, .int 4, .int 0, .int 0, .int 0, .int 0, .int 0, .ref x2, .ref x3, .ref x4, .ref x5, .ref x6, .ref x7, .ref x8, .ref x9, .ref x10, .ref x11])), (x2, .inl (ta 0, 4, .inl (fun _ => 0))), (x3, .inl (ta 0, 4, .inl (fun _ => 0))), (x4, .inl (ta 0, 4, .inl (fun _ => 0))), (x5, .inl (ta 0, 4, .inl (fun _ => 0))), (x6, .inl (ta 0, 4, .inl (fun _ => 0))), (x7, .inl (ta 0, 24, .inl (fun _ => 0))), (x8, .inl (ta 0, 3, .inl (upd (upd (upd (fun _ => 0) 0 2) 1 1) 2 1))), (x9, .inl (ta 0, 16, .inl (fun _ => 0))), (x10, .inl (ta 0, 8, .inl (fun _ => 0))), (x11, .inl (ta 3, 6, .inr (.inr (.inr (.inr (va_up (va_up (va_up (va_up (va_up (va_up (fun _ => none) 0 (some x12)) 1 (some x13)) 2 (some x14)) 3 (some x15)) 4 (some x16)) 5 (some x17))))))), (x12, .inr (2, [])), (x13, .inr (8, [])), (x14, .inr (5, [])), (x15, .inr (1, [])), (x16, .inr (0, [])), (x17, .inr (7, [])), (x18, .inr (3, [.int 3, .int 4, .int 0, .int 0, .int 0, .int 0, .int 0, .ref x19, .ref x20, .ref x21, .ref x22, .ref x23, .ref x24, .ref x25, .ref x26, .ref x27, .ref x28])), (x19, .inl (ta 0, 4, .inl (fun _ => 0))), (x20, .inl (ta 0, 4, .inl (fun _ => 0))), (x21, .inl (ta 0, 4, .inl (fun _ => 0))), (x22, .inl (ta 0, 4, .inl (fun _ => 0))), (x23, .inl (ta 0, 4, .inl (fun _ => 0))), (x24, .inl (ta 0, 24, .inl (fun _ => 0))), (x25, .inl (ta 0, 3, .inl (upd (upd (upd (fun _ => 0) 0 2) 1 1) 2 1))), (x26, .inl (ta 0, 16, .inl (fun _ => 0))), (x27, .inl (ta 0, 8, .inl (fun _ => 0))), (x28, .inl (ta 3, 6, .inr (.inr (.inr (.inr (va_up (va_up (va_up (va_up (va_up (va_up (fun _ => none) 0 (some x29)) 1 (some x30)) 2 (some x31)) 3 (some x32)) 4 (some x33)) 5 (some x34))))))), (x29, .inr (2, [])), (x30, .inr (8, [])), (x31, .inr (5, [])), (x32, .inr (1, [])), (x33, .inr (0, [])), (x34, .inr (7, [])), (x35, .inr (4, [.ref x36, .int 0, .ref x37])), (x36, .inl (ta 0, 96, .inl (fun _ => 0))), (x37, .inr (3, [.int 3, .int 4, .int 0, .int 0, .int 0, .int 0, .int 0, .ref x38, .ref x39, .ref x40, .ref x41, .ref x42, .ref x43, .ref x44, .ref x45, .ref x46, .ref x47])), (x38, .inl (ta 0, 4, .inl (fun _ => 0))), (x39, .inl (ta 0, 4, .inl (fun _ => 0))), (x40, .inl (ta 0, 4, .inl (fun _ => 0))), (x41, .inl (ta 0, 4, .inl (fun _ => 0))), (x42, .inl (ta 0, 4, .inl (fun _ => 0))), (x43, .inl (ta 0, 24, .inl (fun _ => 0))), (x44, .inl (ta 0, 3, .inl (upd (upd (upd (fun _ => 0) 0 2) 1 1) 2 1))), (x45, .inl (ta 0, 16, .inl (fun _ => 0))), (x46, .inl (ta 0, 8, .inl (fun _ => 0))), (x47, .inl (ta 3, 6, .inr (.inr (.inr (.inr (va_up (va_up (va_up (va_up (va_up (va_up (fun _ => none) 0 (some x48)) 1 (some x49)) 2 (some x50)) 3 (some x51)) 4 (some x52)) 5 (some x53))))))), (x48, .inr (2, [])), (x49, .inr (8, [])), (x50, .inr (5, [])), (x51, .inr (1, [])), (x52, .inr (0, [])), (x53, .inr (7, [])), (x54, .inr (9, [.ref x55, .ref x56, .ref x57, .ref x58, .ref x59, .int 0, .int 0])), (x55, .inl (ta 0, 6, .inl (fun _ => 0))), (x56, .inl (ta 0, 4, .inl (fun _ => 0))), (x57, .inl (ta 0, 24, .inl (fun _ => 0))), (x58, .inl (ta 0, 24, .inl (fun _ => 0))), (x59, .inl (ta 1, 256, .inl (fun _ => 0))), (x60, .inr (6, [.ref x61, .ref x62, .ref x63, .long 0])), (x61, .inl (ta 2, 7, .inr (.inl (fun _ => 0)))), (x62, .inl (ta 0, 4, .inl (fun _ => 0))), (x63, .inl (ta 0, 4, .inl (fun _ => 0))), (x64, .inl (ta 0, 12, .inl (fun _ => 0))), (x65, .inl (ta 0, 7, .inl (fun _ => 0))), (x66, .inr (11, [.int 3, .int 4, .int 0, .int 0, .int 0, .int 0, .int 0, .ref x67, .ref x68, .ref x69, .ref x70, .ref x71, .ref x72, .ref x73, .ref x74, .ref x75, .ref x76, .ref x77, .ref x78, .ref x79, .ref x80, .ref x81, .int 0, .ref x82, .ref x83, .ref x84, .ref x85, .ref x86, .int 0, .int 0, .int 0, .int 0, .int 0, .ref x87, .ref x88, .ref x89, .ref x90, .ref x91, .int 0, .int 0, .int 0, .null, .ref x92, .long 0, .ref x93, .ref x94, .int 0, .int 0])), (x67, .inl (ta 0, 4, .inl (fun _ => 0))), (x68, .inl (ta 0, 4, .inl (fun _ => 0))), (x69, .inl (ta 0, 4, .inl (fun _ => 0))), (x70, .inl (ta 0, 4, .inl (fun _ => 0))), (x71, .inl (ta 0, 4, .inl (fun _ => 0))), (x72, .inl (ta 0, 24, .inl (fun _ => 0))), (x73, .inl (ta 0, 17, .inl (fun _ => 0))), (x74, .inl (ta 0, 17, .inl (fun _ => 0))), (x75, .inl (ta 0, 17, .inl (fun _ => 0))), (x76, .inl (ta 0, 17, .inl (fun _ => 0))), (x77, .inl (ta 0, 3, .inl (upd (upd (upd (fun _ => 0) 0 2) 1 1) 2 1))), (x78, .inl (ta 0, 8, .inl (fun _ => 0))), (x79, .inl (ta 0, 8, .inl (fun _ => 0))), (x80, .inl (ta 0, 8, .inl (fun _ => 0))), (x81, .inl (ta 0, 8, .inl (fun _ => 0))), (x82, .inl (ta 0, 7, .inl (fun _ => 0))), (x83, .inl (ta 0, 6, .inl (fun _ => 0))), (x84, .inl (ta 0, 4, .inl (fun _ => 0))), (x85, .inl (ta 0, 4, .inl (fun _ => 0))), (x86, .inl (ta 0, 96, .inl (fun _ => 0))), (x87, .inl (ta 0, 33, .inl (fun _ => 0))), (x88, .inl (ta 0, 33, .inl (fun _ => 0))), (x89, .inl (ta 0, 231, .inl (fun _ => 0))), (x90, .inl (ta 0, 154, .inl (fun _ => 0))), (x91, .inl (ta 0, 154, .inl (fun _ => 0))), (x92, .inl (ta 2, 7, .inr (.inl (fun _ => 0)))), (x93, .inl (ta 0, 4, .inl (fun _ => 0))), (x94, .inl (ta 0, 12, .inl (fun _ => 0)))]) : va_D A (am_w0 ta [x0, x1, x2, x3, x4, x5, x6, x7, x8, x9, x10, x11, x12, x13, x14, x15, x16, x17, x18, x19, x20, x21, x22, x23, x24, x25, x26, x27, x28, x29, x30, x31, x32, x33, x34, x35, x36, x37, x38, x39, x40, x41, x42, x43, x44, x45, x46, x47, x48, x49, x50, x51, x52, x53, x54, x55, x56, x57, x58, x59, x60, x61, x62, x63, x64, x65, x66, x67, x68, x69, x70, x71, x72, x73, x74, x75, x76, x77, x78, x79, x80, x81, x82, x83, x84, x85, x86, x87, x88, x89, x90, x91, x92, x93, x94]) := by
  have key : ∀ (k : Nat) (q : Nat × va_E), (am_w0 ta [x0, x1, x2, x3, x4, x5, x6, x7, x8, x9, x10, x11, x12, x13, x14, x15, x16, x17, x18, x19, x20, x21, x22, x23, x24, x25, x26, x27, x28, x29, x30, x31, x32, x33, x34, x35, x36, x37, x38, x39, x40, x41, x42, x43, x44, x45, x46, x47, x48, x49, x50, x51, x52, x53, x54, x55, x56, x57, x58, x59, x60, x61, x62, x63, x64, x65, x66, x67, x68, x69, x70, x71, x72, x73, x74, x75, x76, x77, x78, x79, x80, x81, x82, x83, x84, x85, x86, x87, x88, x89, x90, x91, x92, x93, x94])[k]? = some q → ∃ q0 : Nat × va_E, ([(x0, .inr (10, [.ref x1, .ref x18, .int 0, .ref x35, .ref x54, .ref x60, .ref x64, .int 0, .ref x65])), (x1, .inr (3, [.int 3, .int 4, .int 0, .int 0, .int 0, .int 0, .int 0, .ref x2, .ref x3, .ref x4, .ref x5, .ref x6, .ref x7, .ref x8, .ref x9, .ref x10, .ref x11])), (x2, .inl (ta 0, 4, .inl (fun _ => 0))), (x3, .inl (ta 0, 4, .inl (fun _ => 0))), (x4, .inl (ta 0, 4, .inl (fun _ => 0))), (x5, .inl (ta 0, 4, .inl (fun _ => 0))), (x6, .inl (ta 0, 4, .inl (fun _ => 0))), (x7, .inl (ta 0, 24, .inl (fun _ => 0))), (x8, .inl (ta 0, 3, .inl (upd (upd (upd (fun _ => 0) 0 2) 1 1) 2 1))), (x9, .inl (ta 0, 16, .inl (fun _ => 0))), (x10, .inl (ta 0, 8, .inl (fun _ => 0))), (x11, .inl (ta 3, 6, .inr (.inr (.inr (.inr (va_up (va_up (va_up (va_up (va_up (va_up (fun _ => none) 0 (some x12)) 1 (some x13)) 2 (some x14)) 3 (some x15)) 4 (some x16)) 5 (some x17))))))), (x12, .inr (2, [])), (x13, .inr (8, [])), (x14, .inr (5, [])), (x15, .inr (1, [])), (x16, .inr (0, [])), (x17, .inr (7, [])), (x18, .inr (3, [.int 3, .int 4, .int 0, .int 0, .int 0, .int 0, .int 0, .ref x19, .ref x20, .ref x21, .ref x22, .ref x23, .ref x24, .ref x25, .ref x26, .ref x27, .ref x28])), (x19, .inl (ta 0, 4, .inl (fun _ => 0))), (x20, .inl (ta 0, 4, .inl (fun _ => 0))), (x21, .inl (ta 0, 4, .inl (fun _ => 0))), (x22, .inl (ta 0, 4, .inl (fun _ => 0))), (x23, .inl (ta 0, 4, .inl (fun _ => 0))), (x24, .inl (ta 0, 24, .inl (fun _ => 0))), (x25, .inl (ta 0, 3, .inl (upd (upd (upd (fun _ => 0) 0 2) 1 1) 2 1))), (x26, .inl (ta 0, 16, .inl (fun _ => 0))), (x27, .inl (ta 0, 8, .inl (fun _ => 0))), (x28, .inl (ta 3, 6, .inr (.inr (.inr (.inr (va_up (va_up (va_up (va_up (va_up (va_up (fun _ => none) 0 (some x29)) 1 (some x30)) 2 (some x31)) 3 (some x32)) 4 (some x33)) 5 (some x34))))))), (x29, .inr (2, [])), (x30, .inr (8, [])), (x31, .inr (5, [])), (x32, .inr (1, [])), (x33, .inr (0, [])), (x34, .inr (7, [])), (x35, .inr (4, [.ref x36, .int 0, .ref x37])), (x36, .inl (ta 0, 96, .inl (fun _ => 0))), (x37, .inr (3, [.int 3, .int 4, .int 0, .int 0, .int 0, .int 0, .int 0, .ref x38, .ref x39, .ref x40, .ref x41, .ref x42, .ref x43, .ref x44, .ref x45, .ref x46, .ref x47])), (x38, .inl (ta 0, 4, .inl (fun _ => 0))), (x39, .inl (ta 0, 4, .inl (fun _ => 0))), (x40, .inl (ta 0, 4, .inl (fun _ => 0))), (x41, .inl (ta 0, 4, .inl (fun _ => 0))), (x42, .inl (ta 0, 4, .inl (fun _ => 0))), (x43, .inl (ta 0, 24, .inl (fun _ => 0))), (x44, .inl (ta 0, 3, .inl (upd (upd (upd (fun _ => 0) 0 2) 1 1) 2 1))), (x45, .inl (ta 0, 16, .inl (fun _ => 0))), (x46, .inl (ta 0, 8, .inl (fun _ => 0))), (x47, .inl (ta 3, 6, .inr (.inr (.inr (.inr (va_up (va_up (va_up (va_up (va_up (va_up (fun _ => none) 0 (some x48)) 1 (some x49)) 2 (some x50)) 3 (some x51)) 4 (some x52)) 5 (some x53))))))), (x48, .inr (2, [])), (x49, .inr (8, [])), (x50, .inr (5, [])), (x51, .inr (1, [])), (x52, .inr (0, [])), (x53, .inr (7, [])), (x54, .inr (9, [.ref x55, .ref x56, .ref x57, .ref x58, .ref x59, .int 0, .int 0])), (x55, .inl (ta 0, 6, .inl (fun _ => 0))), (x56, .inl (ta 0, 4, .inl (fun _ => 0))), (x57, .inl (ta 0, 24, .inl (fun _ => 0))), (x58, .inl (ta 0, 24, .inl (fun _ => 0))), (x59, .inl (ta 1, 256, .inl (fun _ => 0))), (x60, .inr (6, [.ref x61, .ref x62, .ref x63, .long 0])), (x61, .inl (ta 2, 7, .inr (.inl (fun _ => 0)))), (x62, .inl (ta 0, 4, .inl (fun _ => 0))), (x63, .inl (ta 0, 4, .inl (fun _ => 0))), (x64, .inl (ta 0, 12, .inl (fun _ => 0))), (x65, .inl (ta 0, 7, .inl (fun _ => 0))), (x66, .inr (11, [.int 3, .int 4, .int 0, .int 0, .int 0, .int 0, .int 0, .ref x67, .ref x68, .ref x69, .ref x70, .ref x71, .ref x72, .ref x73, .ref x74, .ref x75, .ref x76, .ref x77, .ref x78, .ref x79, .ref x80, .ref x81, .int 0, .ref x82, .ref x83, .ref x84, .ref x85, .ref x86, .int 0, .int 0, .int 0, .int 0, .int 0, .ref x87, .ref x88, .ref x89, .ref x90, .ref x91, .int 0, .int 0, .int 0, .null, .ref x92, .long 0, .ref x93, .ref x94, .int 0, .int 0])), (x67, .inl (ta 0, 4, .inl (fun _ => 0))), (x68, .inl (ta 0, 4, .inl (fun _ => 0))), (x69, .inl (ta 0, 4, .inl (fun _ => 0))), (x70, .inl (ta 0, 4, .inl (fun _ => 0))), (x71, .inl (ta 0, 4, .inl (fun _ => 0))), (x72, .inl (ta 0, 24, .inl (fun _ => 0))), (x73, .inl (ta 0, 17, .inl (fun _ => 0))), (x74, .inl (ta 0, 17, .inl (fun _ => 0))), (x75, .inl (ta 0, 17, .inl (fun _ => 0))), (x76, .inl (ta 0, 17, .inl (fun _ => 0))), (x77, .inl (ta 0, 3, .inl (upd (upd (upd (fun _ => 0) 0 2) 1 1) 2 1))), (x78, .inl (ta 0, 8, .inl (fun _ => 0))), (x79, .inl (ta 0, 8, .inl (fun _ => 0))), (x80, .inl (ta 0, 8, .inl (fun _ => 0))), (x81, .inl (ta 0, 8, .inl (fun _ => 0))), (x82, .inl (ta 0, 7, .inl (fun _ => 0))), (x83, .inl (ta 0, 6, .inl (fun _ => 0))), (x84, .inl (ta 0, 4, .inl (fun _ => 0))), (x85, .inl (ta 0, 4, .inl (fun _ => 0))), (x86, .inl (ta 0, 96, .inl (fun _ => 0))), (x87, .inl (ta 0, 33, .inl (fun _ => 0))), (x88, .inl (ta 0, 33, .inl (fun _ => 0))), (x89, .inl (ta 0, 231, .inl (fun _ => 0))), (x90, .inl (ta 0, 154, .inl (fun _ => 0))), (x91, .inl (ta 0, 154, .inl (fun _ => 0))), (x92, .inl (ta 2, 7, .inr (.inl (fun _ => 0)))), (x93, .inl (ta 0, 4, .inl (fun _ => 0))), (x94, .inl (ta 0, 12, .inl (fun _ => 0)))] : va_W)[k]? = some q0 ∧ q0.1 = q.1 := by
    intro k q hq
    have hk : k < 95 := by
      have h1 := (List.getElem?_eq_some_iff.mp hq).1
      simpa [am_w0, am_ws, am_shapes_len] using h1
    have hq2 : q = (am_ad0 [x0, x1, x2, x3, x4, x5, x6, x7, x8, x9, x10, x11, x12, x13, x14, x15, x16, x17, x18, x19, x20, x21, x22, x23, x24, x25, x26, x27, x28, x29, x30, x31, x32, x33, x34, x35, x36, x37, x38, x39, x40, x41, x42, x43, x44, x45, x46, x47, x48, x49, x50, x51, x52, x53, x54, x55, x56, x57, x58, x59, x60, x61, x62, x63, x64, x65, x66, x67, x68, x69, x70, x71, x72, x73, x74, x75, x76, x77, x78, x79, x80, x81, x82, x83, x84, x85, x86, x87, x88, x89, x90, x91, x92, x93, x94] k, am_ce ta (am_ad0 [x0, x1, x2, x3, x4, x5, x6, x7, x8, x9, x10, x11, x12, x13, x14, x15, x16, x17, x18, x19, x20, x21, x22, x23, x24, x25, x26, x27, x28, x29, x30, x31, x32, x33, x34, x35, x36, x37, x38, x39, x40, x41, x42, x43, x44, x45, x46, x47, x48, x49, x50, x51, x52, x53, x54, x55, x56, x57, x58, x59, x60, x61, x62, x63, x64, x65, x66, x67, x68, x69, x70, x71, x72, x73, x74, x75, x76, x77, x78, x79, x80, x81, x82, x83, x84, x85, x86, x87, x88, x89, x90, x91, x92, x93, x94]) am_s0 k) := by
      have h1 := am_ws_get (ta := ta) (ad := am_ad0 [x0, x1, x2, x3, x4, x5, x6, x7, x8, x9, x10, x11, x12, x13, x14, x15, x16, x17, x18, x19, x20, x21, x22, x23, x24, x25, x26, x27, x28, x29, x30, x31, x32, x33, x34, x35, x36, x37, x38, x39, x40, x41, x42, x43, x44, x45, x46, x47, x48, x49, x50, x51, x52, x53, x54, x55, x56, x57, x58, x59, x60, x61, x62, x63, x64, x65, x66, x67, x68, x69, x70, x71, x72, x73, x74, x75, x76, x77, x78, x79, x80, x81, x82, x83, x84, x85, x86, x87, x88, x89, x90, x91, x92, x93, x94]) (σ := am_s0) (i := k) (by rw [show am_NC = 95 from am_shapes_len]; exact hk)
      exact (Option.some.inj (h1.symm.trans hq)).symm
    subst hq2
    clear hq
    match k, hk with
    | 0, _ => exact ⟨_, rfl, rfl⟩
    | 1, _ => exact ⟨_, rfl, rfl⟩
    | 2, _ => exact ⟨_, rfl, rfl⟩
    | 3, _ => exact ⟨_, rfl, rfl⟩
    | 4, _ => exact ⟨_, rfl, rfl⟩
    | 5, _ => exact ⟨_, rfl, rfl⟩
    | 6, _ => exact ⟨_, rfl, rfl⟩
    | 7, _ => exact ⟨_, rfl, rfl⟩
    | 8, _ => exact ⟨_, rfl, rfl⟩
    | 9, _ => exact ⟨_, rfl, rfl⟩
    | 10, _ => exact ⟨_, rfl, rfl⟩
    | 11, _ => exact ⟨_, rfl, rfl⟩
    | 12, _ => exact ⟨_, rfl, rfl⟩
    | 13, _ => exact ⟨_, rfl, rfl⟩
    | 14, _ => exact ⟨_, rfl, rfl⟩
    | 15, _ => exact ⟨_, rfl, rfl⟩
    | 16, _ => exact ⟨_, rfl, rfl⟩
    | 17, _ => exact ⟨_, rfl, rfl⟩
    | 18, _ => exact ⟨_, rfl, rfl⟩
    | 19, _ => exact ⟨_, rfl, rfl⟩
    | 20, _ => exact ⟨_, rfl, rfl⟩
    | 21, _ => exact ⟨_, rfl, rfl⟩
    | 22, _ => exact ⟨_, rfl, rfl⟩
    | 23, _ => exact ⟨_, rfl, rfl⟩
    | 24, _ => exact ⟨_, rfl, rfl⟩
    | 25, _ => exact ⟨_, rfl, rfl⟩
    | 26, _ => exact ⟨_, rfl, rfl⟩
    | 27, _ => exact ⟨_, rfl, rfl⟩
    | 28, _ => exact ⟨_, rfl, rfl⟩
    | 29, _ => exact ⟨_, rfl, rfl⟩
    | 30, _ => exact ⟨_, rfl, rfl⟩
    | 31, _ => exact ⟨_, rfl, rfl⟩
    | 32, _ => exact ⟨_, rfl, rfl⟩
    | 33, _ => exact ⟨_, rfl, rfl⟩
    | 34, _ => exact ⟨_, rfl, rfl⟩
    | 35, _ => exact ⟨_, rfl, rfl⟩
    | 36, _ => exact ⟨_, rfl, rfl⟩
    | 37, _ => exact ⟨_, rfl, rfl⟩
    | 38, _ => exact ⟨_, rfl, rfl⟩
    | 39, _ => exact ⟨_, rfl, rfl⟩
    | 40, _ => exact ⟨_, rfl, rfl⟩
    | 41, _ => exact ⟨_, rfl, rfl⟩
    | 42, _ => exact ⟨_, rfl, rfl⟩
    | 43, _ => exact ⟨_, rfl, rfl⟩
    | 44, _ => exact ⟨_, rfl, rfl⟩
    | 45, _ => exact ⟨_, rfl, rfl⟩
    | 46, _ => exact ⟨_, rfl, rfl⟩
    | 47, _ => exact ⟨_, rfl, rfl⟩
    | 48, _ => exact ⟨_, rfl, rfl⟩
    | 49, _ => exact ⟨_, rfl, rfl⟩
    | 50, _ => exact ⟨_, rfl, rfl⟩
    | 51, _ => exact ⟨_, rfl, rfl⟩
    | 52, _ => exact ⟨_, rfl, rfl⟩
    | 53, _ => exact ⟨_, rfl, rfl⟩
    | 54, _ => exact ⟨_, rfl, rfl⟩
    | 55, _ => exact ⟨_, rfl, rfl⟩
    | 56, _ => exact ⟨_, rfl, rfl⟩
    | 57, _ => exact ⟨_, rfl, rfl⟩
    | 58, _ => exact ⟨_, rfl, rfl⟩
    | 59, _ => exact ⟨_, rfl, rfl⟩
    | 60, _ => exact ⟨_, rfl, rfl⟩
    | 61, _ => exact ⟨_, rfl, rfl⟩
    | 62, _ => exact ⟨_, rfl, rfl⟩
    | 63, _ => exact ⟨_, rfl, rfl⟩
    | 64, _ => exact ⟨_, rfl, rfl⟩
    | 65, _ => exact ⟨_, rfl, rfl⟩
    | 66, _ => exact ⟨_, rfl, rfl⟩
    | 67, _ => exact ⟨_, rfl, rfl⟩
    | 68, _ => exact ⟨_, rfl, rfl⟩
    | 69, _ => exact ⟨_, rfl, rfl⟩
    | 70, _ => exact ⟨_, rfl, rfl⟩
    | 71, _ => exact ⟨_, rfl, rfl⟩
    | 72, _ => exact ⟨_, rfl, rfl⟩
    | 73, _ => exact ⟨_, rfl, rfl⟩
    | 74, _ => exact ⟨_, rfl, rfl⟩
    | 75, _ => exact ⟨_, rfl, rfl⟩
    | 76, _ => exact ⟨_, rfl, rfl⟩
    | 77, _ => exact ⟨_, rfl, rfl⟩
    | 78, _ => exact ⟨_, rfl, rfl⟩
    | 79, _ => exact ⟨_, rfl, rfl⟩
    | 80, _ => exact ⟨_, rfl, rfl⟩
    | 81, _ => exact ⟨_, rfl, rfl⟩
    | 82, _ => exact ⟨_, rfl, rfl⟩
    | 83, _ => exact ⟨_, rfl, rfl⟩
    | 84, _ => exact ⟨_, rfl, rfl⟩
    | 85, _ => exact ⟨_, rfl, rfl⟩
    | 86, _ => exact ⟨_, rfl, rfl⟩
    | 87, _ => exact ⟨_, rfl, rfl⟩
    | 88, _ => exact ⟨_, rfl, rfl⟩
    | 89, _ => exact ⟨_, rfl, rfl⟩
    | 90, _ => exact ⟨_, rfl, rfl⟩
    | 91, _ => exact ⟨_, rfl, rfl⟩
    | 92, _ => exact ⟨_, rfl, rfl⟩
    | 93, _ => exact ⟨_, rfl, rfl⟩
    | 94, _ => exact ⟨_, rfl, rfl⟩
    | n + 95, h => exact absurd h (by omega)
  refine ⟨fun i j x y hi hj hxy => ?_, fun k q hq => ?_⟩
  · obtain ⟨x0, h1, h2⟩ := key i x hi
    obtain ⟨y0, h3, h4⟩ := key j y hj
    exact hD.1 i j x0 y0 h1 h3 (h2.trans (hxy.trans h4.symm))
  · obtain ⟨q0, h1, h2⟩ := key k q hq
    rw [← h2]
    exact hD.2 k q0 h1
