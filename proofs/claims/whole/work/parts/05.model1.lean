abbrev dlX6_scans : List (Nat × Instr × Nat) := [(0, .aload_n 0, 1), (1, .bipush 32, 2), (3, .bipush 32, 2), (5, .invokevirtual 131, 3), (8, .ifCond .eq 16, 3), (11, .aload_n 0, 1), (12, .dup, 1), (13, .getfield 114, 3), (16, .iconst 1, 1), (17, .iadd, 1), (18, .putfield 114, 3), (21, .goto (-21), 3), (24, .aload_n 0, 1), (25, .aload_n 0, 1), (26, .getfield 114, 3), (29, .putfield 135, 3), (32, .aload_n 0, 1), (33, .getfield 114, 3), (36, .aload_n 0, 1), (37, .getfield 110, 3), (40, .if_icmp .ne 9, 3), (43, .aload_n 0, 1), (44, .iconst 0, 1), (45, .putfield 138, 3), (48, .return_, 1), (49, .aload_n 0, 1), (50, .bipush 97, 2), (52, .bipush 122, 2), (54, .invokevirtual 131, 3), (57, .ifCond .eq 105, 3), (60, .lconst 0, 1), (61, .lstore_n 1, 1), (62, .aload_n 0, 1), (63, .bipush 97, 2), (65, .bipush 122, 2), (67, .invokevirtual 131, 3), (70, .ifCond .eq 56, 3), (73, .aload_n 0, 1), (74, .getfield 114, 3), (77, .aload_n 0, 1), (78, .getfield 135, 3), (81, .isub, 1), (82, .iconst 4, 1), (83, .if_icmp .le 7, 3), (86, .lconst 0, 1), (87, .goto 25, 3), (90, .ldc2_w 141, 3), (93, .lload_n 1, 1), (94, .lmul, 1), (95, .aload_n 0, 1), (96, .getfield 26, 3), (99, .aload_n 0, 1), (100, .getfield 114, 3), (103, .iaload, 1), (104, .i2l, 1), (105, .ladd, 1), (106, .ldc2_w 143, 3), (109, .lsub, 1), (110, .lconst 1, 1), (111, .ladd, 1), (112, .lstore_n 1, 1), (113, .aload_n 0, 1), (114, .dup, 1), (115, .getfield 114, 3), (118, .iconst 1, 1), (119, .iadd, 1), (120, .putfield 114, 3), (123, .goto (-61), 3), (126, .aload_n 0, 1), (127, .aload_n 0, 1), (128, .getfield 114, 3), (131, .aload_n 0, 1), (132, .getfield 135, 3), (135, .isub, 1), (136, .iconst 5, 1), (137, .if_icmp .gt 11, 3), (140, .lload_n 1, 1), (141, .invokestatic 145, 3), (144, .iconst (-1), 1), (145, .if_icmp .ne 7, 3), (148, .iconst 1, 1), (149, .goto 9, 3), (152, .iconst 4, 1), (153, .lload_n 1, 1), (154, .invokestatic 145, 3), (157, .iadd, 1), (158, .putfield 138, 3), (161, .return_, 1), (162, .aload_n 0, 1), (163, .bipush 48, 2), (165, .bipush 57, 2), (167, .invokevirtual 131, 3), (170, .ifCond .eq 99, 3), (173, .aload_n 0, 1), (174, .iconst 0, 1), (175, .putfield 149, 3), (178, .aload_n 0, 1), (179, .bipush 48, 2), (181, .bipush 57, 2), (183, .invokevirtual 131, 3), (186, .ifCond .eq 60, 3), (189, .aload_n 0, 1), (190, .aload_n 0, 1), (191, .getfield 114, 3), (194, .aload_n 0, 1), (195, .getfield 135, 3), (198, .isub, 1), (199, .iconst 3, 1), (200, .if_icmp .ge 26, 3), (203, .bipush 10, 2), (205, .aload_n 0, 1), (206, .getfield 149, 3), (209, .imul, 1), (210, .aload_n 0, 1), (211, .getfield 26, 3), (214, .aload_n 0, 1), (215, .getfield 114, 3), (218, .iaload, 1), (219, .iadd, 1), (220, .bipush 48, 2), (222, .isub, 1), (223, .goto 7, 3), (226, .aload_n 0, 1), (227, .getfield 149, 3), (230, .putfield 149, 3), (233, .aload_n 0, 1), (234, .dup, 1), (235, .getfield 114, 3), (238, .iconst 1, 1), (239, .iadd, 1), (240, .putfield 114, 3), (243, .goto (-65), 3), (246, .aload_n 0, 1), (247, .aload_n 0, 1), (248, .getfield 114, 3), (251, .aload_n 0, 1), (252, .getfield 135, 3), (255, .isub, 1), (256, .iconst 3, 1), (257, .if_icmp .le 7, 3), (260, .iconst 1, 1), (261, .goto 4, 3), (264, .iconst 2, 1), (265, .putfield 138, 3), (268, .return_, 1), (269, .aload_n 0, 1), (270, .aload_n 0, 1), (271, .bipush 59, 2), (273, .bipush 59, 2), (275, .invokevirtual 131, 3), (278, .ifCond .eq 7, 3), (281, .iconst 3, 1), (282, .goto 4, 3), (285, .iconst 1, 1), (286, .putfield 138, 3), (289, .aload_n 0, 1), (290, .dup, 1), (291, .getfield 114, 3), (294, .iconst 1, 1), (295, .iadd, 1), (296, .putfield 114, 3), (299, .return_, 1)]
theorem DX6_scans : zD cX6_scans dlX6_scans = true := by decide +kernel
set_option maxRecDepth 20000 in
theorem ggX6_scans_X6_isAt : GoodIn wsX6_scans wsX6_isAt := goodIn_r _ [13, 1, 3, 6, 14, 15, 12, 16, 27, 28, 29, 30, 31, 32, 33, 34, 35, 36, 37, 38, 39, 40, 41, 42, 43, 44, 45] (by decide +kernel) (by decide +kernel)
set_option maxRecDepth 20000 in
theorem gX6_scans_X6_isAt : GoodIn wsX6_scans (wsV RX6 131 RX6 yX6_isAt wsX6_isAt) := goodIn_app (goodIn_of _ (by decide +kernel)) ggX6_scans_X6_isAt
set_option maxRecDepth 20000 in
theorem ggX6_scans_X6_verbOf : GoodIn wsX6_scans wsX6_verbOf := goodIn_r _ [19, 20, 21, 22, 23, 24, 25, 26] (by decide +kernel) (by decide +kernel)
set_option maxRecDepth 20000 in
theorem gX6_scans_X6_verbOf : GoodIn wsX6_scans (va_wsS RX6 145 yX6_verbOf wsX6_verbOf) := goodIn_app (goodIn_of _ (by decide +kernel)) ggX6_scans_X6_verbOf
theorem hd6_scans : yX6_scans.cls = RX6 ∧ yX6_scans.cls ≠ "java/lang/invoke/MethodHandle" ∧ yX6_scans.cls ≠ "java/lang/invoke/VarHandle" ∧ (parseMethodDescriptor yX6_scans.desc).map (fun d => d.parameters.length) = some 0 := by decide +kernel
abbrev rm6_scans : Room := { frames := 2, cells := 0, slots := 0, locals := 47 }
theorem in6_scans_6 : ∀ w ∈ wsX60, w ∈ wsX6_scans := fun w h => List.mem_cons_of_mem _ (List.mem_append_right _ h)
set_option maxHeartbeats 4000000 in
set_option maxRecDepth 100000 in
theorem c6_scans {l : Launch} {D : va_G} {cI cZ cB : ClassId} {q : Nat → Nat} {sz : Nat} {quiet : Int32} {mabove : Int64} {mbelow : Int64} {typed : Int32} {mat : Int32} {mstart : Int32} {mtoken : Int32} {mvalue : Int32} {many : Int32} {book : Nat → Int32} {images : Nat → Int32} {mkept : Nat → Int32} {aside : Nat → Int32} {refused : Nat → Int32} {text : Nat → Int32} {items : Nat → Int32} {drawn : Nat → Int32} {row : Nat → Int32} {best : Nat → Int32}   {d_mat : Int32} {d_mstart : Int32} {d_mtoken : Int32} {d_mvalue : Int32} (hf : f6_scans typed mat mstart mtoken mvalue text = some (d_mat, d_mstart, d_mtoken, d_mvalue)) : Met l yX6_scans wsX6_scans rm6_scans (zPm D cI cZ cB [.ref (q 0)] sz (cMod cI cZ q quiet mabove mbelow typed mat mstart mtoken mvalue many book images mkept aside refused text items drawn row best)) (zQm D none (cMod cI cZ q quiet mabove mbelow typed d_mat d_mstart d_mtoken d_mvalue many book images mkept aside refused text items drawn row best) (va_A (cMod cI cZ q quiet mabove mbelow typed mat mstart mtoken mvalue many book images mkept aside refused text items drawn row best) sz)) 0 0 (va_A (cMod cI cZ q quiet mabove mbelow typed mat mstart mtoken mvalue many book images mkept aside refused text items drawn row best) sz) := by
  unfold f6_scans at hf
  refine z_mutV RX6 (by decide +kernel) rfl rfl (Nat.le_of_ble_eq_true rfl) ?_
  intro p e s m args below meth c Q A ls hx hb hml hown hts hK hP hD hS hA hret hl
  have hl : lv_has ls 3 [(0, .ref (q 0))] := hl
  have hL2 : ∀ (k2 : (Int32) → Option (Int32 × Int32 × Int32 × Int32)) (hk2 : ∀ (mat_7 : Int32), k2 mat_7 = some (d_mat, d_mstart, d_mtoken, d_mvalue) → ∀ (H : Heap) (locs : List Loc), va_P D vwCl (cMod cI cZ q quiet mabove mbelow typed mat_7 mstart mtoken mvalue many book images mkept aside refused text items drawn row best) H → va_D A (cMod cI cZ q quiet mabove mbelow typed mat_7 mstart mtoken mvalue many book images mkept aside refused text items drawn row best) → va_S A s.heap H locs → ∀ (ls : Array Slot), lv_has ls 3 [(0, .ref (q 0))] → W p l e rm6_scans s m args below meth c H locs 0 0 Q (F0 m 24 ls [])) (n2 : Nat) (mat_1 : Int32), L6_scans_0 k2 typed text n2 mat_1 = some (d_mat, d_mstart, d_mtoken, d_mvalue) → ∀ (H : Heap) (locs : List Loc), va_P D vwCl (cMod cI cZ q quiet mabove mbelow typed mat_1 mstart mtoken mvalue many book images mkept aside refused text items drawn row best) H → va_D A (cMod cI cZ q quiet mabove mbelow typed mat_1 mstart mtoken mvalue many book images mkept aside refused text items drawn row best) → va_S A s.heap H locs → ∀ (ls : Array Slot), lv_has ls 3 [(0, .ref (q 0))] → W p l e rm6_scans s m args below meth c H locs 0 0 Q (F0 m 0 ls []) := by
    intro k2 hk2 n2
    induction n2 with
    | zero =>
      intro mat_1 hf
      cases hf
    | succ n2 ih2 =>
      intro mat_1 hf H locs hP hD hS ls hl
      rw [L6_scans_0] at hf
      refine lv_aload_n hx hb (zD_g DX6_scans 0 rfl) rfl (lv_at hl 0 rfl) ?_
      refine lv_bipush (v := (32 : Int32)) hx hb (zD_g DX6_scans 1 rfl) (by decide) ?_
      refine lv_bipush (v := (32 : Int32)) hx hb (zD_g DX6_scans 2 rfl) (by decide) ?_
      obtain ⟨r3, hc4, hf⟩ := zb1_s hf
      refine z_Vp (As := [.int (32 : Int32), .int (32 : Int32)]) (rest := []) ⟨hx, hb, hml, hown, hts⟩ hK (c6_isAt (quiet := quiet) (mabove := mabove) (mbelow := mbelow) (typed := typed) (mat := mat_1) (mstart := mstart) (mtoken := mtoken) (mvalue := mvalue) (many := many) (book := book) (images := images) (mkept := mkept) (aside := aside) (refused := refused) (text := text) (items := items) (drawn := drawn) (row := row) (best := best) (q := q) hc4) (cwV 2 hts gX6_scans_X6_isAt rfl rfl rfl hd6_isAt ⟨Nat.le_of_ble_eq_true rfl, Nat.le_of_ble_eq_true rfl⟩) hP rfl rfl rfl rfl hl.1 rfl rfl (Nat.le_of_ble_eq_true rfl) (zD_g DX6_scans 3 rfl) ⟨Nat.zero_le _, Nat.zero_le _⟩ ?_
      refine lv_if_eq (tgt := 24) hx hb (zD_g DX6_scans 4 rfl) (by decide) (fun c5 => ?_) (fun c5 => ?_)
      · replace hf := z_t c5 hf
        exact hk2 _ hf _ _ hP hD hS ls (lv_sub hl [0] rfl)
      · replace hf := z_f c5 hf
        refine lv_aload_n hx hb (zD_g DX6_scans 5 rfl) rfl (lv_at hl 0 rfl) ?_
        refine lv_dup hx hb (zD_g DX6_scans 6 rfl) rfl ?_
        refine va_get (D := D) (ci := 5) (v := .int mat_1) (C := RX6) (T := TX6) (N := 19) hx hb hts in6_scans_6 hown hK.1 hP 0 rfl rfl 10 (by decide) (hts _ (List.mem_of_getElem? (i := 1) rfl)) (fun _ h9 => h9) rfl (zD_g DX6_scans 7 rfl) ?_
        refine lv_iconst (v := (1 : Int32)) hx hb (zD_g DX6_scans 8 rfl) (by decide) ?_
        refine lv_iadd hx hb (zD_g DX6_scans 9 rfl) ?_
        refine lv_topi (fun x6 ex6 => ?_)
        replace hf := zl_s hf x6 ex6
        refine z_put (D := D) (ci := 5) (v := .int x6) (ty := .int) (C := RX6) (T := TX6) (N := 19) (ws' := (cMod cI cZ q quiet mabove mbelow typed x6 mstart mtoken mvalue many book images mkept aside refused text items drawn row best)) hx hb hts in6_scans_6 tyX6 tyX6_ok nmX6 hown hK.1 hP hD hS 0 rfl rfl 10 (by decide) (hts _ (List.mem_of_getElem? (i := 1) rfl)) (fun _ h9 => h9) rfl (tyX6_ok 10 (by decide)) rfl rfl (Nat.le_of_ble_eq_true rfl) rfl (zD_g DX6_scans 10 rfl) (fun H locs hP hD hS => ?_)
        refine lv_goto (tgt := 0) hx hb (zD_g DX6_scans 11 rfl) (by decide) ?_
        exact ih2 _ hf _ _ hP hD hS ls (lv_sub hl [0] rfl)
  refine hL2 _ (fun mat_7 hf H locs hP hD hS ls hl => ?_) _ _ hf _ _ hP hD hS ls (lv_sub hl [0] rfl)
  refine lv_aload_n hx hb (zD_g DX6_scans 12 rfl) rfl (lv_at hl 0 rfl) ?_
  refine lv_aload_n hx hb (zD_g DX6_scans 13 rfl) rfl (lv_at hl 0 rfl) ?_
  refine va_get (D := D) (ci := 5) (v := .int mat_7) (C := RX6) (T := TX6) (N := 19) hx hb hts in6_scans_6 hown hK.1 hP 0 rfl rfl 10 (by decide) (hts _ (List.mem_of_getElem? (i := 1) rfl)) (fun _ h9 => h9) rfl (zD_g DX6_scans 14 rfl) ?_
  refine z_put (D := D) (ci := 5) (v := .int mat_7) (ty := .int) (C := RX6) (T := TX6) (N := 19) (ws' := (cMod cI cZ q quiet mabove mbelow typed mat_7 mat_7 mtoken mvalue many book images mkept aside refused text items drawn row best)) hx hb hts in6_scans_6 tyX6 tyX6_ok nmX6 hown hK.1 hP hD hS 0 rfl rfl 11 (by decide) (hts _ (List.mem_of_getElem? (i := 2) rfl)) (fun _ h9 => h9) rfl (tyX6_ok 11 (by decide)) rfl rfl (Nat.le_of_ble_eq_true rfl) rfl (zD_g DX6_scans 15 rfl) (fun H locs hP hD hS => ?_)
  refine lv_aload_n hx hb (zD_g DX6_scans 16 rfl) rfl (lv_at hl 0 rfl) ?_
  refine va_get (D := D) (ci := 5) (v := .int mat_7) (C := RX6) (T := TX6) (N := 19) hx hb hts in6_scans_6 hown hK.1 hP 0 rfl rfl 10 (by decide) (hts _ (List.mem_of_getElem? (i := 1) rfl)) (fun _ h9 => h9) rfl (zD_g DX6_scans 17 rfl) ?_
  refine lv_aload_n hx hb (zD_g DX6_scans 18 rfl) rfl (lv_at hl 0 rfl) ?_
  refine va_get (D := D) (ci := 5) (v := .int typed) (C := RX6) (T := TX6) (N := 19) hx hb hts in6_scans_6 hown hK.1 hP 0 rfl rfl 9 (by decide) (hts _ (List.mem_of_getElem? (i := 3) rfl)) (fun _ h9 => h9) rfl (zD_g DX6_scans 19 rfl) ?_
  refine lv_icmp_ne (tgt := 49) hx hb (zD_g DX6_scans 20 rfl) (by decide) (fun c8 => ?_) (fun c8 => ?_)
  · replace hf := z_f c8 hf
    refine lv_aload_n hx hb (zD_g DX6_scans 25 rfl) rfl (lv_at hl 0 rfl) ?_
    refine lv_bipush (v := (97 : Int32)) hx hb (zD_g DX6_scans 26 rfl) (by decide) ?_
    refine lv_bipush (v := (122 : Int32)) hx hb (zD_g DX6_scans 27 rfl) (by decide) ?_
    obtain ⟨r9, hc10, hf⟩ := zb1_s hf
    refine z_Vp (As := [.int (97 : Int32), .int (122 : Int32)]) (rest := []) ⟨hx, hb, hml, hown, hts⟩ hK (c6_isAt (quiet := quiet) (mabove := mabove) (mbelow := mbelow) (typed := typed) (mat := mat_7) (mstart := mat_7) (mtoken := mtoken) (mvalue := mvalue) (many := many) (book := book) (images := images) (mkept := mkept) (aside := aside) (refused := refused) (text := text) (items := items) (drawn := drawn) (row := row) (best := best) (q := q) hc10) (cwV 2 hts gX6_scans_X6_isAt rfl rfl rfl hd6_isAt ⟨Nat.le_of_ble_eq_true rfl, Nat.le_of_ble_eq_true rfl⟩) hP rfl rfl rfl rfl hl.1 rfl rfl (Nat.le_of_ble_eq_true rfl) (zD_g DX6_scans 28 rfl) ⟨Nat.zero_le _, Nat.zero_le _⟩ ?_
    refine lv_if_eq (tgt := 162) hx hb (zD_g DX6_scans 29 rfl) (by decide) (fun c11 => ?_) (fun c11 => ?_)
    · replace hf := z_t c11 hf
      refine lv_aload_n hx hb (zD_g DX6_scans 88 rfl) rfl (lv_at hl 0 rfl) ?_
      refine lv_bipush (v := (48 : Int32)) hx hb (zD_g DX6_scans 89 rfl) (by decide) ?_
      refine lv_bipush (v := (57 : Int32)) hx hb (zD_g DX6_scans 90 rfl) (by decide) ?_
      obtain ⟨r12, hc13, hf⟩ := zb1_s hf
      refine z_Vp (As := [.int (48 : Int32), .int (57 : Int32)]) (rest := []) ⟨hx, hb, hml, hown, hts⟩ hK (c6_isAt (quiet := quiet) (mabove := mabove) (mbelow := mbelow) (typed := typed) (mat := mat_7) (mstart := mat_7) (mtoken := mtoken) (mvalue := mvalue) (many := many) (book := book) (images := images) (mkept := mkept) (aside := aside) (refused := refused) (text := text) (items := items) (drawn := drawn) (row := row) (best := best) (q := q) hc13) (cwV 2 hts gX6_scans_X6_isAt rfl rfl rfl hd6_isAt ⟨Nat.le_of_ble_eq_true rfl, Nat.le_of_ble_eq_true rfl⟩) hP rfl rfl rfl rfl hl.1 rfl rfl (Nat.le_of_ble_eq_true rfl) (zD_g DX6_scans 91 rfl) ⟨Nat.zero_le _, Nat.zero_le _⟩ ?_
      refine lv_if_eq (tgt := 269) hx hb (zD_g DX6_scans 92 rfl) (by decide) (fun c14 => ?_) (fun c14 => ?_)
      · replace hf := z_t c14 hf
        refine lv_aload_n hx hb (zD_g DX6_scans 145 rfl) rfl (lv_at hl 0 rfl) ?_
        refine lv_aload_n hx hb (zD_g DX6_scans 146 rfl) rfl (lv_at hl 0 rfl) ?_
        refine lv_bipush (v := (59 : Int32)) hx hb (zD_g DX6_scans 147 rfl) (by decide) ?_
        refine lv_bipush (v := (59 : Int32)) hx hb (zD_g DX6_scans 148 rfl) (by decide) ?_
        obtain ⟨r15, hc16, hf⟩ := zb1_s hf
        refine z_Vp (As := [.int (59 : Int32), .int (59 : Int32)]) (rest := [.ref (q 0)]) ⟨hx, hb, hml, hown, hts⟩ hK (c6_isAt (quiet := quiet) (mabove := mabove) (mbelow := mbelow) (typed := typed) (mat := mat_7) (mstart := mat_7) (mtoken := mtoken) (mvalue := mvalue) (many := many) (book := book) (images := images) (mkept := mkept) (aside := aside) (refused := refused) (text := text) (items := items) (drawn := drawn) (row := row) (best := best) (q := q) hc16) (cwV 2 hts gX6_scans_X6_isAt rfl rfl rfl hd6_isAt ⟨Nat.le_of_ble_eq_true rfl, Nat.le_of_ble_eq_true rfl⟩) hP rfl rfl rfl rfl hl.1 rfl rfl (Nat.le_of_ble_eq_true rfl) (zD_g DX6_scans 149 rfl) ⟨Nat.zero_le _, Nat.zero_le _⟩ ?_
        refine lv_if_eq (tgt := 285) hx hb (zD_g DX6_scans 150 rfl) (by decide) (fun c17 => ?_) (fun c17 => ?_)
        · replace hf := z_t c17 hf
          refine lv_iconst (v := (1 : Int32)) hx hb (zD_g DX6_scans 153 rfl) (by decide) ?_
          refine z_put (D := D) (ci := 5) (v := .int (1 : Int32)) (ty := .int) (C := RX6) (T := TX6) (N := 19) (ws' := (cMod cI cZ q quiet mabove mbelow typed mat_7 mat_7 (1 : Int32) mvalue many book images mkept aside refused text items drawn row best)) hx hb hts in6_scans_6 tyX6 tyX6_ok nmX6 hown hK.1 hP hD hS 0 rfl rfl 12 (by decide) (hts _ (List.mem_of_getElem? (i := 4) rfl)) (fun _ h9 => h9) rfl (tyX6_ok 12 (by decide)) rfl rfl (Nat.le_of_ble_eq_true rfl) rfl (zD_g DX6_scans 154 rfl) (fun H locs hP hD hS => ?_)
          refine lv_aload_n hx hb (zD_g DX6_scans 155 rfl) rfl (lv_at hl 0 rfl) ?_
          refine lv_dup hx hb (zD_g DX6_scans 156 rfl) rfl ?_
          refine va_get (D := D) (ci := 5) (v := .int mat_7) (C := RX6) (T := TX6) (N := 19) hx hb hts in6_scans_6 hown hK.1 hP 0 rfl rfl 10 (by decide) (hts _ (List.mem_of_getElem? (i := 1) rfl)) (fun _ h9 => h9) rfl (zD_g DX6_scans 157 rfl) ?_
          refine lv_iconst (v := (1 : Int32)) hx hb (zD_g DX6_scans 158 rfl) (by decide) ?_
          refine lv_iadd hx hb (zD_g DX6_scans 159 rfl) ?_
          refine lv_topi (fun x18 ex18 => ?_)
          replace hf := zl_s hf x18 ex18
          refine z_put (D := D) (ci := 5) (v := .int x18) (ty := .int) (C := RX6) (T := TX6) (N := 19) (ws' := (cMod cI cZ q quiet mabove mbelow typed x18 mat_7 (1 : Int32) mvalue many book images mkept aside refused text items drawn row best)) hx hb hts in6_scans_6 tyX6 tyX6_ok nmX6 hown hK.1 hP hD hS 0 rfl rfl 10 (by decide) (hts _ (List.mem_of_getElem? (i := 1) rfl)) (fun _ h9 => h9) rfl (tyX6_ok 10 (by decide)) rfl rfl (Nat.le_of_ble_eq_true rfl) rfl (zD_g DX6_scans 160 rfl) (fun H locs hP hD hS => ?_)
          cases hf
          exact hret _ _ _ _ hP hD hS (zD_g DX6_scans 161 rfl)
        · replace hf := z_f c17 hf
          refine lv_iconst (v := (3 : Int32)) hx hb (zD_g DX6_scans 151 rfl) (by decide) ?_
          refine lv_goto (tgt := 286) hx hb (zD_g DX6_scans 152 rfl) (by decide) ?_
          refine z_put (D := D) (ci := 5) (v := .int (3 : Int32)) (ty := .int) (C := RX6) (T := TX6) (N := 19) (ws' := (cMod cI cZ q quiet mabove mbelow typed mat_7 mat_7 (3 : Int32) mvalue many book images mkept aside refused text items drawn row best)) hx hb hts in6_scans_6 tyX6 tyX6_ok nmX6 hown hK.1 hP hD hS 0 rfl rfl 12 (by decide) (hts _ (List.mem_of_getElem? (i := 4) rfl)) (fun _ h9 => h9) rfl (tyX6_ok 12 (by decide)) rfl rfl (Nat.le_of_ble_eq_true rfl) rfl (zD_g DX6_scans 154 rfl) (fun H locs hP hD hS => ?_)
          refine lv_aload_n hx hb (zD_g DX6_scans 155 rfl) rfl (lv_at hl 0 rfl) ?_
          refine lv_dup hx hb (zD_g DX6_scans 156 rfl) rfl ?_
          refine va_get (D := D) (ci := 5) (v := .int mat_7) (C := RX6) (T := TX6) (N := 19) hx hb hts in6_scans_6 hown hK.1 hP 0 rfl rfl 10 (by decide) (hts _ (List.mem_of_getElem? (i := 1) rfl)) (fun _ h9 => h9) rfl (zD_g DX6_scans 157 rfl) ?_
          refine lv_iconst (v := (1 : Int32)) hx hb (zD_g DX6_scans 158 rfl) (by decide) ?_
          refine lv_iadd hx hb (zD_g DX6_scans 159 rfl) ?_
          refine lv_topi (fun x19 ex19 => ?_)
          replace hf := zl_s hf x19 ex19
          refine z_put (D := D) (ci := 5) (v := .int x19) (ty := .int) (C := RX6) (T := TX6) (N := 19) (ws' := (cMod cI cZ q quiet mabove mbelow typed x19 mat_7 (3 : Int32) mvalue many book images mkept aside refused text items drawn row best)) hx hb hts in6_scans_6 tyX6 tyX6_ok nmX6 hown hK.1 hP hD hS 0 rfl rfl 10 (by decide) (hts _ (List.mem_of_getElem? (i := 1) rfl)) (fun _ h9 => h9) rfl (tyX6_ok 10 (by decide)) rfl rfl (Nat.le_of_ble_eq_true rfl) rfl (zD_g DX6_scans 160 rfl) (fun H locs hP hD hS => ?_)
          cases hf
          exact hret _ _ _ _ hP hD hS (zD_g DX6_scans 161 rfl)
      · replace hf := z_f c14 hf
        refine lv_aload_n hx hb (zD_g DX6_scans 93 rfl) rfl (lv_at hl 0 rfl) ?_
        refine lv_iconst (v := (0 : Int32)) hx hb (zD_g DX6_scans 94 rfl) (by decide) ?_
        refine z_put (D := D) (ci := 5) (v := .int (0 : Int32)) (ty := .int) (C := RX6) (T := TX6) (N := 19) (ws' := (cMod cI cZ q quiet mabove mbelow typed mat_7 mat_7 mtoken (0 : Int32) many book images mkept aside refused text items drawn row best)) hx hb hts in6_scans_6 tyX6 tyX6_ok nmX6 hown hK.1 hP hD hS 0 rfl rfl 13 (by decide) (hts _ (List.mem_of_getElem? (i := 8) rfl)) (fun _ h9 => h9) rfl (tyX6_ok 13 (by decide)) rfl rfl (Nat.le_of_ble_eq_true rfl) rfl (zD_g DX6_scans 95 rfl) (fun H locs hP hD hS => ?_)
        have hL22 : ∀ (k22 : (Int32) → (Int32) → Option (Int32 × Int32 × Int32 × Int32)) (hk22 : ∀ (mat_31 : Int32) (mvalue_32 : Int32), k22 mat_31 mvalue_32 = some (d_mat, d_mstart, d_mtoken, d_mvalue) → ∀ (H : Heap) (locs : List Loc), va_P D vwCl (cMod cI cZ q quiet mabove mbelow typed mat_31 mat_7 mtoken mvalue_32 many book images mkept aside refused text items drawn row best) H → va_D A (cMod cI cZ q quiet mabove mbelow typed mat_31 mat_7 mtoken mvalue_32 many book images mkept aside refused text items drawn row best) → va_S A s.heap H locs → ∀ (ls : Array Slot), lv_has ls 3 [(0, .ref (q 0))] → W p l e rm6_scans s m args below meth c H locs 0 0 Q (F0 m 246 ls [])) (n22 : Nat) (mat_20 : Int32) (mvalue_21 : Int32), L6_scans_178 k22 typed text mat_7 n22 mat_20 mvalue_21 = some (d_mat, d_mstart, d_mtoken, d_mvalue) → ∀ (H : Heap) (locs : List Loc), va_P D vwCl (cMod cI cZ q quiet mabove mbelow typed mat_20 mat_7 mtoken mvalue_21 many book images mkept aside refused text items drawn row best) H → va_D A (cMod cI cZ q quiet mabove mbelow typed mat_20 mat_7 mtoken mvalue_21 many book images mkept aside refused text items drawn row best) → va_S A s.heap H locs → ∀ (ls : Array Slot), lv_has ls 3 [(0, .ref (q 0))] → W p l e rm6_scans s m args below meth c H locs 0 0 Q (F0 m 178 ls []) := by
          intro k22 hk22 n22
          induction n22 with
          | zero =>
            intro mat_20 mvalue_21 hf
            cases hf
          | succ n22 ih22 =>
            intro mat_20 mvalue_21 hf H locs hP hD hS ls hl
            rw [L6_scans_178] at hf
            refine lv_aload_n hx hb (zD_g DX6_scans 96 rfl) rfl (lv_at hl 0 rfl) ?_
            refine lv_bipush (v := (48 : Int32)) hx hb (zD_g DX6_scans 97 rfl) (by decide) ?_
            refine lv_bipush (v := (57 : Int32)) hx hb (zD_g DX6_scans 98 rfl) (by decide) ?_
            obtain ⟨r23, hc24, hf⟩ := zb1_s hf
            refine z_Vp (As := [.int (48 : Int32), .int (57 : Int32)]) (rest := []) ⟨hx, hb, hml, hown, hts⟩ hK (c6_isAt (quiet := quiet) (mabove := mabove) (mbelow := mbelow) (typed := typed) (mat := mat_20) (mstart := mat_7) (mtoken := mtoken) (mvalue := mvalue_21) (many := many) (book := book) (images := images) (mkept := mkept) (aside := aside) (refused := refused) (text := text) (items := items) (drawn := drawn) (row := row) (best := best) (q := q) hc24) (cwV 2 hts gX6_scans_X6_isAt rfl rfl rfl hd6_isAt ⟨Nat.le_of_ble_eq_true rfl, Nat.le_of_ble_eq_true rfl⟩) hP rfl rfl rfl rfl hl.1 rfl rfl (Nat.le_of_ble_eq_true rfl) (zD_g DX6_scans 99 rfl) ⟨Nat.zero_le _, Nat.zero_le _⟩ ?_
            refine lv_if_eq (tgt := 246) hx hb (zD_g DX6_scans 100 rfl) (by decide) (fun c25 => ?_) (fun c25 => ?_)
            · replace hf := z_t c25 hf
              exact hk22 _ _ hf _ _ hP hD hS ls (lv_sub hl [0] rfl)
            · replace hf := z_f c25 hf
              refine lv_aload_n hx hb (zD_g DX6_scans 101 rfl) rfl (lv_at hl 0 rfl) ?_
              refine lv_aload_n hx hb (zD_g DX6_scans 102 rfl) rfl (lv_at hl 0 rfl) ?_
              refine va_get (D := D) (ci := 5) (v := .int mat_20) (C := RX6) (T := TX6) (N := 19) hx hb hts in6_scans_6 hown hK.1 hP 0 rfl rfl 10 (by decide) (hts _ (List.mem_of_getElem? (i := 1) rfl)) (fun _ h9 => h9) rfl (zD_g DX6_scans 103 rfl) ?_
              refine lv_aload_n hx hb (zD_g DX6_scans 104 rfl) rfl (lv_at hl 0 rfl) ?_
              refine va_get (D := D) (ci := 5) (v := .int mat_7) (C := RX6) (T := TX6) (N := 19) hx hb hts in6_scans_6 hown hK.1 hP 0 rfl rfl 11 (by decide) (hts _ (List.mem_of_getElem? (i := 2) rfl)) (fun _ h9 => h9) rfl (zD_g DX6_scans 105 rfl) ?_
              refine lv_isub hx hb (zD_g DX6_scans 106 rfl) ?_
              refine lv_iconst (v := (3 : Int32)) hx hb (zD_g DX6_scans 107 rfl) (by decide) ?_
              obtain ⟨v27, hr29, hf⟩ := zb1_s hf
              have hJ29 : ∀ (H : Heap) (locs : List Loc), va_P D vwCl (cMod cI cZ q quiet mabove mbelow typed mat_20 mat_7 mtoken mvalue_21 many book images mkept aside refused text items drawn row best) H → va_D A (cMod cI cZ q quiet mabove mbelow typed mat_20 mat_7 mtoken mvalue_21 many book images mkept aside refused text items drawn row best) → va_S A s.heap H locs → ∀ (ls : Array Slot), lv_has ls 3 [(0, .ref (q 0))] → W p l e rm6_scans s m args below meth c H locs 0 0 Q (F0 m 230 ls [.int v27, .ref (q 0)]) := by
                intro H locs hP hD hS ls hl
                refine z_put (D := D) (ci := 5) (v := .int v27) (ty := .int) (C := RX6) (T := TX6) (N := 19) (ws' := (cMod cI cZ q quiet mabove mbelow typed mat_20 mat_7 mtoken v27 many book images mkept aside refused text items drawn row best)) hx hb hts in6_scans_6 tyX6 tyX6_ok nmX6 hown hK.1 hP hD hS 0 rfl rfl 13 (by decide) (hts _ (List.mem_of_getElem? (i := 8) rfl)) (fun _ h9 => h9) rfl (tyX6_ok 13 (by decide)) rfl rfl (Nat.le_of_ble_eq_true rfl) rfl (zD_g DX6_scans 124 rfl) (fun H locs hP hD hS => ?_)
                refine lv_aload_n hx hb (zD_g DX6_scans 125 rfl) rfl (lv_at hl 0 rfl) ?_
                refine lv_dup hx hb (zD_g DX6_scans 126 rfl) rfl ?_
                refine va_get (D := D) (ci := 5) (v := .int mat_20) (C := RX6) (T := TX6) (N := 19) hx hb hts in6_scans_6 hown hK.1 hP 0 rfl rfl 10 (by decide) (hts _ (List.mem_of_getElem? (i := 1) rfl)) (fun _ h9 => h9) rfl (zD_g DX6_scans 127 rfl) ?_
                refine lv_iconst (v := (1 : Int32)) hx hb (zD_g DX6_scans 128 rfl) (by decide) ?_
                refine lv_iadd hx hb (zD_g DX6_scans 129 rfl) ?_
                refine lv_topi (fun x28 ex28 => ?_)
                replace hf := zl_s hf x28 ex28
                refine z_put (D := D) (ci := 5) (v := .int x28) (ty := .int) (C := RX6) (T := TX6) (N := 19) (ws' := (cMod cI cZ q quiet mabove mbelow typed x28 mat_7 mtoken v27 many book images mkept aside refused text items drawn row best)) hx hb hts in6_scans_6 tyX6 tyX6_ok nmX6 hown hK.1 hP hD hS 0 rfl rfl 10 (by decide) (hts _ (List.mem_of_getElem? (i := 1) rfl)) (fun _ h9 => h9) rfl (tyX6_ok 10 (by decide)) rfl rfl (Nat.le_of_ble_eq_true rfl) rfl (zD_g DX6_scans 130 rfl) (fun H locs hP hD hS => ?_)
                refine lv_goto (tgt := 178) hx hb (zD_g DX6_scans 131 rfl) (by decide) ?_
                exact ih22 _ _ hf _ _ hP hD hS ls (lv_sub hl [0] rfl)
              clear hf
              have hf := hr29
              refine lv_icmp_ge (tgt := 226) hx hb (zD_g DX6_scans 108 rfl) (by decide) (fun c26 => ?_) (fun c26 => ?_)
              · replace hf := z_t c26 hf
                refine lv_aload_n hx hb (zD_g DX6_scans 122 rfl) rfl (lv_at hl 0 rfl) ?_
                refine va_get (D := D) (ci := 5) (v := .int mvalue_21) (C := RX6) (T := TX6) (N := 19) hx hb hts in6_scans_6 hown hK.1 hP 0 rfl rfl 13 (by decide) (hts _ (List.mem_of_getElem? (i := 8) rfl)) (fun _ h9 => h9) rfl (zD_g DX6_scans 123 rfl) ?_
                cases hf
                exact hJ29 _ _ hP hD hS ls (lv_sub hl [0] rfl)
              · replace hf := z_f c26 hf
                refine lv_bipush (v := (10 : Int32)) hx hb (zD_g DX6_scans 109 rfl) (by decide) ?_
                refine lv_aload_n hx hb (zD_g DX6_scans 110 rfl) rfl (lv_at hl 0 rfl) ?_
                refine va_get (D := D) (ci := 5) (v := .int mvalue_21) (C := RX6) (T := TX6) (N := 19) hx hb hts in6_scans_6 hown hK.1 hP 0 rfl rfl 13 (by decide) (hts _ (List.mem_of_getElem? (i := 8) rfl)) (fun _ h9 => h9) rfl (zD_g DX6_scans 111 rfl) ?_
                refine lv_imul hx hb (zD_g DX6_scans 112 rfl) ?_
                refine lv_aload_n hx hb (zD_g DX6_scans 113 rfl) rfl (lv_at hl 0 rfl) ?_
                refine va_get (D := D) (ci := 5) (v := .ref (q 6)) (C := RX6) (T := TX6) (N := 19) hx hb hts in6_scans_6 hown hK.1 hP 0 rfl rfl 8 (by decide) (hts _ (List.mem_of_getElem? (i := 6) rfl)) (fun _ h9 => h9) rfl (zD_g DX6_scans 114 rfl) ?_
                refine lv_aload_n hx hb (zD_g DX6_scans 115 rfl) rfl (lv_at hl 0 rfl) ?_
                refine va_get (D := D) (ci := 5) (v := .int mat_20) (C := RX6) (T := TX6) (N := 19) hx hb hts in6_scans_6 hown hK.1 hP 0 rfl rfl 10 (by decide) (hts _ (List.mem_of_getElem? (i := 1) rfl)) (fun _ h9 => h9) rfl (zD_g DX6_scans 116 rfl) ?_
                obtain ⟨h30, hf⟩ := zg_s hf
                refine z_iald (k := mat_20.toNatClampNeg) hx hb hK.1 hP 6 0 rfl rfl h30 rfl (zD_g DX6_scans 117 rfl) ?_
                refine lv_iadd hx hb (zD_g DX6_scans 118 rfl) ?_
                refine lv_bipush (v := (48 : Int32)) hx hb (zD_g DX6_scans 119 rfl) (by decide) ?_
                refine lv_isub hx hb (zD_g DX6_scans 120 rfl) ?_
                refine lv_goto (tgt := 230) hx hb (zD_g DX6_scans 121 rfl) (by decide) ?_
                cases hf
                exact hJ29 _ _ hP hD hS ls (lv_sub hl [0] rfl)
        refine hL22 _ (fun mat_31 mvalue_32 hf H locs hP hD hS ls hl => ?_) _ _ _ hf _ _ hP hD hS ls (lv_sub hl [0] rfl)
        refine lv_aload_n hx hb (zD_g DX6_scans 132 rfl) rfl (lv_at hl 0 rfl) ?_
        refine lv_aload_n hx hb (zD_g DX6_scans 133 rfl) rfl (lv_at hl 0 rfl) ?_
        refine va_get (D := D) (ci := 5) (v := .int mat_31) (C := RX6) (T := TX6) (N := 19) hx hb hts in6_scans_6 hown hK.1 hP 0 rfl rfl 10 (by decide) (hts _ (List.mem_of_getElem? (i := 1) rfl)) (fun _ h9 => h9) rfl (zD_g DX6_scans 134 rfl) ?_
        refine lv_aload_n hx hb (zD_g DX6_scans 135 rfl) rfl (lv_at hl 0 rfl) ?_
        refine va_get (D := D) (ci := 5) (v := .int mat_7) (C := RX6) (T := TX6) (N := 19) hx hb hts in6_scans_6 hown hK.1 hP 0 rfl rfl 11 (by decide) (hts _ (List.mem_of_getElem? (i := 2) rfl)) (fun _ h9 => h9) rfl (zD_g DX6_scans 136 rfl) ?_
        refine lv_isub hx hb (zD_g DX6_scans 137 rfl) ?_
        refine lv_iconst (v := (3 : Int32)) hx hb (zD_g DX6_scans 138 rfl) (by decide) ?_
        refine lv_icmp_le (tgt := 264) hx hb (zD_g DX6_scans 139 rfl) (by decide) (fun c33 => ?_) (fun c33 => ?_)
        · replace hf := z_t c33 hf
          refine lv_iconst (v := (2 : Int32)) hx hb (zD_g DX6_scans 142 rfl) (by decide) ?_
          refine z_put (D := D) (ci := 5) (v := .int (2 : Int32)) (ty := .int) (C := RX6) (T := TX6) (N := 19) (ws' := (cMod cI cZ q quiet mabove mbelow typed mat_31 mat_7 (2 : Int32) mvalue_32 many book images mkept aside refused text items drawn row best)) hx hb hts in6_scans_6 tyX6 tyX6_ok nmX6 hown hK.1 hP hD hS 0 rfl rfl 12 (by decide) (hts _ (List.mem_of_getElem? (i := 4) rfl)) (fun _ h9 => h9) rfl (tyX6_ok 12 (by decide)) rfl rfl (Nat.le_of_ble_eq_true rfl) rfl (zD_g DX6_scans 143 rfl) (fun H locs hP hD hS => ?_)
          cases hf
          exact hret _ _ _ _ hP hD hS (zD_g DX6_scans 144 rfl)
        · replace hf := z_f c33 hf
          refine lv_iconst (v := (1 : Int32)) hx hb (zD_g DX6_scans 140 rfl) (by decide) ?_
          refine lv_goto (tgt := 265) hx hb (zD_g DX6_scans 141 rfl) (by decide) ?_
          refine z_put (D := D) (ci := 5) (v := .int (1 : Int32)) (ty := .int) (C := RX6) (T := TX6) (N := 19) (ws' := (cMod cI cZ q quiet mabove mbelow typed mat_31 mat_7 (1 : Int32) mvalue_32 many book images mkept aside refused text items drawn row best)) hx hb hts in6_scans_6 tyX6 tyX6_ok nmX6 hown hK.1 hP hD hS 0 rfl rfl 12 (by decide) (hts _ (List.mem_of_getElem? (i := 4) rfl)) (fun _ h9 => h9) rfl (tyX6_ok 12 (by decide)) rfl rfl (Nat.le_of_ble_eq_true rfl) rfl (zD_g DX6_scans 143 rfl) (fun H locs hP hD hS => ?_)
          cases hf
          exact hret _ _ _ _ hP hD hS (zD_g DX6_scans 144 rfl)
    · replace hf := z_f c11 hf
      refine lv_lconst (v := (0 : Int64)) hx hb (zD_g DX6_scans 30 rfl) (by decide) ?_
      refine lv_lstore_n (lv' := [(1, .long (0 : Int64)), (0, .ref (q 0))]) hx hb (zD_g DX6_scans 31 rfl) rfl hl (by decide) rfl (fun ls hl => ?_)
      have hL36 : ∀ (k36 : Int64 → (Int32) → Option (Int32 × Int32 × Int32 × Int32)) (hk36 : ∀ (y45 : Int64) (mat_46 : Int32), k36 y45 mat_46 = some (d_mat, d_mstart, d_mtoken, d_mvalue) → ∀ (H : Heap) (locs : List Loc), va_P D vwCl (cMod cI cZ q quiet mabove mbelow typed mat_46 mat_7 mtoken mvalue many book images mkept aside refused text items drawn row best) H → va_D A (cMod cI cZ q quiet mabove mbelow typed mat_46 mat_7 mtoken mvalue many book images mkept aside refused text items drawn row best) → va_S A s.heap H locs → ∀ (ls : Array Slot), lv_has ls 3 [(0, .ref (q 0)), (1, .long y45)] → W p l e rm6_scans s m args below meth c H locs 0 0 Q (F0 m 126 ls [])) (n36 : Nat) (y34 : Int64) (mat_35 : Int32), L6_scans_62 k36 typed text mat_7 n36 y34 mat_35 = some (d_mat, d_mstart, d_mtoken, d_mvalue) → ∀ (H : Heap) (locs : List Loc), va_P D vwCl (cMod cI cZ q quiet mabove mbelow typed mat_35 mat_7 mtoken mvalue many book images mkept aside refused text items drawn row best) H → va_D A (cMod cI cZ q quiet mabove mbelow typed mat_35 mat_7 mtoken mvalue many book images mkept aside refused text items drawn row best) → va_S A s.heap H locs → ∀ (ls : Array Slot), lv_has ls 3 [(0, .ref (q 0)), (1, .long y34)] → W p l e rm6_scans s m args below meth c H locs 0 0 Q (F0 m 62 ls []) := by
        intro k36 hk36 n36
        induction n36 with
        | zero =>
          intro y34 mat_35 hf
          cases hf
        | succ n36 ih36 =>
          intro y34 mat_35 hf H locs hP hD hS ls hl
          rw [L6_scans_62] at hf
          refine lv_aload_n hx hb (zD_g DX6_scans 32 rfl) rfl (lv_at hl 0 rfl) ?_
          refine lv_bipush (v := (97 : Int32)) hx hb (zD_g DX6_scans 33 rfl) (by decide) ?_
          refine lv_bipush (v := (122 : Int32)) hx hb (zD_g DX6_scans 34 rfl) (by decide) ?_
          obtain ⟨r37, hc38, hf⟩ := zb1_s hf
          refine z_Vp (As := [.int (97 : Int32), .int (122 : Int32)]) (rest := []) ⟨hx, hb, hml, hown, hts⟩ hK (c6_isAt (quiet := quiet) (mabove := mabove) (mbelow := mbelow) (typed := typed) (mat := mat_35) (mstart := mat_7) (mtoken := mtoken) (mvalue := mvalue) (many := many) (book := book) (images := images) (mkept := mkept) (aside := aside) (refused := refused) (text := text) (items := items) (drawn := drawn) (row := row) (best := best) (q := q) hc38) (cwV 2 hts gX6_scans_X6_isAt rfl rfl rfl hd6_isAt ⟨Nat.le_of_ble_eq_true rfl, Nat.le_of_ble_eq_true rfl⟩) hP rfl rfl rfl rfl hl.1 rfl rfl (Nat.le_of_ble_eq_true rfl) (zD_g DX6_scans 35 rfl) ⟨Nat.zero_le _, Nat.zero_le _⟩ ?_
          refine lv_if_eq (tgt := 126) hx hb (zD_g DX6_scans 36 rfl) (by decide) (fun c39 => ?_) (fun c39 => ?_)
          · replace hf := z_t c39 hf
            exact hk36 _ _ hf _ _ hP hD hS ls (lv_sub hl [0, 1] rfl)
          · replace hf := z_f c39 hf
            refine lv_aload_n hx hb (zD_g DX6_scans 37 rfl) rfl (lv_at hl 0 rfl) ?_
            refine va_get (D := D) (ci := 5) (v := .int mat_35) (C := RX6) (T := TX6) (N := 19) hx hb hts in6_scans_6 hown hK.1 hP 0 rfl rfl 10 (by decide) (hts _ (List.mem_of_getElem? (i := 1) rfl)) (fun _ h9 => h9) rfl (zD_g DX6_scans 38 rfl) ?_
            refine lv_aload_n hx hb (zD_g DX6_scans 39 rfl) rfl (lv_at hl 0 rfl) ?_
            refine va_get (D := D) (ci := 5) (v := .int mat_7) (C := RX6) (T := TX6) (N := 19) hx hb hts in6_scans_6 hown hK.1 hP 0 rfl rfl 11 (by decide) (hts _ (List.mem_of_getElem? (i := 2) rfl)) (fun _ h9 => h9) rfl (zD_g DX6_scans 40 rfl) ?_
            refine lv_isub hx hb (zD_g DX6_scans 41 rfl) ?_
            refine lv_iconst (v := (4 : Int32)) hx hb (zD_g DX6_scans 42 rfl) (by decide) ?_
            obtain ⟨v41, hr43, hf⟩ := zb1_s hf
            have hJ43 : ∀ (H : Heap) (locs : List Loc), va_P D vwCl (cMod cI cZ q quiet mabove mbelow typed mat_35 mat_7 mtoken mvalue many book images mkept aside refused text items drawn row best) H → va_D A (cMod cI cZ q quiet mabove mbelow typed mat_35 mat_7 mtoken mvalue many book images mkept aside refused text items drawn row best) → va_S A s.heap H locs → ∀ (ls : Array Slot), lv_has ls 3 [(0, .ref (q 0))] → W p l e rm6_scans s m args below meth c H locs 0 0 Q (F0 m 112 ls [.long v41]) := by
              intro H locs hP hD hS ls hl
              refine lv_lstore_n (lv' := [(1, .long v41), (0, .ref (q 0))]) hx hb (zD_g DX6_scans 60 rfl) rfl hl (by decide) rfl (fun ls hl => ?_)
              refine lv_aload_n hx hb (zD_g DX6_scans 61 rfl) rfl (lv_at hl 1 rfl) ?_
              refine lv_dup hx hb (zD_g DX6_scans 62 rfl) rfl ?_
              refine va_get (D := D) (ci := 5) (v := .int mat_35) (C := RX6) (T := TX6) (N := 19) hx hb hts in6_scans_6 hown hK.1 hP 0 rfl rfl 10 (by decide) (hts _ (List.mem_of_getElem? (i := 1) rfl)) (fun _ h9 => h9) rfl (zD_g DX6_scans 63 rfl) ?_
              refine lv_iconst (v := (1 : Int32)) hx hb (zD_g DX6_scans 64 rfl) (by decide) ?_
              refine lv_iadd hx hb (zD_g DX6_scans 65 rfl) ?_
              refine lv_topi (fun x42 ex42 => ?_)
              replace hf := zl_s hf x42 ex42
              refine z_put (D := D) (ci := 5) (v := .int x42) (ty := .int) (C := RX6) (T := TX6) (N := 19) (ws' := (cMod cI cZ q quiet mabove mbelow typed x42 mat_7 mtoken mvalue many book images mkept aside refused text items drawn row best)) hx hb hts in6_scans_6 tyX6 tyX6_ok nmX6 hown hK.1 hP hD hS 0 rfl rfl 10 (by decide) (hts _ (List.mem_of_getElem? (i := 1) rfl)) (fun _ h9 => h9) rfl (tyX6_ok 10 (by decide)) rfl rfl (Nat.le_of_ble_eq_true rfl) rfl (zD_g DX6_scans 66 rfl) (fun H locs hP hD hS => ?_)
              refine lv_goto (tgt := 62) hx hb (zD_g DX6_scans 67 rfl) (by decide) ?_
              exact ih36 _ _ hf _ _ hP hD hS ls (lv_sub hl [1, 0] rfl)
            clear hf
            have hf := hr43
            refine lv_icmp_le (tgt := 90) hx hb (zD_g DX6_scans 43 rfl) (by decide) (fun c40 => ?_) (fun c40 => ?_)
            · replace hf := z_t c40 hf
              refine lv_ldc2 (v := (32 : Int64)) hx hb hown (hts _ (List.mem_of_getElem? (i := 5) rfl)) (zD_g DX6_scans 46 rfl) ?_
              refine lv_lload_n hx hb (zD_g DX6_scans 47 rfl) rfl (lv_at hl 1 rfl) ?_
              refine lv_lmul hx hb (zD_g DX6_scans 48 rfl) ?_
              refine lv_aload_n hx hb (zD_g DX6_scans 49 rfl) rfl (lv_at hl 0 rfl) ?_
              refine va_get (D := D) (ci := 5) (v := .ref (q 6)) (C := RX6) (T := TX6) (N := 19) hx hb hts in6_scans_6 hown hK.1 hP 0 rfl rfl 8 (by decide) (hts _ (List.mem_of_getElem? (i := 6) rfl)) (fun _ h9 => h9) rfl (zD_g DX6_scans 50 rfl) ?_
              refine lv_aload_n hx hb (zD_g DX6_scans 51 rfl) rfl (lv_at hl 0 rfl) ?_
              refine va_get (D := D) (ci := 5) (v := .int mat_35) (C := RX6) (T := TX6) (N := 19) hx hb hts in6_scans_6 hown hK.1 hP 0 rfl rfl 10 (by decide) (hts _ (List.mem_of_getElem? (i := 1) rfl)) (fun _ h9 => h9) rfl (zD_g DX6_scans 52 rfl) ?_
              obtain ⟨h44, hf⟩ := zg_s hf
              refine z_iald (k := mat_35.toNatClampNeg) hx hb hK.1 hP 6 0 rfl rfl h44 rfl (zD_g DX6_scans 53 rfl) ?_
              refine lv_i2l (v := ((text mat_35.toNatClampNeg)).toInt64) hx hb (zD_g DX6_scans 54 rfl) rfl ?_
              refine lv_ladd hx hb (zD_g DX6_scans 55 rfl) ?_
              refine lv_ldc2 (v := (97 : Int64)) hx hb hown (hts _ (List.mem_of_getElem? (i := 7) rfl)) (zD_g DX6_scans 56 rfl) ?_
              refine lv_lsub hx hb (zD_g DX6_scans 57 rfl) ?_
              refine lv_lconst (v := (1 : Int64)) hx hb (zD_g DX6_scans 58 rfl) (by decide) ?_
              refine lv_ladd hx hb (zD_g DX6_scans 59 rfl) ?_
              cases hf
              exact hJ43 _ _ hP hD hS ls (lv_sub hl [0] rfl)
            · replace hf := z_f c40 hf
              refine lv_lconst (v := (0 : Int64)) hx hb (zD_g DX6_scans 44 rfl) (by decide) ?_
              refine lv_goto (tgt := 112) hx hb (zD_g DX6_scans 45 rfl) (by decide) ?_
              cases hf
              exact hJ43 _ _ hP hD hS ls (lv_sub hl [0] rfl)
      refine hL36 _ (fun y45 mat_46 hf H locs hP hD hS ls hl => ?_) _ _ _ hf _ _ hP hD hS ls (lv_sub hl [1, 0] rfl)
      refine lv_aload_n hx hb (zD_g DX6_scans 68 rfl) rfl (lv_at hl 0 rfl) ?_
      refine lv_aload_n hx hb (zD_g DX6_scans 69 rfl) rfl (lv_at hl 0 rfl) ?_
      refine va_get (D := D) (ci := 5) (v := .int mat_46) (C := RX6) (T := TX6) (N := 19) hx hb hts in6_scans_6 hown hK.1 hP 0 rfl rfl 10 (by decide) (hts _ (List.mem_of_getElem? (i := 1) rfl)) (fun _ h9 => h9) rfl (zD_g DX6_scans 70 rfl) ?_
      refine lv_aload_n hx hb (zD_g DX6_scans 71 rfl) rfl (lv_at hl 0 rfl) ?_
      refine va_get (D := D) (ci := 5) (v := .int mat_7) (C := RX6) (T := TX6) (N := 19) hx hb hts in6_scans_6 hown hK.1 hP 0 rfl rfl 11 (by decide) (hts _ (List.mem_of_getElem? (i := 2) rfl)) (fun _ h9 => h9) rfl (zD_g DX6_scans 72 rfl) ?_
      refine lv_isub hx hb (zD_g DX6_scans 73 rfl) ?_
      refine lv_iconst (v := (5 : Int32)) hx hb (zD_g DX6_scans 74 rfl) (by decide) ?_
      refine lv_icmp_gt (tgt := 148) hx hb (zD_g DX6_scans 75 rfl) (by decide) (fun c47 => ?_) (fun c47 => ?_)
      · replace hf := z_t c47 hf
        refine lv_iconst (v := (1 : Int32)) hx hb (zD_g DX6_scans 80 rfl) (by decide) ?_
        refine lv_goto (tgt := 158) hx hb (zD_g DX6_scans 81 rfl) (by decide) ?_
        refine z_put (D := D) (ci := 5) (v := .int (1 : Int32)) (ty := .int) (C := RX6) (T := TX6) (N := 19) (ws' := (cMod cI cZ q quiet mabove mbelow typed mat_46 mat_7 (1 : Int32) mvalue many book images mkept aside refused text items drawn row best)) hx hb hts in6_scans_6 tyX6 tyX6_ok nmX6 hown hK.1 hP hD hS 0 rfl rfl 12 (by decide) (hts _ (List.mem_of_getElem? (i := 4) rfl)) (fun _ h9 => h9) rfl (tyX6_ok 12 (by decide)) rfl rfl (Nat.le_of_ble_eq_true rfl) rfl (zD_g DX6_scans 86 rfl) (fun H locs hP hD hS => ?_)
        cases hf
        exact hret _ _ _ _ hP hD hS (zD_g DX6_scans 87 rfl)
      · replace hf := z_f c47 hf
        refine lv_lload_n hx hb (zD_g DX6_scans 76 rfl) rfl (lv_at hl 1 rfl) ?_
        obtain ⟨r48, hc49, hf⟩ := zb1_s hf
        refine z_Sp (As := [.long y45]) (rest := [.ref (q 0)]) ⟨hx, hb, hml, hown, hts⟩ hK (c6_verbOf  hc49) (va_cwS 1 hts gX6_scans_X6_verbOf rfl rfl rfl hd6_verbOf ⟨Nat.le_of_ble_eq_true rfl, Nat.le_of_ble_eq_true rfl⟩) (hP.sub [] rfl) rfl hl.1 rfl rfl (Nat.le_of_ble_eq_true rfl) (zD_g DX6_scans 77 rfl) ⟨Nat.zero_le _, Nat.zero_le _⟩ ?_
        refine lv_iconst (v := (-1 : Int32)) hx hb (zD_g DX6_scans 78 rfl) (by decide) ?_
        refine lv_icmp_ne (tgt := 152) hx hb (zD_g DX6_scans 79 rfl) (by decide) (fun c50 => ?_) (fun c50 => ?_)
        · replace hf := z_f c50 hf
          refine lv_iconst (v := (4 : Int32)) hx hb (zD_g DX6_scans 82 rfl) (by decide) ?_
          refine lv_lload_n hx hb (zD_g DX6_scans 83 rfl) rfl (lv_at hl 1 rfl) ?_
          obtain ⟨r51, hc52, hf⟩ := zb1_s hf
          refine z_Sp (As := [.long y45]) (rest := [.int (4 : Int32), .ref (q 0)]) ⟨hx, hb, hml, hown, hts⟩ hK (c6_verbOf  hc52) (va_cwS 1 hts gX6_scans_X6_verbOf rfl rfl rfl hd6_verbOf ⟨Nat.le_of_ble_eq_true rfl, Nat.le_of_ble_eq_true rfl⟩) (hP.sub [] rfl) rfl hl.1 rfl rfl (Nat.le_of_ble_eq_true rfl) (zD_g DX6_scans 84 rfl) ⟨Nat.zero_le _, Nat.zero_le _⟩ ?_
          refine lv_iadd hx hb (zD_g DX6_scans 85 rfl) ?_
          refine lv_topi (fun x53 ex53 => ?_)
          replace hf := zl_s hf x53 ex53
          refine z_put (D := D) (ci := 5) (v := .int x53) (ty := .int) (C := RX6) (T := TX6) (N := 19) (ws' := (cMod cI cZ q quiet mabove mbelow typed mat_46 mat_7 x53 mvalue many book images mkept aside refused text items drawn row best)) hx hb hts in6_scans_6 tyX6 tyX6_ok nmX6 hown hK.1 hP hD hS 0 rfl rfl 12 (by decide) (hts _ (List.mem_of_getElem? (i := 4) rfl)) (fun _ h9 => h9) rfl (tyX6_ok 12 (by decide)) rfl rfl (Nat.le_of_ble_eq_true rfl) rfl (zD_g DX6_scans 86 rfl) (fun H locs hP hD hS => ?_)
          cases hf
          exact hret _ _ _ _ hP hD hS (zD_g DX6_scans 87 rfl)
        · replace hf := z_t c50 hf
          refine lv_iconst (v := (1 : Int32)) hx hb (zD_g DX6_scans 80 rfl) (by decide) ?_
          refine lv_goto (tgt := 158) hx hb (zD_g DX6_scans 81 rfl) (by decide) ?_
          refine z_put (D := D) (ci := 5) (v := .int (1 : Int32)) (ty := .int) (C := RX6) (T := TX6) (N := 19) (ws' := (cMod cI cZ q quiet mabove mbelow typed mat_46 mat_7 (1 : Int32) mvalue many book images mkept aside refused text items drawn row best)) hx hb hts in6_scans_6 tyX6 tyX6_ok nmX6 hown hK.1 hP hD hS 0 rfl rfl 12 (by decide) (hts _ (List.mem_of_getElem? (i := 4) rfl)) (fun _ h9 => h9) rfl (tyX6_ok 12 (by decide)) rfl rfl (Nat.le_of_ble_eq_true rfl) rfl (zD_g DX6_scans 86 rfl) (fun H locs hP hD hS => ?_)
          cases hf
          exact hret _ _ _ _ hP hD hS (zD_g DX6_scans 87 rfl)
  · replace hf := z_t c8 hf
    refine lv_aload_n hx hb (zD_g DX6_scans 21 rfl) rfl (lv_at hl 0 rfl) ?_
    refine lv_iconst (v := (0 : Int32)) hx hb (zD_g DX6_scans 22 rfl) (by decide) ?_
    refine z_put (D := D) (ci := 5) (v := .int (0 : Int32)) (ty := .int) (C := RX6) (T := TX6) (N := 19) (ws' := (cMod cI cZ q quiet mabove mbelow typed mat_7 mat_7 (0 : Int32) mvalue many book images mkept aside refused text items drawn row best)) hx hb hts in6_scans_6 tyX6 tyX6_ok nmX6 hown hK.1 hP hD hS 0 rfl rfl 12 (by decide) (hts _ (List.mem_of_getElem? (i := 4) rfl)) (fun _ h9 => h9) rfl (tyX6_ok 12 (by decide)) rfl rfl (Nat.le_of_ble_eq_true rfl) rfl (zD_g DX6_scans 23 rfl) (fun H locs hP hD hS => ?_)
    cases hf
    exact hret _ _ _ _ hP hD hS (zD_g DX6_scans 24 rfl)
abbrev dlX6_numbers : List (Nat × Instr × Nat) := [(0, .iload_n 0, 1), (1, .iconst 2, 1), (2, .if_icmp .ge 7, 3), (5, .iconst 4, 1), (6, .goto 14, 3), (9, .iload_n 0, 1), (10, .bipush 6, 2), (12, .if_icmp .ne 7, 3), (15, .iconst 3, 1), (16, .goto 4, 3), (19, .iconst 2, 1), (20, .ireturn, 1)]
theorem DX6_numbers : zD cX6_numbers dlX6_numbers = true := by decide +kernel
theorem hd6_numbers : yX6_numbers.cls ≠ "java/lang/invoke/MethodHandle" ∧ yX6_numbers.cls ≠ "java/lang/invoke/VarHandle" ∧ (parseMethodDescriptor yX6_numbers.desc).map (fun d => d.parameters.length) = some 1 := by decide +kernel
abbrev rm6_numbers : Room := { frames := 0, cells := 0, slots := 0, locals := 0 }
set_option maxHeartbeats 4000000 in
set_option maxRecDepth 100000 in
theorem c6_numbers {l : Launch} {D : va_G} {cI cZ cB : ClassId}   {a_verb : Int32} {r : Int32}  (hf : f6_numbers a_verb = some r) : Met l yX6_numbers wsX6_numbers rm6_numbers (zPp D cI cZ cB [.int a_verb] ([] : va_W)) (zQp (some (.int r))) 0 0 (fun _ => False) := by
  unfold f6_numbers at hf
  refine z_pureI RX6 (by decide +kernel) rfl rfl (Nat.le_of_ble_eq_true rfl) ?_
  intro p e s m args below meth c Q ls hx hb hml hown hts hK hP hret hl
  have hl : lv_has ls 1 [(0, .int a_verb)] := hl
  refine lv_iload_n hx hb (zD_g DX6_numbers 0 rfl) rfl (lv_at hl 0 rfl) ?_
  refine lv_iconst (v := (2 : Int32)) hx hb (zD_g DX6_numbers 1 rfl) (by decide) ?_
  refine lv_icmp_ge (tgt := 9) hx hb (zD_g DX6_numbers 2 rfl) (by decide) (fun c1 => ?_) (fun c1 => ?_)
  · replace hf := z_t c1 hf
    refine lv_iload_n hx hb (zD_g DX6_numbers 5 rfl) rfl (lv_at hl 0 rfl) ?_
    refine lv_bipush (v := (6 : Int32)) hx hb (zD_g DX6_numbers 6 rfl) (by decide) ?_
    refine lv_icmp_ne (tgt := 19) hx hb (zD_g DX6_numbers 7 rfl) (by decide) (fun c2 => ?_) (fun c2 => ?_)
    · replace hf := z_f c2 hf
      refine lv_iconst (v := (2 : Int32)) hx hb (zD_g DX6_numbers 10 rfl) (by decide) ?_
      cases hf
      exact hret _ _ (zD_g DX6_numbers 11 rfl)
    · replace hf := z_t c2 hf
      refine lv_iconst (v := (3 : Int32)) hx hb (zD_g DX6_numbers 8 rfl) (by decide) ?_
      refine lv_goto (tgt := 20) hx hb (zD_g DX6_numbers 9 rfl) (by decide) ?_
      cases hf
      exact hret _ _ (zD_g DX6_numbers 11 rfl)
  · replace hf := z_f c1 hf
    refine lv_iconst (v := (4 : Int32)) hx hb (zD_g DX6_numbers 3 rfl) (by decide) ?_
    refine lv_goto (tgt := 20) hx hb (zD_g DX6_numbers 4 rfl) (by decide) ?_
    cases hf
    exact hret _ _ (zD_g DX6_numbers 11 rfl)
abbrev dlX6_reads : List (Nat × Instr × Nat) := [(0, .aload_n 0, 1), (1, .iconst 0, 1), (2, .putfield 114, 3), (5, .aload_n 0, 1), (6, .iconst 0, 1), (7, .putfield 152, 3), (10, .aload_n 0, 1), (11, .invokevirtual 155, 3), (14, .aload_n 0, 1), (15, .getfield 138, 3), (18, .ifCond .eq 108, 3), (21, .aload_n 0, 1), (22, .getfield 138, 3), (25, .iconst 4, 1), (26, .isub, 1), (27, .istore_n 1, 1), (28, .iload_n 1, 1), (29, .ifCond .ge 5, 3), (32, .iconst 0, 1), (33, .ireturn, 1), (34, .aload_n 0, 1), (35, .getfield 29, 3), (38, .iconst 5, 1), (39, .aload_n 0, 1), (40, .getfield 152, 3), (43, .imul, 1), (44, .iload_n 1, 1), (45, .iastore, 1), (46, .aload_n 0, 1), (47, .invokevirtual 155, 3), (50, .iconst 0, 1), (51, .istore_n 2, 1), (52, .iload_n 2, 1), (53, .iload_n 1, 1), (54, .invokestatic 158, 3), (57, .if_icmp .ge 42, 3), (60, .aload_n 0, 1), (61, .getfield 138, 3), (64, .iconst 2, 1), (65, .if_icmp .eq 5, 3), (68, .iconst 0, 1), (69, .ireturn, 1), (70, .aload_n 0, 1), (71, .getfield 29, 3), (74, .iconst 5, 1), (75, .aload_n 0, 1), (76, .getfield 152, 3), (79, .imul, 1), (80, .iconst 1, 1), (81, .iadd, 1), (82, .iload_n 2, 1), (83, .iadd, 1), (84, .aload_n 0, 1), (85, .getfield 149, 3), (88, .iastore, 1), (89, .aload_n 0, 1), (90, .invokevirtual 155, 3), (93, .iinc 2 1, 3), (96, .goto (-44), 3), (99, .aload_n 0, 1), (100, .getfield 138, 3), (103, .iconst 3, 1), (104, .if_icmp .eq 5, 3), (107, .iconst 0, 1), (108, .ireturn, 1), (109, .aload_n 0, 1), (110, .dup, 1), (111, .getfield 152, 3), (114, .iconst 1, 1), (115, .iadd, 1), (116, .putfield 152, 3), (119, .aload_n 0, 1), (120, .invokevirtual 155, 3), (123, .goto (-109), 3), (126, .iconst 1, 1), (127, .ireturn, 1)]
theorem DX6_reads : zD cX6_reads dlX6_reads = true := by decide +kernel
set_option maxRecDepth 20000 in
theorem ggX6_reads_X6_scans : GoodIn wsX6_reads wsX6_scans := goodIn_r _ [10, 1, 11, 12, 3, 13, 14, 15, 5, 16, 17, 18, 9, 19, 20, 21, 22, 23, 24, 25, 26, 27, 28, 29, 30, 31, 32, 36, 37, 38, 39, 40, 41, 42, 43, 44, 45, 46, 47, 48, 49, 50, 51, 52, 53, 54] (by decide +kernel) (by decide +kernel)
set_option maxRecDepth 20000 in
theorem gX6_reads_X6_scans : GoodIn wsX6_reads (wsV RX6 155 RX6 yX6_scans wsX6_scans) := goodIn_app (goodIn_of _ (by decide +kernel)) ggX6_reads_X6_scans
set_option maxRecDepth 20000 in
theorem ggX6_reads_X6_numbers : GoodIn wsX6_reads wsX6_numbers := goodIn_r _ [35] (by decide +kernel) (by decide +kernel)
set_option maxRecDepth 20000 in
theorem gX6_reads_X6_numbers : GoodIn wsX6_reads (va_wsS RX6 158 yX6_numbers wsX6_numbers) := goodIn_app (goodIn_of _ (by decide +kernel)) ggX6_reads_X6_numbers
theorem hd6_reads : yX6_reads.cls = RX6 ∧ yX6_reads.cls ≠ "java/lang/invoke/MethodHandle" ∧ yX6_reads.cls ≠ "java/lang/invoke/VarHandle" ∧ (parseMethodDescriptor yX6_reads.desc).map (fun d => d.parameters.length) = some 0 := by decide +kernel
abbrev rm6_reads : Room := { frames := 3, cells := 0, slots := 0, locals := 69 }
theorem in6_reads_6 : ∀ w ∈ wsX60, w ∈ wsX6_reads := fun w h => List.mem_cons_of_mem _ (List.mem_append_right _ h)
set_option maxHeartbeats 4000000 in
set_option maxRecDepth 100000 in
theorem c6_reads {l : Launch} {D : va_G} {cI cZ cB : ClassId} {q : Nat → Nat} {sz : Nat} {quiet : Int32} {mabove : Int64} {mbelow : Int64} {typed : Int32} {mat : Int32} {mstart : Int32} {mtoken : Int32} {mvalue : Int32} {many : Int32} {book : Nat → Int32} {images : Nat → Int32} {mkept : Nat → Int32} {aside : Nat → Int32} {refused : Nat → Int32} {text : Nat → Int32} {items : Nat → Int32} {drawn : Nat → Int32} {row : Nat → Int32} {best : Nat → Int32}  {r : Int32} {d_mat : Int32} {d_mstart : Int32} {d_mtoken : Int32} {d_mvalue : Int32} {d_many : Int32} {d_items : Nat → Int32} (hf : f6_reads typed mat mstart mtoken mvalue many text items = some (r, d_mat, d_mstart, d_mtoken, d_mvalue, d_many, d_items)) : Met l yX6_reads wsX6_reads rm6_reads (zPm D cI cZ cB [.ref (q 0)] sz (cMod cI cZ q quiet mabove mbelow typed mat mstart mtoken mvalue many book images mkept aside refused text items drawn row best)) (zQm D (some (.int r)) (cMod cI cZ q quiet mabove mbelow typed d_mat d_mstart d_mtoken d_mvalue d_many book images mkept aside refused text d_items drawn row best) (va_A (cMod cI cZ q quiet mabove mbelow typed mat mstart mtoken mvalue many book images mkept aside refused text items drawn row best) sz)) 0 0 (va_A (cMod cI cZ q quiet mabove mbelow typed mat mstart mtoken mvalue many book images mkept aside refused text items drawn row best) sz) := by
  unfold f6_reads at hf
  refine z_mutZ RX6 (by decide +kernel) rfl rfl (Nat.le_of_ble_eq_true rfl) ?_
  intro p e s m args below meth c Q A ls hx hb hml hown hts hK hP hD hS hA hret hl
  have hl : lv_has ls 3 [(0, .ref (q 0))] := hl
  refine lv_aload_n hx hb (zD_g DX6_reads 0 rfl) rfl (lv_at hl 0 rfl) ?_
  refine lv_iconst (v := (0 : Int32)) hx hb (zD_g DX6_reads 1 rfl) (by decide) ?_
  refine z_put (D := D) (ci := 5) (v := .int (0 : Int32)) (ty := .int) (C := RX6) (T := TX6) (N := 19) (ws' := (cMod cI cZ q quiet mabove mbelow typed (0 : Int32) mstart mtoken mvalue many book images mkept aside refused text items drawn row best)) hx hb hts in6_reads_6 tyX6 tyX6_ok nmX6 hown hK.1 hP hD hS 0 rfl rfl 10 (by decide) (hts _ (List.mem_of_getElem? (i := 1) rfl)) (fun _ h9 => h9) rfl (tyX6_ok 10 (by decide)) rfl rfl (Nat.le_of_ble_eq_true rfl) rfl (zD_g DX6_reads 2 rfl) (fun H locs hP hD hS => ?_)
  refine lv_aload_n hx hb (zD_g DX6_reads 3 rfl) rfl (lv_at hl 0 rfl) ?_
  refine lv_iconst (v := (0 : Int32)) hx hb (zD_g DX6_reads 4 rfl) (by decide) ?_
  refine z_put (D := D) (ci := 5) (v := .int (0 : Int32)) (ty := .int) (C := RX6) (T := TX6) (N := 19) (ws' := (cMod cI cZ q quiet mabove mbelow typed (0 : Int32) mstart mtoken mvalue (0 : Int32) book images mkept aside refused text items drawn row best)) hx hb hts in6_reads_6 tyX6 tyX6_ok nmX6 hown hK.1 hP hD hS 0 rfl rfl 15 (by decide) (hts _ (List.mem_of_getElem? (i := 2) rfl)) (fun _ h9 => h9) rfl (tyX6_ok 15 (by decide)) rfl rfl (Nat.le_of_ble_eq_true rfl) rfl (zD_g DX6_reads 5 rfl) (fun H locs hP hD hS => ?_)
  refine lv_aload_n hx hb (zD_g DX6_reads 6 rfl) rfl (lv_at hl 0 rfl) ?_
  obtain ⟨mat_1, mstart_2, mtoken_3, mvalue_4, hc5, hf⟩ := zb4_s hf
  refine z_Vm (As := []) (rest := []) (ws' := (cMod cI cZ q quiet mabove mbelow typed mat_1 mstart_2 mtoken_3 mvalue_4 (0 : Int32) book images mkept aside refused text items drawn row best)) ⟨hx, hb, hml, hown, hts⟩ hK (c6_scans (quiet := quiet) (mabove := mabove) (mbelow := mbelow) (typed := typed) (mat := (0 : Int32)) (mstart := mstart) (mtoken := mtoken) (mvalue := mvalue) (many := (0 : Int32)) (book := book) (images := images) (mkept := mkept) (aside := aside) (refused := refused) (text := text) (items := items) (drawn := drawn) (row := row) (best := best) (q := q) hc5) (cwV 0 hts gX6_reads_X6_scans rfl rfl rfl hd6_scans ⟨Nat.le_of_ble_eq_true rfl, Nat.le_of_ble_eq_true rfl⟩) hP hD hS hA 11 [0, 1, 2, 3, 4, 5, 6, 7, 8, 9, 10] [] [0, 1, 2, 3, 4, 5, 6, 7, 8, 9, 10] (by decide +kernel) rfl rfl rfl rfl rfl rfl rfl hl.1 rfl rfl (Nat.le_of_ble_eq_true rfl) (zD_g DX6_reads 7 rfl) ⟨Nat.zero_le _, Nat.zero_le _⟩ (fun H locs hP hD hS => ?_)
  have hL12 : ∀ (k12 : (Int32) → (Int32) → (Int32) → (Int32) → (Int32) → (Nat → Int32) → Option (Int32 × Int32 × Int32 × Int32 × Int32 × Int32 × (Nat → Int32))) (hk12 : ∀ (mat_51 : Int32) (mstart_52 : Int32) (mtoken_53 : Int32) (mvalue_54 : Int32) (many_55 : Int32) (items_56 : Nat → Int32), k12 mat_51 mstart_52 mtoken_53 mvalue_54 many_55 items_56 = some (r, d_mat, d_mstart, d_mtoken, d_mvalue, d_many, d_items) → ∀ (H : Heap) (locs : List Loc), va_P D vwCl (cMod cI cZ q quiet mabove mbelow typed mat_51 mstart_52 mtoken_53 mvalue_54 many_55 book images mkept aside refused text items_56 drawn row best) H → va_D A (cMod cI cZ q quiet mabove mbelow typed mat_51 mstart_52 mtoken_53 mvalue_54 many_55 book images mkept aside refused text items_56 drawn row best) → va_S A s.heap H locs → ∀ (ls : Array Slot), lv_has ls 3 [] → W p l e rm6_reads s m args below meth c H locs 0 0 Q (F0 m 126 ls [])) (n12 : Nat) (mat_6 : Int32) (mstart_7 : Int32) (mtoken_8 : Int32) (mvalue_9 : Int32) (many_10 : Int32) (items_11 : Nat → Int32), L6_reads_14 k12 typed text n12 mat_6 mstart_7 mtoken_8 mvalue_9 many_10 items_11 = some (r, d_mat, d_mstart, d_mtoken, d_mvalue, d_many, d_items) → ∀ (H : Heap) (locs : List Loc), va_P D vwCl (cMod cI cZ q quiet mabove mbelow typed mat_6 mstart_7 mtoken_8 mvalue_9 many_10 book images mkept aside refused text items_11 drawn row best) H → va_D A (cMod cI cZ q quiet mabove mbelow typed mat_6 mstart_7 mtoken_8 mvalue_9 many_10 book images mkept aside refused text items_11 drawn row best) → va_S A s.heap H locs → ∀ (ls : Array Slot), lv_has ls 3 [(0, .ref (q 0))] → W p l e rm6_reads s m args below meth c H locs 0 0 Q (F0 m 14 ls []) := by
    intro k12 hk12 n12
    induction n12 with
    | zero =>
      intro mat_6 mstart_7 mtoken_8 mvalue_9 many_10 items_11 hf
      cases hf
    | succ n12 ih12 =>
      intro mat_6 mstart_7 mtoken_8 mvalue_9 many_10 items_11 hf H locs hP hD hS ls hl
      rw [L6_reads_14] at hf
      refine lv_aload_n hx hb (zD_g DX6_reads 8 rfl) rfl (lv_at hl 0 rfl) ?_
      refine va_get (D := D) (ci := 5) (v := .int mtoken_8) (C := RX6) (T := TX6) (N := 19) hx hb hts in6_reads_6 hown hK.1 hP 0 rfl rfl 12 (by decide) (hts _ (List.mem_of_getElem? (i := 3) rfl)) (fun _ h9 => h9) rfl (zD_g DX6_reads 9 rfl) ?_
      refine lv_if_eq (tgt := 126) hx hb (zD_g DX6_reads 10 rfl) (by decide) (fun c13 => ?_) (fun c13 => ?_)
      · replace hf := z_t c13 hf
        exact hk12 _ _ _ _ _ _ hf _ _ hP hD hS ls (lv_sub hl [] rfl)
      · replace hf := z_f c13 hf
        refine lv_aload_n hx hb (zD_g DX6_reads 11 rfl) rfl (lv_at hl 0 rfl) ?_
        refine va_get (D := D) (ci := 5) (v := .int mtoken_8) (C := RX6) (T := TX6) (N := 19) hx hb hts in6_reads_6 hown hK.1 hP 0 rfl rfl 12 (by decide) (hts _ (List.mem_of_getElem? (i := 3) rfl)) (fun _ h9 => h9) rfl (zD_g DX6_reads 12 rfl) ?_
        refine lv_iconst (v := (4 : Int32)) hx hb (zD_g DX6_reads 13 rfl) (by decide) ?_
        refine lv_isub hx hb (zD_g DX6_reads 14 rfl) ?_
        refine lv_topi (fun x14 ex14 => ?_)
        replace hf := zl_s hf x14 ex14
        refine lv_istore_n (lv' := [(1, .int x14), (0, .ref (q 0))]) hx hb (zD_g DX6_reads 15 rfl) rfl hl (by decide) rfl (fun ls hl => ?_)
        refine lv_iload_n hx hb (zD_g DX6_reads 16 rfl) rfl (lv_at hl 0 rfl) ?_
        refine lv_if_ge (tgt := 34) hx hb (zD_g DX6_reads 17 rfl) (by decide) (fun c15 => ?_) (fun c15 => ?_)
        · replace hf := z_t c15 hf
          refine lv_aload_n hx hb (zD_g DX6_reads 20 rfl) rfl (lv_at hl 1 rfl) ?_
          refine va_get (D := D) (ci := 5) (v := .ref (q 7)) (C := RX6) (T := TX6) (N := 19) hx hb hts in6_reads_6 hown hK.1 hP 0 rfl rfl 14 (by decide) (hts _ (List.mem_of_getElem? (i := 4) rfl)) (fun _ h9 => h9) rfl (zD_g DX6_reads 21 rfl) ?_
          refine lv_iconst (v := (5 : Int32)) hx hb (zD_g DX6_reads 22 rfl) (by decide) ?_
          refine lv_aload_n hx hb (zD_g DX6_reads 23 rfl) rfl (lv_at hl 1 rfl) ?_
          refine va_get (D := D) (ci := 5) (v := .int many_10) (C := RX6) (T := TX6) (N := 19) hx hb hts in6_reads_6 hown hK.1 hP 0 rfl rfl 15 (by decide) (hts _ (List.mem_of_getElem? (i := 2) rfl)) (fun _ h9 => h9) rfl (zD_g DX6_reads 24 rfl) ?_
          refine lv_imul hx hb (zD_g DX6_reads 25 rfl) ?_
          refine lv_iload_n hx hb (zD_g DX6_reads 26 rfl) rfl (lv_at hl 0 rfl) ?_
          obtain ⟨h16, hf⟩ := zg_s hf
          refine z_iast (k := ((5 : Int32) * many_10).toNatClampNeg) (ws' := (cMod cI cZ q quiet mabove mbelow typed mat_6 mstart_7 mtoken_8 mvalue_9 many_10 book images mkept aside refused text (upd items_11 (((5 : Int32) * many_10).toNatClampNeg) x14) drawn row best)) hx hb hK.1 hP hD hS 7 0 rfl rfl h16 rfl rfl (zD_g DX6_reads 27 rfl) (fun H locs hP hD hS => ?_)
          refine lv_aload_n hx hb (zD_g DX6_reads 28 rfl) rfl (lv_at hl 1 rfl) ?_
          obtain ⟨mat_17, mstart_18, mtoken_19, mvalue_20, hc21, hf⟩ := zb4_s hf
          refine z_Vm (As := []) (rest := []) (ws' := (cMod cI cZ q quiet mabove mbelow typed mat_17 mstart_18 mtoken_19 mvalue_20 many_10 book images mkept aside refused text (upd items_11 (((5 : Int32) * many_10).toNatClampNeg) x14) drawn row best)) ⟨hx, hb, hml, hown, hts⟩ hK (c6_scans (quiet := quiet) (mabove := mabove) (mbelow := mbelow) (typed := typed) (mat := mat_6) (mstart := mstart_7) (mtoken := mtoken_8) (mvalue := mvalue_9) (many := many_10) (book := book) (images := images) (mkept := mkept) (aside := aside) (refused := refused) (text := text) (items := (upd items_11 (((5 : Int32) * many_10).toNatClampNeg) x14)) (drawn := drawn) (row := row) (best := best) (q := q) hc21) (cwV 0 hts gX6_reads_X6_scans rfl rfl rfl hd6_scans ⟨Nat.le_of_ble_eq_true rfl, Nat.le_of_ble_eq_true rfl⟩) hP hD hS hA 11 [0, 1, 2, 3, 4, 5, 6, 7, 8, 9, 10] [] [0, 1, 2, 3, 4, 5, 6, 7, 8, 9, 10] (by decide +kernel) rfl rfl rfl rfl rfl rfl rfl hl.1 rfl rfl (Nat.le_of_ble_eq_true rfl) (zD_g DX6_reads 29 rfl) ⟨Nat.zero_le _, Nat.zero_le _⟩ (fun H locs hP hD hS => ?_)
          refine lv_iconst (v := (0 : Int32)) hx hb (zD_g DX6_reads 30 rfl) (by decide) ?_
          refine lv_istore_n (lv' := [(2, .int (0 : Int32)), (1, .int x14), (0, .ref (q 0))]) hx hb (zD_g DX6_reads 31 rfl) rfl hl (by decide) rfl (fun ls hl => ?_)
          have hL28 : ∀ (k28 : (Int32) → (Int32) → (Int32) → (Int32) → (Nat → Int32) → Option (Int32 × Int32 × Int32 × Int32 × Int32 × Int32 × (Nat → Int32))) (hk28 : ∀ (mat_39 : Int32) (mstart_40 : Int32) (mtoken_41 : Int32) (mvalue_42 : Int32) (items_43 : Nat → Int32), k28 mat_39 mstart_40 mtoken_41 mvalue_42 items_43 = some (r, d_mat, d_mstart, d_mtoken, d_mvalue, d_many, d_items) → ∀ (H : Heap) (locs : List Loc), va_P D vwCl (cMod cI cZ q quiet mabove mbelow typed mat_39 mstart_40 mtoken_41 mvalue_42 many_10 book images mkept aside refused text items_43 drawn row best) H → va_D A (cMod cI cZ q quiet mabove mbelow typed mat_39 mstart_40 mtoken_41 mvalue_42 many_10 book images mkept aside refused text items_43 drawn row best) → va_S A s.heap H locs → ∀ (ls : Array Slot), lv_has ls 3 [(0, .ref (q 0))] → W p l e rm6_reads s m args below meth c H locs 0 0 Q (F0 m 99 ls [])) (n28 : Nat) (y22 : Int32) (mat_23 : Int32) (mstart_24 : Int32) (mtoken_25 : Int32) (mvalue_26 : Int32) (items_27 : Nat → Int32), L6_reads_52 k28 typed text many_10 x14 n28 y22 mat_23 mstart_24 mtoken_25 mvalue_26 items_27 = some (r, d_mat, d_mstart, d_mtoken, d_mvalue, d_many, d_items) → ∀ (H : Heap) (locs : List Loc), va_P D vwCl (cMod cI cZ q quiet mabove mbelow typed mat_23 mstart_24 mtoken_25 mvalue_26 many_10 book images mkept aside refused text items_27 drawn row best) H → va_D A (cMod cI cZ q quiet mabove mbelow typed mat_23 mstart_24 mtoken_25 mvalue_26 many_10 book images mkept aside refused text items_27 drawn row best) → va_S A s.heap H locs → ∀ (ls : Array Slot), lv_has ls 3 [(0, .ref (q 0)), (1, .int x14), (2, .int y22)] → W p l e rm6_reads s m args below meth c H locs 0 0 Q (F0 m 52 ls []) := by
            intro k28 hk28 n28
            induction n28 with
            | zero =>
              intro y22 mat_23 mstart_24 mtoken_25 mvalue_26 items_27 hf
              cases hf
            | succ n28 ih28 =>
              intro y22 mat_23 mstart_24 mtoken_25 mvalue_26 items_27 hf H locs hP hD hS ls hl
              rw [L6_reads_52] at hf
              refine lv_iload_n hx hb (zD_g DX6_reads 32 rfl) rfl (lv_at hl 2 rfl) ?_
              refine lv_iload_n hx hb (zD_g DX6_reads 33 rfl) rfl (lv_at hl 1 rfl) ?_
              obtain ⟨r29, hc30, hf⟩ := zb1_s hf
              refine z_Sp (As := [.int x14]) (rest := [.int y22]) ⟨hx, hb, hml, hown, hts⟩ hK (c6_numbers  hc30) (va_cwS 1 hts gX6_reads_X6_numbers rfl rfl rfl hd6_numbers ⟨Nat.le_of_ble_eq_true rfl, Nat.le_of_ble_eq_true rfl⟩) (hP.sub [] rfl) rfl hl.1 rfl rfl (Nat.le_of_ble_eq_true rfl) (zD_g DX6_reads 34 rfl) ⟨Nat.zero_le _, Nat.zero_le _⟩ ?_
              refine lv_icmp_ge (tgt := 99) hx hb (zD_g DX6_reads 35 rfl) (by decide) (fun c31 => ?_) (fun c31 => ?_)
              · replace hf := z_t c31 hf
                exact hk28 _ _ _ _ _ hf _ _ hP hD hS ls (lv_sub hl [0] rfl)
              · replace hf := z_f c31 hf
                refine lv_aload_n hx hb (zD_g DX6_reads 36 rfl) rfl (lv_at hl 0 rfl) ?_
                refine va_get (D := D) (ci := 5) (v := .int mtoken_25) (C := RX6) (T := TX6) (N := 19) hx hb hts in6_reads_6 hown hK.1 hP 0 rfl rfl 12 (by decide) (hts _ (List.mem_of_getElem? (i := 3) rfl)) (fun _ h9 => h9) rfl (zD_g DX6_reads 37 rfl) ?_
                refine lv_iconst (v := (2 : Int32)) hx hb (zD_g DX6_reads 38 rfl) (by decide) ?_
                refine lv_icmp_eq (tgt := 70) hx hb (zD_g DX6_reads 39 rfl) (by decide) (fun c32 => ?_) (fun c32 => ?_)
                · replace hf := z_t c32 hf
                  refine lv_aload_n hx hb (zD_g DX6_reads 42 rfl) rfl (lv_at hl 0 rfl) ?_
                  refine va_get (D := D) (ci := 5) (v := .ref (q 7)) (C := RX6) (T := TX6) (N := 19) hx hb hts in6_reads_6 hown hK.1 hP 0 rfl rfl 14 (by decide) (hts _ (List.mem_of_getElem? (i := 4) rfl)) (fun _ h9 => h9) rfl (zD_g DX6_reads 43 rfl) ?_
                  refine lv_iconst (v := (5 : Int32)) hx hb (zD_g DX6_reads 44 rfl) (by decide) ?_
                  refine lv_aload_n hx hb (zD_g DX6_reads 45 rfl) rfl (lv_at hl 0 rfl) ?_
                  refine va_get (D := D) (ci := 5) (v := .int many_10) (C := RX6) (T := TX6) (N := 19) hx hb hts in6_reads_6 hown hK.1 hP 0 rfl rfl 15 (by decide) (hts _ (List.mem_of_getElem? (i := 2) rfl)) (fun _ h9 => h9) rfl (zD_g DX6_reads 46 rfl) ?_
                  refine lv_imul hx hb (zD_g DX6_reads 47 rfl) ?_
                  refine lv_iconst (v := (1 : Int32)) hx hb (zD_g DX6_reads 48 rfl) (by decide) ?_
                  refine lv_iadd hx hb (zD_g DX6_reads 49 rfl) ?_
                  refine lv_iload_n hx hb (zD_g DX6_reads 50 rfl) rfl (lv_at hl 2 rfl) ?_
                  refine lv_iadd hx hb (zD_g DX6_reads 51 rfl) ?_
                  refine lv_aload_n hx hb (zD_g DX6_reads 52 rfl) rfl (lv_at hl 0 rfl) ?_
                  refine va_get (D := D) (ci := 5) (v := .int mvalue_26) (C := RX6) (T := TX6) (N := 19) hx hb hts in6_reads_6 hown hK.1 hP 0 rfl rfl 13 (by decide) (hts _ (List.mem_of_getElem? (i := 5) rfl)) (fun _ h9 => h9) rfl (zD_g DX6_reads 53 rfl) ?_
                  obtain ⟨h33, hf⟩ := zg_s hf
                  refine z_iast (k := ((((5 : Int32) * many_10) + (1 : Int32)) + y22).toNatClampNeg) (ws' := (cMod cI cZ q quiet mabove mbelow typed mat_23 mstart_24 mtoken_25 mvalue_26 many_10 book images mkept aside refused text (upd items_27 (((((5 : Int32) * many_10) + (1 : Int32)) + y22).toNatClampNeg) mvalue_26) drawn row best)) hx hb hK.1 hP hD hS 7 0 rfl rfl h33 rfl rfl (zD_g DX6_reads 54 rfl) (fun H locs hP hD hS => ?_)
                  refine lv_aload_n hx hb (zD_g DX6_reads 55 rfl) rfl (lv_at hl 0 rfl) ?_
                  obtain ⟨mat_34, mstart_35, mtoken_36, mvalue_37, hc38, hf⟩ := zb4_s hf
                  refine z_Vm (As := []) (rest := []) (ws' := (cMod cI cZ q quiet mabove mbelow typed mat_34 mstart_35 mtoken_36 mvalue_37 many_10 book images mkept aside refused text (upd items_27 (((((5 : Int32) * many_10) + (1 : Int32)) + y22).toNatClampNeg) mvalue_26) drawn row best)) ⟨hx, hb, hml, hown, hts⟩ hK (c6_scans (quiet := quiet) (mabove := mabove) (mbelow := mbelow) (typed := typed) (mat := mat_23) (mstart := mstart_24) (mtoken := mtoken_25) (mvalue := mvalue_26) (many := many_10) (book := book) (images := images) (mkept := mkept) (aside := aside) (refused := refused) (text := text) (items := (upd items_27 (((((5 : Int32) * many_10) + (1 : Int32)) + y22).toNatClampNeg) mvalue_26)) (drawn := drawn) (row := row) (best := best) (q := q) hc38) (cwV 0 hts gX6_reads_X6_scans rfl rfl rfl hd6_scans ⟨Nat.le_of_ble_eq_true rfl, Nat.le_of_ble_eq_true rfl⟩) hP hD hS hA 11 [0, 1, 2, 3, 4, 5, 6, 7, 8, 9, 10] [] [0, 1, 2, 3, 4, 5, 6, 7, 8, 9, 10] (by decide +kernel) rfl rfl rfl rfl rfl rfl rfl hl.1 rfl rfl (Nat.le_of_ble_eq_true rfl) (zD_g DX6_reads 56 rfl) ⟨Nat.zero_le _, Nat.zero_le _⟩ (fun H locs hP hD hS => ?_)
                  refine lv_iinc (v := y22 + 1) (lv' := [(2, .int (y22 + 1)), (0, .ref (q 0)), (1, .int x14)]) (k := 2) hx hb (zD_g DX6_reads 57 rfl) hl rfl rfl (by decide) rfl (fun ls hl => ?_)
                  refine lv_goto (tgt := 52) hx hb (zD_g DX6_reads 58 rfl) (by decide) ?_
                  exact ih28 _ _ _ _ _ _ hf _ _ hP hD hS ls (lv_sub hl [1, 2, 0] rfl)
                · replace hf := z_f c32 hf
                  refine lv_iconst (v := (0 : Int32)) hx hb (zD_g DX6_reads 40 rfl) (by decide) ?_
                  cases hf
                  exact hret _ _ _ _ rfl hP hD hS (zD_g DX6_reads 41 rfl)
          refine hL28 _ (fun mat_39 mstart_40 mtoken_41 mvalue_42 items_43 hf H locs hP hD hS ls hl => ?_) _ _ _ _ _ _ _ hf _ _ hP hD hS ls (lv_sub hl [2, 1, 0] rfl)
          refine lv_aload_n hx hb (zD_g DX6_reads 59 rfl) rfl (lv_at hl 0 rfl) ?_
          refine va_get (D := D) (ci := 5) (v := .int mtoken_41) (C := RX6) (T := TX6) (N := 19) hx hb hts in6_reads_6 hown hK.1 hP 0 rfl rfl 12 (by decide) (hts _ (List.mem_of_getElem? (i := 3) rfl)) (fun _ h9 => h9) rfl (zD_g DX6_reads 60 rfl) ?_
          refine lv_iconst (v := (3 : Int32)) hx hb (zD_g DX6_reads 61 rfl) (by decide) ?_
          refine lv_icmp_eq (tgt := 109) hx hb (zD_g DX6_reads 62 rfl) (by decide) (fun c44 => ?_) (fun c44 => ?_)
          · replace hf := z_t c44 hf
            refine lv_aload_n hx hb (zD_g DX6_reads 65 rfl) rfl (lv_at hl 0 rfl) ?_
            refine lv_dup hx hb (zD_g DX6_reads 66 rfl) rfl ?_
            refine va_get (D := D) (ci := 5) (v := .int many_10) (C := RX6) (T := TX6) (N := 19) hx hb hts in6_reads_6 hown hK.1 hP 0 rfl rfl 15 (by decide) (hts _ (List.mem_of_getElem? (i := 2) rfl)) (fun _ h9 => h9) rfl (zD_g DX6_reads 67 rfl) ?_
            refine lv_iconst (v := (1 : Int32)) hx hb (zD_g DX6_reads 68 rfl) (by decide) ?_
            refine lv_iadd hx hb (zD_g DX6_reads 69 rfl) ?_
            refine lv_topi (fun x45 ex45 => ?_)
            replace hf := zl_s hf x45 ex45
            refine z_put (D := D) (ci := 5) (v := .int x45) (ty := .int) (C := RX6) (T := TX6) (N := 19) (ws' := (cMod cI cZ q quiet mabove mbelow typed mat_39 mstart_40 mtoken_41 mvalue_42 x45 book images mkept aside refused text items_43 drawn row best)) hx hb hts in6_reads_6 tyX6 tyX6_ok nmX6 hown hK.1 hP hD hS 0 rfl rfl 15 (by decide) (hts _ (List.mem_of_getElem? (i := 2) rfl)) (fun _ h9 => h9) rfl (tyX6_ok 15 (by decide)) rfl rfl (Nat.le_of_ble_eq_true rfl) rfl (zD_g DX6_reads 70 rfl) (fun H locs hP hD hS => ?_)
            refine lv_aload_n hx hb (zD_g DX6_reads 71 rfl) rfl (lv_at hl 0 rfl) ?_
            obtain ⟨mat_46, mstart_47, mtoken_48, mvalue_49, hc50, hf⟩ := zb4_s hf
            refine z_Vm (As := []) (rest := []) (ws' := (cMod cI cZ q quiet mabove mbelow typed mat_46 mstart_47 mtoken_48 mvalue_49 x45 book images mkept aside refused text items_43 drawn row best)) ⟨hx, hb, hml, hown, hts⟩ hK (c6_scans (quiet := quiet) (mabove := mabove) (mbelow := mbelow) (typed := typed) (mat := mat_39) (mstart := mstart_40) (mtoken := mtoken_41) (mvalue := mvalue_42) (many := x45) (book := book) (images := images) (mkept := mkept) (aside := aside) (refused := refused) (text := text) (items := items_43) (drawn := drawn) (row := row) (best := best) (q := q) hc50) (cwV 0 hts gX6_reads_X6_scans rfl rfl rfl hd6_scans ⟨Nat.le_of_ble_eq_true rfl, Nat.le_of_ble_eq_true rfl⟩) hP hD hS hA 11 [0, 1, 2, 3, 4, 5, 6, 7, 8, 9, 10] [] [0, 1, 2, 3, 4, 5, 6, 7, 8, 9, 10] (by decide +kernel) rfl rfl rfl rfl rfl rfl rfl hl.1 rfl rfl (Nat.le_of_ble_eq_true rfl) (zD_g DX6_reads 72 rfl) ⟨Nat.zero_le _, Nat.zero_le _⟩ (fun H locs hP hD hS => ?_)
            refine lv_goto (tgt := 14) hx hb (zD_g DX6_reads 73 rfl) (by decide) ?_
            exact ih12 _ _ _ _ _ _ hf _ _ hP hD hS ls (lv_sub hl [0] rfl)
          · replace hf := z_f c44 hf
            refine lv_iconst (v := (0 : Int32)) hx hb (zD_g DX6_reads 63 rfl) (by decide) ?_
            cases hf
            exact hret _ _ _ _ rfl hP hD hS (zD_g DX6_reads 64 rfl)
        · replace hf := z_f c15 hf
          refine lv_iconst (v := (0 : Int32)) hx hb (zD_g DX6_reads 18 rfl) (by decide) ?_
          cases hf
          exact hret _ _ _ _ rfl hP hD hS (zD_g DX6_reads 19 rfl)
  refine hL12 _ (fun mat_51 mstart_52 mtoken_53 mvalue_54 many_55 items_56 hf H locs hP hD hS ls hl => ?_) _ _ _ _ _ _ _ hf _ _ hP hD hS ls (lv_sub hl [0] rfl)
  refine lv_iconst (v := (1 : Int32)) hx hb (zD_g DX6_reads 74 rfl) (by decide) ?_
  cases hf
  exact hret _ _ _ _ rfl hP hD hS (zD_g DX6_reads 75 rfl)
abbrev dlX6_tellsItem : List (Nat × Instr × Nat) := [(0, .aload_n 0, 1), (1, .getfield 29, 3), (4, .iconst 5, 1), (5, .iload_n 1, 1), (6, .imul, 1), (7, .iaload, 1), (8, .istore_n 2, 1), (9, .aload_n 0, 1), (10, .getfield 29, 3), (13, .iconst 5, 1), (14, .iload_n 1, 1), (15, .imul, 1), (16, .iconst 1, 1), (17, .iadd, 1), (18, .iaload, 1), (19, .istore_n 3, 1), (20, .aload_n 0, 1), (21, .getfield 29, 3), (24, .iconst 5, 1), (25, .iload_n 1, 1), (26, .imul, 1), (27, .iconst 2, 1), (28, .iadd, 1), (29, .iaload, 1), (30, .istore 4, 2), (32, .aload_n 0, 1), (33, .getfield 29, 3), (36, .iconst 5, 1), (37, .iload_n 1, 1), (38, .imul, 1), (39, .iconst 3, 1), (40, .iadd, 1), (41, .iaload, 1), (42, .istore 5, 2), (44, .aload_n 0, 1), (45, .getfield 29, 3), (48, .iconst 5, 1), (49, .iload_n 1, 1), (50, .imul, 1), (51, .iconst 4, 1), (52, .iadd, 1), (53, .iaload, 1), (54, .istore 6, 2), (56, .iload_n 2, 1), (57, .iconst 2, 1), (58, .if_icmp .ge 41, 3), (61, .iload_n 2, 1), (62, .ifCond .ne 17, 3), (65, .aload_n 0, 1), (66, .iload_n 3, 1), (67, .iload 4, 2), (69, .iload 5, 2), (71, .iload 6, 2), (73, .invokevirtual 161, 3), (76, .goto 14, 3), (79, .aload_n 0, 1), (80, .iload_n 3, 1), (81, .iload 4, 2), (83, .iload 5, 2), (85, .iload 6, 2), (87, .invokevirtual 165, 3), (90, .ifCond .lt 7, 3), (93, .iconst 1, 1), (94, .goto 4, 3), (97, .iconst 0, 1), (98, .ireturn, 1), (99, .iload_n 2, 1), (100, .iconst 2, 1), (101, .if_icmp .ne 13, 3), (104, .aload_n 0, 1), (105, .iload_n 3, 1), (106, .iload 4, 2), (108, .invokevirtual 168, 3), (111, .goto 31, 3), (114, .iload_n 2, 1), (115, .bipush 6, 2), (117, .if_icmp .ne 15, 3), (120, .aload_n 0, 1), (121, .iload_n 3, 1), (122, .iload 4, 2), (124, .iload 5, 2), (126, .invokevirtual 171, 3), (129, .goto 13, 3), (132, .aload_n 0, 1), (133, .iload_n 3, 1), (134, .iload_n 2, 1), (135, .iconst 3, 1), (136, .isub, 1), (137, .iload 4, 2), (139, .invokevirtual 175, 3), (142, .istore 7, 2), (144, .iload 7, 2), (146, .ifCond .lt 7, 3), (149, .iconst 1, 1), (150, .goto 4, 3), (153, .iconst 0, 1), (154, .ireturn, 1)]
theorem DX6_tellsItem : zD cX6_tellsItem dlX6_tellsItem = true := by decide +kernel
set_option maxRecDepth 20000 in
theorem ggX6_tellsItem_X6_thing : GoodIn wsX6_tellsItem wsX6_thing := goodIn_r _ [6, 7, 8, 9, 10, 11, 5, 12, 13, 14, 15, 16, 17, 18, 19, 20, 21, 22, 23, 24, 25, 26, 81, 82, 83, 84, 85, 86, 87, 88, 89, 90, 91, 92, 93, 94, 95, 96, 97, 98, 99] (by decide +kernel) (by decide +kernel)
set_option maxRecDepth 20000 in
theorem gX6_tellsItem_X6_thing : GoodIn wsX6_tellsItem (wsV RX6 161 RX6 yX6_thing wsX6_thing) := goodIn_app (goodIn_of _ (by decide +kernel)) ggX6_tellsItem_X6_thing
set_option maxRecDepth 20000 in
theorem ggX6_tellsItem_X6_gift : GoodIn wsX6_tellsItem wsX6_gift := goodIn_r _ [30, 31, 32, 33, 9, 10, 11, 5, 12, 34, 35, 36, 13, 14, 15, 16, 17, 18, 19, 20, 21, 22, 23, 24, 25, 26, 81, 82, 83, 84, 85, 86, 87, 88, 89, 90, 91, 92, 93, 94, 95, 96, 97, 98, 99] (by decide +kernel) (by decide +kernel)
set_option maxRecDepth 20000 in
theorem gX6_tellsItem_X6_gift : GoodIn wsX6_tellsItem (wsV RX6 165 RX6 yX6_gift wsX6_gift) := goodIn_app (goodIn_of _ (by decide +kernel)) ggX6_tellsItem_X6_gift
set_option maxRecDepth 20000 in
theorem ggX6_tellsItem_X6_put : GoodIn wsX6_tellsItem wsX6_put := goodIn_r _ [40, 9, 41, 42, 43, 5, 44, 10, 11, 12, 45, 46, 47, 48, 13, 14, 15, 16, 17, 18, 19, 20, 21, 22, 49, 50, 51, 52, 53, 54, 55, 56, 57, 58, 59, 60, 61, 62, 63, 64, 81, 82, 83, 84, 85, 86, 87, 88, 89, 90, 91, 92, 93, 94, 95, 96, 97, 98, 99] (by decide +kernel) (by decide +kernel)
set_option maxRecDepth 20000 in
theorem gX6_tellsItem_X6_put : GoodIn wsX6_tellsItem (wsV RX6 168 RX6 yX6_put wsX6_put) := goodIn_app (goodIn_of _ (by decide +kernel)) ggX6_tellsItem_X6_put
set_option maxRecDepth 20000 in
theorem ggX6_tellsItem_X6_watch : GoodIn wsX6_tellsItem wsX6_watch := goodIn_r _ [68, 8, 34, 35, 5, 36, 10, 11, 12, 69, 70, 71, 31, 72, 73, 74, 75, 9, 13, 14, 15, 16, 17, 18, 19, 20, 21, 22, 81, 82, 83, 84, 85, 86, 87, 88, 89, 90, 91, 92, 93, 94, 95, 96, 97, 98, 99] (by decide +kernel) (by decide +kernel)
set_option maxRecDepth 20000 in
theorem gX6_tellsItem_X6_watch : GoodIn wsX6_tellsItem (wsV RX6 171 RX6 yX6_watch wsX6_watch) := goodIn_app (goodIn_of _ (by decide +kernel)) ggX6_tellsItem_X6_watch
set_option maxRecDepth 20000 in
theorem ggX6_tellsItem_X6_city : GoodIn wsX6_tellsItem wsX6_city := goodIn_r _ [79, 80, 34, 35, 5, 36, 10, 11, 12, 72, 73, 74, 75, 9, 13, 14, 15, 16, 17, 18, 19, 20, 21, 22, 81, 82, 83, 84, 85, 86, 87, 88, 89, 90, 91, 92, 93, 94, 95, 96, 97, 98, 99] (by decide +kernel) (by decide +kernel)
set_option maxRecDepth 20000 in
theorem gX6_tellsItem_X6_city : GoodIn wsX6_tellsItem (wsV RX6 175 RX6 yX6_city wsX6_city) := goodIn_app (goodIn_of _ (by decide +kernel)) ggX6_tellsItem_X6_city
theorem hd6_tellsItem : yX6_tellsItem.cls = RX6 ∧ yX6_tellsItem.cls ≠ "java/lang/invoke/MethodHandle" ∧ yX6_tellsItem.cls ≠ "java/lang/invoke/VarHandle" ∧ (parseMethodDescriptor yX6_tellsItem.desc).map (fun d => d.parameters.length) = some 1 := by decide +kernel
abbrev rm6_tellsItem : Room := { frames := 3, cells := 0, slots := 0, locals := 70 }
theorem in6_tellsItem_6 : ∀ w ∈ wsX60, w ∈ wsX6_tellsItem := fun w h => List.mem_cons_of_mem _ (List.mem_append_right _ h)
set_option maxHeartbeats 4000000 in
set_option maxRecDepth 100000 in
theorem c6_tellsItem {l : Launch} {D : va_G} {cI cZ cB : ClassId} {q : Nat → Nat} {sz : Nat} {quiet : Int32} {mabove : Int64} {mbelow : Int64} {typed : Int32} {mat : Int32} {mstart : Int32} {mtoken : Int32} {mvalue : Int32} {many : Int32} {book : Nat → Int32} {images : Nat → Int32} {mkept : Nat → Int32} {aside : Nat → Int32} {refused : Nat → Int32} {text : Nat → Int32} {items : Nat → Int32} {drawn : Nat → Int32} {row : Nat → Int32} {best : Nat → Int32} {a_i : Int32} {r : Int32} {d_book : Nat → Int32} {d_refused : Nat → Int32} (hf : f6_tellsItem quiet book refused items a_i = some (r, d_book, d_refused)) : Met l yX6_tellsItem wsX6_tellsItem rm6_tellsItem (zPm D cI cZ cB [.ref (q 0), .int a_i] sz (cMod cI cZ q quiet mabove mbelow typed mat mstart mtoken mvalue many book images mkept aside refused text items drawn row best)) (zQm D (some (.int r)) (cMod cI cZ q quiet mabove mbelow typed mat mstart mtoken mvalue many d_book images mkept aside d_refused text items drawn row best) (va_A (cMod cI cZ q quiet mabove mbelow typed mat mstart mtoken mvalue many book images mkept aside refused text items drawn row best) sz)) 0 0 (va_A (cMod cI cZ q quiet mabove mbelow typed mat mstart mtoken mvalue many book images mkept aside refused text items drawn row best) sz) := by
  unfold f6_tellsItem at hf
  refine z_mutZ RX6 (by decide +kernel) rfl rfl (Nat.le_of_ble_eq_true rfl) ?_
  intro p e s m args below meth c Q A ls hx hb hml hown hts hK hP hD hS hA hret hl
  have hl : lv_has ls 8 [(0, .ref (q 0)), (1, .int a_i)] := hl
  refine lv_aload_n hx hb (zD_g DX6_tellsItem 0 rfl) rfl (lv_at hl 0 rfl) ?_
  refine va_get (D := D) (ci := 5) (v := .ref (q 7)) (C := RX6) (T := TX6) (N := 19) hx hb hts in6_tellsItem_6 hown hK.1 hP 0 rfl rfl 14 (by decide) (hts _ (List.mem_of_getElem? (i := 1) rfl)) (fun _ h9 => h9) rfl (zD_g DX6_tellsItem 1 rfl) ?_
  refine lv_iconst (v := (5 : Int32)) hx hb (zD_g DX6_tellsItem 2 rfl) (by decide) ?_
  refine lv_iload_n hx hb (zD_g DX6_tellsItem 3 rfl) rfl (lv_at hl 1 rfl) ?_
  refine lv_imul hx hb (zD_g DX6_tellsItem 4 rfl) ?_
  obtain ⟨h1, hf⟩ := zg_s hf
  refine z_iald (k := ((5 : Int32) * a_i).toNatClampNeg) hx hb hK.1 hP 7 0 rfl rfl h1 rfl (zD_g DX6_tellsItem 5 rfl) ?_
  refine lv_topi (fun x2 ex2 => ?_)
  replace hf := zl_s hf x2 ex2
  refine lv_istore_n (lv' := [(2, .int x2), (0, .ref (q 0)), (1, .int a_i)]) hx hb (zD_g DX6_tellsItem 6 rfl) rfl hl (by decide) rfl (fun ls hl => ?_)
  refine lv_aload_n hx hb (zD_g DX6_tellsItem 7 rfl) rfl (lv_at hl 1 rfl) ?_
  refine va_get (D := D) (ci := 5) (v := .ref (q 7)) (C := RX6) (T := TX6) (N := 19) hx hb hts in6_tellsItem_6 hown hK.1 hP 0 rfl rfl 14 (by decide) (hts _ (List.mem_of_getElem? (i := 1) rfl)) (fun _ h9 => h9) rfl (zD_g DX6_tellsItem 8 rfl) ?_
  refine lv_iconst (v := (5 : Int32)) hx hb (zD_g DX6_tellsItem 9 rfl) (by decide) ?_
  refine lv_iload_n hx hb (zD_g DX6_tellsItem 10 rfl) rfl (lv_at hl 2 rfl) ?_
  refine lv_imul hx hb (zD_g DX6_tellsItem 11 rfl) ?_
  refine lv_iconst (v := (1 : Int32)) hx hb (zD_g DX6_tellsItem 12 rfl) (by decide) ?_
  refine lv_iadd hx hb (zD_g DX6_tellsItem 13 rfl) ?_
  obtain ⟨h3, hf⟩ := zg_s hf
  refine z_iald (k := (((5 : Int32) * a_i) + (1 : Int32)).toNatClampNeg) hx hb hK.1 hP 7 0 rfl rfl h3 rfl (zD_g DX6_tellsItem 14 rfl) ?_
  refine lv_topi (fun x4 ex4 => ?_)
  replace hf := zl_s hf x4 ex4
  refine lv_istore_n (lv' := [(3, .int x4), (2, .int x2), (0, .ref (q 0)), (1, .int a_i)]) hx hb (zD_g DX6_tellsItem 15 rfl) rfl hl (by decide) rfl (fun ls hl => ?_)
  refine lv_aload_n hx hb (zD_g DX6_tellsItem 16 rfl) rfl (lv_at hl 2 rfl) ?_
  refine va_get (D := D) (ci := 5) (v := .ref (q 7)) (C := RX6) (T := TX6) (N := 19) hx hb hts in6_tellsItem_6 hown hK.1 hP 0 rfl rfl 14 (by decide) (hts _ (List.mem_of_getElem? (i := 1) rfl)) (fun _ h9 => h9) rfl (zD_g DX6_tellsItem 17 rfl) ?_
  refine lv_iconst (v := (5 : Int32)) hx hb (zD_g DX6_tellsItem 18 rfl) (by decide) ?_
  refine lv_iload_n hx hb (zD_g DX6_tellsItem 19 rfl) rfl (lv_at hl 3 rfl) ?_
  refine lv_imul hx hb (zD_g DX6_tellsItem 20 rfl) ?_
  refine lv_iconst (v := (2 : Int32)) hx hb (zD_g DX6_tellsItem 21 rfl) (by decide) ?_
  refine lv_iadd hx hb (zD_g DX6_tellsItem 22 rfl) ?_
  obtain ⟨h5, hf⟩ := zg_s hf
  refine z_iald (k := (((5 : Int32) * a_i) + (2 : Int32)).toNatClampNeg) hx hb hK.1 hP 7 0 rfl rfl h5 rfl (zD_g DX6_tellsItem 23 rfl) ?_
  refine lv_topi (fun x6 ex6 => ?_)
  replace hf := zl_s hf x6 ex6
  refine lv_istore (lv' := [(4, .int x6), (3, .int x4), (2, .int x2), (0, .ref (q 0)), (1, .int a_i)]) hx hb (zD_g DX6_tellsItem 24 rfl) hl (by decide) rfl (fun ls hl => ?_)
  refine lv_aload_n hx hb (zD_g DX6_tellsItem 25 rfl) rfl (lv_at hl 3 rfl) ?_
  refine va_get (D := D) (ci := 5) (v := .ref (q 7)) (C := RX6) (T := TX6) (N := 19) hx hb hts in6_tellsItem_6 hown hK.1 hP 0 rfl rfl 14 (by decide) (hts _ (List.mem_of_getElem? (i := 1) rfl)) (fun _ h9 => h9) rfl (zD_g DX6_tellsItem 26 rfl) ?_
  refine lv_iconst (v := (5 : Int32)) hx hb (zD_g DX6_tellsItem 27 rfl) (by decide) ?_
  refine lv_iload_n hx hb (zD_g DX6_tellsItem 28 rfl) rfl (lv_at hl 4 rfl) ?_
  refine lv_imul hx hb (zD_g DX6_tellsItem 29 rfl) ?_
  refine lv_iconst (v := (3 : Int32)) hx hb (zD_g DX6_tellsItem 30 rfl) (by decide) ?_
  refine lv_iadd hx hb (zD_g DX6_tellsItem 31 rfl) ?_
  obtain ⟨h7, hf⟩ := zg_s hf
  refine z_iald (k := (((5 : Int32) * a_i) + (3 : Int32)).toNatClampNeg) hx hb hK.1 hP 7 0 rfl rfl h7 rfl (zD_g DX6_tellsItem 32 rfl) ?_
  refine lv_topi (fun x8 ex8 => ?_)
  replace hf := zl_s hf x8 ex8
  refine lv_istore (lv' := [(5, .int x8), (4, .int x6), (3, .int x4), (2, .int x2), (0, .ref (q 0)), (1, .int a_i)]) hx hb (zD_g DX6_tellsItem 33 rfl) hl (by decide) rfl (fun ls hl => ?_)
  refine lv_aload_n hx hb (zD_g DX6_tellsItem 34 rfl) rfl (lv_at hl 4 rfl) ?_
  refine va_get (D := D) (ci := 5) (v := .ref (q 7)) (C := RX6) (T := TX6) (N := 19) hx hb hts in6_tellsItem_6 hown hK.1 hP 0 rfl rfl 14 (by decide) (hts _ (List.mem_of_getElem? (i := 1) rfl)) (fun _ h9 => h9) rfl (zD_g DX6_tellsItem 35 rfl) ?_
  refine lv_iconst (v := (5 : Int32)) hx hb (zD_g DX6_tellsItem 36 rfl) (by decide) ?_
  refine lv_iload_n hx hb (zD_g DX6_tellsItem 37 rfl) rfl (lv_at hl 5 rfl) ?_
  refine lv_imul hx hb (zD_g DX6_tellsItem 38 rfl) ?_
  refine lv_iconst (v := (4 : Int32)) hx hb (zD_g DX6_tellsItem 39 rfl) (by decide) ?_
  refine lv_iadd hx hb (zD_g DX6_tellsItem 40 rfl) ?_
  obtain ⟨h9, hf⟩ := zg_s hf
  refine z_iald (k := (((5 : Int32) * a_i) + (4 : Int32)).toNatClampNeg) hx hb hK.1 hP 7 0 rfl rfl h9 rfl (zD_g DX6_tellsItem 41 rfl) ?_
  refine lv_topi (fun x10 ex10 => ?_)
  replace hf := zl_s hf x10 ex10
  refine lv_istore (lv' := [(6, .int x10), (5, .int x8), (4, .int x6), (3, .int x4), (2, .int x2), (0, .ref (q 0)), (1, .int a_i)]) hx hb (zD_g DX6_tellsItem 42 rfl) hl (by decide) rfl (fun ls hl => ?_)
  refine lv_iload_n hx hb (zD_g DX6_tellsItem 43 rfl) rfl (lv_at hl 4 rfl) ?_
  refine lv_iconst (v := (2 : Int32)) hx hb (zD_g DX6_tellsItem 44 rfl) (by decide) ?_
  refine lv_icmp_ge (tgt := 99) hx hb (zD_g DX6_tellsItem 45 rfl) (by decide) (fun c11 => ?_) (fun c11 => ?_)
  · replace hf := z_t c11 hf
    refine lv_iload_n hx hb (zD_g DX6_tellsItem 66 rfl) rfl (lv_at hl 4 rfl) ?_
    refine lv_iconst (v := (2 : Int32)) hx hb (zD_g DX6_tellsItem 67 rfl) (by decide) ?_
    obtain ⟨v13, book_14, refused_15, hr17, hf⟩ := zb3_s hf
    have hJ17 : ∀ (H : Heap) (locs : List Loc), va_P D vwCl (cMod cI cZ q quiet mabove mbelow typed mat mstart mtoken mvalue many book_14 images mkept aside refused_15 text items drawn row best) H → va_D A (cMod cI cZ q quiet mabove mbelow typed mat mstart mtoken mvalue many book_14 images mkept aside refused_15 text items drawn row best) → va_S A s.heap H locs → ∀ (ls : Array Slot), lv_has ls 8 [] → W p l e rm6_tellsItem s m args below meth c H locs 0 0 Q (F0 m 142 ls [.int v13]) := by
      intro H locs hP hD hS ls hl
      refine lv_istore (lv' := [(7, .int v13)]) hx hb (zD_g DX6_tellsItem 90 rfl) hl (by decide) rfl (fun ls hl => ?_)
      refine lv_iload hx hb (zD_g DX6_tellsItem 91 rfl) (lv_at hl 0 rfl) ?_
      refine lv_if_lt (tgt := 153) hx hb (zD_g DX6_tellsItem 92 rfl) (by decide) (fun c16 => ?_) (fun c16 => ?_)
      · replace hf := z_t c16 hf
        refine lv_iconst (v := (0 : Int32)) hx hb (zD_g DX6_tellsItem 95 rfl) (by decide) ?_
        cases hf
        exact hret _ _ _ _ rfl hP hD hS (zD_g DX6_tellsItem 96 rfl)
      · replace hf := z_f c16 hf
        refine lv_iconst (v := (1 : Int32)) hx hb (zD_g DX6_tellsItem 93 rfl) (by decide) ?_
        refine lv_goto (tgt := 154) hx hb (zD_g DX6_tellsItem 94 rfl) (by decide) ?_
        cases hf
        exact hret _ _ _ _ rfl hP hD hS (zD_g DX6_tellsItem 96 rfl)
    clear hf
    have hf := hr17
    refine lv_icmp_ne (tgt := 114) hx hb (zD_g DX6_tellsItem 68 rfl) (by decide) (fun c12 => ?_) (fun c12 => ?_)
    · replace hf := z_f c12 hf
      refine lv_iload_n hx hb (zD_g DX6_tellsItem 74 rfl) rfl (lv_at hl 4 rfl) ?_
      refine lv_bipush (v := (6 : Int32)) hx hb (zD_g DX6_tellsItem 75 rfl) (by decide) ?_
      refine lv_icmp_ne (tgt := 132) hx hb (zD_g DX6_tellsItem 76 rfl) (by decide) (fun c18 => ?_) (fun c18 => ?_)
      · replace hf := z_f c18 hf
        refine lv_aload_n hx hb (zD_g DX6_tellsItem 83 rfl) rfl (lv_at hl 5 rfl) ?_
        refine lv_iload_n hx hb (zD_g DX6_tellsItem 84 rfl) rfl (lv_at hl 3 rfl) ?_
        refine lv_iload_n hx hb (zD_g DX6_tellsItem 85 rfl) rfl (lv_at hl 4 rfl) ?_
        refine lv_iconst (v := (3 : Int32)) hx hb (zD_g DX6_tellsItem 86 rfl) (by decide) ?_
        refine lv_isub hx hb (zD_g DX6_tellsItem 87 rfl) ?_
        refine lv_iload hx hb (zD_g DX6_tellsItem 88 rfl) (lv_at hl 2 rfl) ?_
        obtain ⟨r19, book_20, refused_21, hc22, hf⟩ := zb3_s hf
        refine z_Vm (As := [.int x4, .int (x2 - (3 : Int32)), .int x6]) (rest := []) (ws' := (cMod cI cZ q quiet mabove mbelow typed mat mstart mtoken mvalue many book_20 images mkept aside refused_21 text items drawn row best)) ⟨hx, hb, hml, hown, hts⟩ hK (c6_city (quiet := quiet) (mabove := mabove) (mbelow := mbelow) (typed := typed) (mat := mat) (mstart := mstart) (mtoken := mtoken) (mvalue := mvalue) (many := many) (book := book) (images := images) (mkept := mkept) (aside := aside) (refused := refused) (text := text) (items := items) (drawn := drawn) (row := row) (best := best) (q := q) hc22) (cwV 3 hts gX6_tellsItem_X6_city rfl rfl rfl hd6_city ⟨Nat.le_of_ble_eq_true rfl, Nat.le_of_ble_eq_true rfl⟩) hP hD hS hA 11 [0, 1, 2, 3, 4, 5, 6, 7, 8, 9, 10] [] [0, 1, 2, 3, 4, 5, 6, 7, 8, 9, 10] (by decide +kernel) rfl rfl rfl rfl rfl rfl rfl hl.1 rfl rfl (Nat.le_of_ble_eq_true rfl) (zD_g DX6_tellsItem 89 rfl) ⟨Nat.zero_le _, Nat.zero_le _⟩ (fun H locs hP hD hS => ?_)
        cases hf
        exact hJ17 _ _ hP hD hS ls (lv_sub hl [] rfl)
      · replace hf := z_t c18 hf
        refine lv_aload_n hx hb (zD_g DX6_tellsItem 77 rfl) rfl (lv_at hl 5 rfl) ?_
        refine lv_iload_n hx hb (zD_g DX6_tellsItem 78 rfl) rfl (lv_at hl 3 rfl) ?_
        refine lv_iload hx hb (zD_g DX6_tellsItem 79 rfl) (lv_at hl 2 rfl) ?_
        refine lv_iload hx hb (zD_g DX6_tellsItem 80 rfl) (lv_at hl 1 rfl) ?_
        obtain ⟨r23, book_24, refused_25, hc26, hf⟩ := zb3_s hf
        refine z_Vm (As := [.int x4, .int x6, .int x8]) (rest := []) (ws' := (cMod cI cZ q quiet mabove mbelow typed mat mstart mtoken mvalue many book_24 images mkept aside refused_25 text items drawn row best)) ⟨hx, hb, hml, hown, hts⟩ hK (c6_watch (quiet := quiet) (mabove := mabove) (mbelow := mbelow) (typed := typed) (mat := mat) (mstart := mstart) (mtoken := mtoken) (mvalue := mvalue) (many := many) (book := book) (images := images) (mkept := mkept) (aside := aside) (refused := refused) (text := text) (items := items) (drawn := drawn) (row := row) (best := best) (q := q) hc26) (cwV 3 hts gX6_tellsItem_X6_watch rfl rfl rfl hd6_watch ⟨Nat.le_of_ble_eq_true rfl, Nat.le_of_ble_eq_true rfl⟩) hP hD hS hA 11 [0, 1, 2, 3, 4, 5, 6, 7, 8, 9, 10] [] [0, 1, 2, 3, 4, 5, 6, 7, 8, 9, 10] (by decide +kernel) rfl rfl rfl rfl rfl rfl rfl hl.1 rfl rfl (Nat.le_of_ble_eq_true rfl) (zD_g DX6_tellsItem 81 rfl) ⟨Nat.zero_le _, Nat.zero_le _⟩ (fun H locs hP hD hS => ?_)
        refine lv_goto (tgt := 142) hx hb (zD_g DX6_tellsItem 82 rfl) (by decide) ?_
        cases hf
        exact hJ17 _ _ hP hD hS ls (lv_sub hl [] rfl)
    · replace hf := z_t c12 hf
      refine lv_aload_n hx hb (zD_g DX6_tellsItem 69 rfl) rfl (lv_at hl 5 rfl) ?_
      refine lv_iload_n hx hb (zD_g DX6_tellsItem 70 rfl) rfl (lv_at hl 3 rfl) ?_
      refine lv_iload hx hb (zD_g DX6_tellsItem 71 rfl) (lv_at hl 2 rfl) ?_
      obtain ⟨r27, book_28, refused_29, hc30, hf⟩ := zb3_s hf
      refine z_Vm (As := [.int x4, .int x6]) (rest := []) (ws' := (cMod cI cZ q quiet mabove mbelow typed mat mstart mtoken mvalue many book_28 images mkept aside refused_29 text items drawn row best)) ⟨hx, hb, hml, hown, hts⟩ hK (c6_put (quiet := quiet) (mabove := mabove) (mbelow := mbelow) (typed := typed) (mat := mat) (mstart := mstart) (mtoken := mtoken) (mvalue := mvalue) (many := many) (book := book) (images := images) (mkept := mkept) (aside := aside) (refused := refused) (text := text) (items := items) (drawn := drawn) (row := row) (best := best) (q := q) hc30) (cwV 2 hts gX6_tellsItem_X6_put rfl rfl rfl hd6_put ⟨Nat.le_of_ble_eq_true rfl, Nat.le_of_ble_eq_true rfl⟩) hP hD hS hA 11 [0, 1, 2, 3, 4, 5, 6, 7, 8, 9, 10] [] [0, 1, 2, 3, 4, 5, 6, 7, 8, 9, 10] (by decide +kernel) rfl rfl rfl rfl rfl rfl rfl hl.1 rfl rfl (Nat.le_of_ble_eq_true rfl) (zD_g DX6_tellsItem 72 rfl) ⟨Nat.zero_le _, Nat.zero_le _⟩ (fun H locs hP hD hS => ?_)
      refine lv_goto (tgt := 142) hx hb (zD_g DX6_tellsItem 73 rfl) (by decide) ?_
      cases hf
      exact hJ17 _ _ hP hD hS ls (lv_sub hl [] rfl)
  · replace hf := z_f c11 hf
    refine lv_iload_n hx hb (zD_g DX6_tellsItem 46 rfl) rfl (lv_at hl 4 rfl) ?_
    obtain ⟨v32, book_33, refused_34, hr36, hf⟩ := zb3_s hf
    have hJ36 : ∀ (H : Heap) (locs : List Loc), va_P D vwCl (cMod cI cZ q quiet mabove mbelow typed mat mstart mtoken mvalue many book_33 images mkept aside refused_34 text items drawn row best) H → va_D A (cMod cI cZ q quiet mabove mbelow typed mat mstart mtoken mvalue many book_33 images mkept aside refused_34 text items drawn row best) → va_S A s.heap H locs → ∀ (ls : Array Slot), lv_has ls 8 [] → W p l e rm6_tellsItem s m args below meth c H locs 0 0 Q (F0 m 90 ls [.int v32]) := by
      intro H locs hP hD hS ls hl
      refine lv_if_lt (tgt := 97) hx hb (zD_g DX6_tellsItem 61 rfl) (by decide) (fun c35 => ?_) (fun c35 => ?_)
      · replace hf := z_t c35 hf
        refine lv_iconst (v := (0 : Int32)) hx hb (zD_g DX6_tellsItem 64 rfl) (by decide) ?_
        cases hf
        exact hret _ _ _ _ rfl hP hD hS (zD_g DX6_tellsItem 65 rfl)
      · replace hf := z_f c35 hf
        refine lv_iconst (v := (1 : Int32)) hx hb (zD_g DX6_tellsItem 62 rfl) (by decide) ?_
        refine lv_goto (tgt := 98) hx hb (zD_g DX6_tellsItem 63 rfl) (by decide) ?_
        cases hf
        exact hret _ _ _ _ rfl hP hD hS (zD_g DX6_tellsItem 65 rfl)
    clear hf
    have hf := hr36
    refine lv_if_ne (tgt := 79) hx hb (zD_g DX6_tellsItem 47 rfl) (by decide) (fun c31 => ?_) (fun c31 => ?_)
    · replace hf := z_f c31 hf
      refine lv_aload_n hx hb (zD_g DX6_tellsItem 55 rfl) rfl (lv_at hl 5 rfl) ?_
      refine lv_iload_n hx hb (zD_g DX6_tellsItem 56 rfl) rfl (lv_at hl 3 rfl) ?_
      refine lv_iload hx hb (zD_g DX6_tellsItem 57 rfl) (lv_at hl 2 rfl) ?_
      refine lv_iload hx hb (zD_g DX6_tellsItem 58 rfl) (lv_at hl 1 rfl) ?_
      refine lv_iload hx hb (zD_g DX6_tellsItem 59 rfl) (lv_at hl 0 rfl) ?_
      obtain ⟨r37, book_38, refused_39, hc40, hf⟩ := zb3_s hf
      refine z_Vm (As := [.int x4, .int x6, .int x8, .int x10]) (rest := []) (ws' := (cMod cI cZ q quiet mabove mbelow typed mat mstart mtoken mvalue many book_38 images mkept aside refused_39 text items drawn row best)) ⟨hx, hb, hml, hown, hts⟩ hK (c6_gift (quiet := quiet) (mabove := mabove) (mbelow := mbelow) (typed := typed) (mat := mat) (mstart := mstart) (mtoken := mtoken) (mvalue := mvalue) (many := many) (book := book) (images := images) (mkept := mkept) (aside := aside) (refused := refused) (text := text) (items := items) (drawn := drawn) (row := row) (best := best) (q := q) hc40) (cwV 4 hts gX6_tellsItem_X6_gift rfl rfl rfl hd6_gift ⟨Nat.le_of_ble_eq_true rfl, Nat.le_of_ble_eq_true rfl⟩) hP hD hS hA 11 [0, 1, 2, 3, 4, 5, 6, 7, 8, 9, 10] [] [0, 1, 2, 3, 4, 5, 6, 7, 8, 9, 10] (by decide +kernel) rfl rfl rfl rfl rfl rfl rfl hl.1 rfl rfl (Nat.le_of_ble_eq_true rfl) (zD_g DX6_tellsItem 60 rfl) ⟨Nat.zero_le _, Nat.zero_le _⟩ (fun H locs hP hD hS => ?_)
      cases hf
      exact hJ36 _ _ hP hD hS ls (lv_sub hl [] rfl)
    · replace hf := z_t c31 hf
      refine lv_aload_n hx hb (zD_g DX6_tellsItem 48 rfl) rfl (lv_at hl 5 rfl) ?_
      refine lv_iload_n hx hb (zD_g DX6_tellsItem 49 rfl) rfl (lv_at hl 3 rfl) ?_
      refine lv_iload hx hb (zD_g DX6_tellsItem 50 rfl) (lv_at hl 2 rfl) ?_
      refine lv_iload hx hb (zD_g DX6_tellsItem 51 rfl) (lv_at hl 1 rfl) ?_
      refine lv_iload hx hb (zD_g DX6_tellsItem 52 rfl) (lv_at hl 0 rfl) ?_
      obtain ⟨r41, book_42, refused_43, hc44, hf⟩ := zb3_s hf
      refine z_Vm (As := [.int x4, .int x6, .int x8, .int x10]) (rest := []) (ws' := (cMod cI cZ q quiet mabove mbelow typed mat mstart mtoken mvalue many book_42 images mkept aside refused_43 text items drawn row best)) ⟨hx, hb, hml, hown, hts⟩ hK (c6_thing (quiet := quiet) (mabove := mabove) (mbelow := mbelow) (typed := typed) (mat := mat) (mstart := mstart) (mtoken := mtoken) (mvalue := mvalue) (many := many) (book := book) (images := images) (mkept := mkept) (aside := aside) (refused := refused) (text := text) (items := items) (drawn := drawn) (row := row) (best := best) (q := q) hc44) (cwV 4 hts gX6_tellsItem_X6_thing rfl rfl rfl hd6_thing ⟨Nat.le_of_ble_eq_true rfl, Nat.le_of_ble_eq_true rfl⟩) hP hD hS hA 11 [0, 1, 2, 3, 4, 5, 6, 7, 8, 9, 10] [] [0, 1, 2, 3, 4, 5, 6, 7, 8, 9, 10] (by decide +kernel) rfl rfl rfl rfl rfl rfl rfl hl.1 rfl rfl (Nat.le_of_ble_eq_true rfl) (zD_g DX6_tellsItem 53 rfl) ⟨Nat.zero_le _, Nat.zero_le _⟩ (fun H locs hP hD hS => ?_)
      refine lv_goto (tgt := 90) hx hb (zD_g DX6_tellsItem 54 rfl) (by decide) ?_
      cases hf
      exact hJ36 _ _ hP hD hS ls (lv_sub hl [] rfl)
abbrev dlX6_read : List (Nat × Instr × Nat) := [(0, .aload_n 0, 1), (1, .invokevirtual 178, 3), (4, .ifCond .ne 11, 3), (7, .bipush (-10), 2), (9, .aload_n 0, 1), (10, .getfield 135, 3), (13, .isub, 1), (14, .ireturn, 1), (15, .iconst 0, 1), (16, .istore_n 1, 1), (17, .iload_n 1, 1), (18, .sipush 230, 3), (21, .if_icmp .ge 21, 3), (24, .aload_n 0, 1), (25, .getfield 20, 3), (28, .iload_n 1, 1), (29, .aload_n 0, 1), (30, .getfield 7, 3), (33, .iload_n 1, 1), (34, .iaload, 1), (35, .iastore, 1), (36, .iinc 1 1, 3), (39, .goto (-22), 3), (42, .aload_n 0, 1), (43, .invokevirtual 45, 3), (46, .aload_n 0, 1), (47, .iconst 1, 1), (48, .putfield 48, 3), (51, .iconst 0, 1), (52, .istore_n 1, 1), (53, .iload_n 1, 1), (54, .aload_n 0, 1), (55, .getfield 152, 3), (58, .if_icmp .ge 17, 3), (61, .aload_n 0, 1), (62, .iload_n 1, 1), (63, .invokevirtual 182, 3), (66, .ifCond .eq 9, 3), (69, .iinc 1 1, 3), (72, .goto (-19), 3), (75, .aload_n 0, 1), (76, .iconst 0, 1), (77, .putfield 48, 3), (80, .iload_n 1, 1), (81, .aload_n 0, 1), (82, .getfield 152, 3), (85, .if_icmp .ne 15, 3), (88, .aload_n 0, 1), (89, .getfield 7, 3), (92, .iconst 3, 1), (93, .iconst 0, 1), (94, .iastore, 1), (95, .aload_n 0, 1), (96, .getfield 152, 3), (99, .ireturn, 1), (100, .iconst 0, 1), (101, .istore_n 2, 1), (102, .iload_n 2, 1), (103, .sipush 230, 3), (106, .if_icmp .ge 21, 3), (109, .aload_n 0, 1), (110, .getfield 7, 3), (113, .iload_n 2, 1), (114, .aload_n 0, 1), (115, .getfield 20, 3), (118, .iload_n 2, 1), (119, .iaload, 1), (120, .iastore, 1), (121, .iinc 2 1, 3), (124, .goto (-22), 3), (127, .sipush (-1000), 3), (130, .iload_n 1, 1), (131, .isub, 1), (132, .ireturn, 1)]
theorem DX6_read : zD cX6_read dlX6_read = true := by decide +kernel
set_option maxRecDepth 20000 in
theorem ggX6_read_X6_reads : GoodIn wsX6_read wsX6_reads := goodIn_r _ [10, 11, 5, 12, 13, 14, 15, 16, 17, 9, 18, 1, 19, 20, 21, 22, 23, 24, 25, 26, 27, 28, 29, 30, 31, 32, 33, 34, 35, 36, 37, 38, 39, 40, 41, 42, 124, 125, 126, 127, 128, 129, 130, 131, 132, 133, 134, 135, 136, 137, 138, 139, 140, 141, 142] (by decide +kernel) (by decide +kernel)
set_option maxRecDepth 20000 in
theorem gX6_read_X6_reads : GoodIn wsX6_read (wsV RX6 178 RX6 yX6_reads wsX6_reads) := goodIn_app (goodIn_of _ (by decide +kernel)) ggX6_read_X6_reads
set_option maxRecDepth 20000 in
theorem ggX6_read_X6_empties : GoodIn wsX6_read wsX6_empties := goodIn_r _ [46, 3, 124, 125, 126, 127, 128, 129, 130, 131, 132, 133, 134, 135, 136, 137, 138, 139, 140, 141, 142] (by decide +kernel) (by decide +kernel)
set_option maxRecDepth 20000 in
theorem gX6_read_X6_empties : GoodIn wsX6_read (wsV RX6 45 RX6 yX6_empties wsX6_empties) := goodIn_app (goodIn_of _ (by decide +kernel)) ggX6_read_X6_empties
set_option maxRecDepth 20000 in
theorem ggX6_read_X6_tellsItem : GoodIn wsX6_read wsX6_tellsItem := goodIn_r _ [50, 13, 51, 52, 53, 9, 54, 55, 56, 3, 27, 28, 29, 57, 58, 59, 60, 61, 62, 63, 64, 65, 4, 66, 67, 68, 69, 70, 71, 72, 73, 74, 75, 76, 77, 78, 79, 80, 81, 82, 83, 84, 85, 86, 87, 88, 89, 90, 91, 92, 93, 94, 95, 96, 97, 98, 99, 100, 101, 102, 103, 104, 105, 106, 107, 108, 109, 110, 111, 112, 113, 114, 115, 116, 117, 118, 119, 120, 121, 122, 123, 124, 125, 126, 127, 128, 129, 130, 131, 132, 133, 134, 135, 136, 137, 138, 139, 140, 141, 142] (by decide +kernel) (by decide +kernel)
set_option maxRecDepth 20000 in
theorem gX6_read_X6_tellsItem : GoodIn wsX6_read (wsV RX6 182 RX6 yX6_tellsItem wsX6_tellsItem) := goodIn_app (goodIn_of _ (by decide +kernel)) ggX6_read_X6_tellsItem
theorem hd6_read : yX6_read.cls = RX6 ∧ yX6_read.cls ≠ "java/lang/invoke/MethodHandle" ∧ yX6_read.cls ≠ "java/lang/invoke/VarHandle" ∧ (parseMethodDescriptor yX6_read.desc).map (fun d => d.parameters.length) = some 0 := by decide +kernel
abbrev rm6_read : Room := { frames := 4, cells := 0, slots := 0, locals := 97 }
theorem in6_read_6 : ∀ w ∈ wsX60, w ∈ wsX6_read := fun w h => List.mem_cons_of_mem _ (List.mem_append_right _ h)
set_option maxHeartbeats 4000000 in
set_option maxRecDepth 100000 in
theorem c6_read {l : Launch} {D : va_G} {cI cZ cB : ClassId} {q : Nat → Nat} {sz : Nat} {quiet : Int32} {mabove : Int64} {mbelow : Int64} {typed : Int32} {mat : Int32} {mstart : Int32} {mtoken : Int32} {mvalue : Int32} {many : Int32} {book : Nat → Int32} {images : Nat → Int32} {mkept : Nat → Int32} {aside : Nat → Int32} {refused : Nat → Int32} {text : Nat → Int32} {items : Nat → Int32} {drawn : Nat → Int32} {row : Nat → Int32} {best : Nat → Int32}  {r : Int32} {d_quiet : Int32} {d_mat : Int32} {d_mstart : Int32} {d_mtoken : Int32} {d_mvalue : Int32} {d_many : Int32} {d_book : Nat → Int32} {d_aside : Nat → Int32} {d_refused : Nat → Int32} {d_items : Nat → Int32} (hf : f6_read quiet typed mat mstart mtoken mvalue many book aside refused text items = some (r, d_quiet, d_mat, d_mstart, d_mtoken, d_mvalue, d_many, d_book, d_aside, d_refused, d_items)) : Met l yX6_read wsX6_read rm6_read (zPm D cI cZ cB [.ref (q 0)] sz (cMod cI cZ q quiet mabove mbelow typed mat mstart mtoken mvalue many book images mkept aside refused text items drawn row best)) (zQm D (some (.int r)) (cMod cI cZ q d_quiet mabove mbelow typed d_mat d_mstart d_mtoken d_mvalue d_many d_book images mkept d_aside d_refused text d_items drawn row best) (va_A (cMod cI cZ q quiet mabove mbelow typed mat mstart mtoken mvalue many book images mkept aside refused text items drawn row best) sz)) 0 0 (va_A (cMod cI cZ q quiet mabove mbelow typed mat mstart mtoken mvalue many book images mkept aside refused text items drawn row best) sz) := by
  unfold f6_read at hf
  refine z_mutI RX6 (by decide +kernel) rfl rfl (Nat.le_of_ble_eq_true rfl) ?_
  intro p e s m args below meth c Q A ls hx hb hml hown hts hK hP hD hS hA hret hl
  have hl : lv_has ls 3 [(0, .ref (q 0))] := hl
  refine lv_aload_n hx hb (zD_g DX6_read 0 rfl) rfl (lv_at hl 0 rfl) ?_
  obtain ⟨r1, mat_2, mstart_3, mtoken_4, mvalue_5, many_6, items_7, hc8, hf⟩ := zb7_s hf
  refine z_Vm (As := []) (rest := []) (ws' := (cMod cI cZ q quiet mabove mbelow typed mat_2 mstart_3 mtoken_4 mvalue_5 many_6 book images mkept aside refused text items_7 drawn row best)) ⟨hx, hb, hml, hown, hts⟩ hK (c6_reads (quiet := quiet) (mabove := mabove) (mbelow := mbelow) (typed := typed) (mat := mat) (mstart := mstart) (mtoken := mtoken) (mvalue := mvalue) (many := many) (book := book) (images := images) (mkept := mkept) (aside := aside) (refused := refused) (text := text) (items := items) (drawn := drawn) (row := row) (best := best) (q := q) hc8) (cwV 0 hts gX6_read_X6_reads rfl rfl rfl hd6_reads ⟨Nat.le_of_ble_eq_true rfl, Nat.le_of_ble_eq_true rfl⟩) hP hD hS hA 11 [0, 1, 2, 3, 4, 5, 6, 7, 8, 9, 10] [] [0, 1, 2, 3, 4, 5, 6, 7, 8, 9, 10] (by decide +kernel) rfl rfl rfl rfl rfl rfl rfl hl.1 rfl rfl (Nat.le_of_ble_eq_true rfl) (zD_g DX6_read 1 rfl) ⟨Nat.zero_le _, Nat.zero_le _⟩ (fun H locs hP hD hS => ?_)
  refine lv_if_ne (tgt := 15) hx hb (zD_g DX6_read 2 rfl) (by decide) (fun c9 => ?_) (fun c9 => ?_)
  · replace hf := z_f c9 hf
    refine lv_iconst (v := (0 : Int32)) hx hb (zD_g DX6_read 8 rfl) (by decide) ?_
    refine lv_istore_n (lv' := [(1, .int (0 : Int32)), (0, .ref (q 0))]) hx hb (zD_g DX6_read 9 rfl) rfl hl (by decide) rfl (fun ls hl => ?_)
    have hL12 : ∀ (k12 : (Nat → Int32) → Option (Int32 × Int32 × Int32 × Int32 × Int32 × Int32 × Int32 × (Nat → Int32) × (Nat → Int32) × (Nat → Int32) × (Nat → Int32))) (hk12 : ∀ (aside_17 : Nat → Int32), k12 aside_17 = some (r, d_quiet, d_mat, d_mstart, d_mtoken, d_mvalue, d_many, d_book, d_aside, d_refused, d_items) → ∀ (H : Heap) (locs : List Loc), va_P D vwCl (cMod cI cZ q quiet mabove mbelow typed mat_2 mstart_3 mtoken_4 mvalue_5 many_6 book images mkept aside_17 refused text items_7 drawn row best) H → va_D A (cMod cI cZ q quiet mabove mbelow typed mat_2 mstart_3 mtoken_4 mvalue_5 many_6 book images mkept aside_17 refused text items_7 drawn row best) → va_S A s.heap H locs → ∀ (ls : Array Slot), lv_has ls 3 [(0, .ref (q 0))] → W p l e rm6_read s m args below meth c H locs 0 0 Q (F0 m 42 ls [])) (n12 : Nat) (y10 : Int32) (aside_11 : Nat → Int32), L6_read_17 k12 book n12 y10 aside_11 = some (r, d_quiet, d_mat, d_mstart, d_mtoken, d_mvalue, d_many, d_book, d_aside, d_refused, d_items) → ∀ (H : Heap) (locs : List Loc), va_P D vwCl (cMod cI cZ q quiet mabove mbelow typed mat_2 mstart_3 mtoken_4 mvalue_5 many_6 book images mkept aside_11 refused text items_7 drawn row best) H → va_D A (cMod cI cZ q quiet mabove mbelow typed mat_2 mstart_3 mtoken_4 mvalue_5 many_6 book images mkept aside_11 refused text items_7 drawn row best) → va_S A s.heap H locs → ∀ (ls : Array Slot), lv_has ls 3 [(0, .ref (q 0)), (1, .int y10)] → W p l e rm6_read s m args below meth c H locs 0 0 Q (F0 m 17 ls []) := by
      intro k12 hk12 n12
      induction n12 with
      | zero =>
        intro y10 aside_11 hf
        cases hf
      | succ n12 ih12 =>
        intro y10 aside_11 hf H locs hP hD hS ls hl
        rw [L6_read_17] at hf
        refine lv_iload_n hx hb (zD_g DX6_read 10 rfl) rfl (lv_at hl 1 rfl) ?_
        refine lv_sipush (v := (230 : Int32)) hx hb (zD_g DX6_read 11 rfl) (by decide) ?_
        refine lv_icmp_ge (tgt := 42) hx hb (zD_g DX6_read 12 rfl) (by decide) (fun c13 => ?_) (fun c13 => ?_)
        · replace hf := z_t c13 hf
          exact hk12 _ hf _ _ hP hD hS ls (lv_sub hl [0] rfl)
        · replace hf := z_f c13 hf
          refine lv_aload_n hx hb (zD_g DX6_read 13 rfl) rfl (lv_at hl 0 rfl) ?_
          refine va_get (D := D) (ci := 5) (v := .ref (q 4)) (C := RX6) (T := TX6) (N := 19) hx hb hts in6_read_6 hown hK.1 hP 0 rfl rfl 3 (by decide) (hts _ (List.mem_of_getElem? (i := 2) rfl)) (fun _ h9 => h9) rfl (zD_g DX6_read 14 rfl) ?_
          refine lv_iload_n hx hb (zD_g DX6_read 15 rfl) rfl (lv_at hl 1 rfl) ?_
          refine lv_aload_n hx hb (zD_g DX6_read 16 rfl) rfl (lv_at hl 0 rfl) ?_
          refine va_get (D := D) (ci := 5) (v := .ref (q 1)) (C := RX6) (T := TX6) (N := 19) hx hb hts in6_read_6 hown hK.1 hP 0 rfl rfl 0 (by decide) (hts _ (List.mem_of_getElem? (i := 3) rfl)) (fun _ h9 => h9) rfl (zD_g DX6_read 17 rfl) ?_
          refine lv_iload_n hx hb (zD_g DX6_read 18 rfl) rfl (lv_at hl 1 rfl) ?_
          obtain ⟨h14, hf⟩ := zg_s hf
          refine z_iald (k := y10.toNatClampNeg) hx hb hK.1 hP 1 0 rfl rfl h14 rfl (zD_g DX6_read 19 rfl) ?_
          refine lv_topi (fun x15 ex15 => ?_)
          replace hf := zl_s hf x15 ex15
          obtain ⟨h16, hf⟩ := zg_s hf
          refine z_iast (k := y10.toNatClampNeg) (ws' := (cMod cI cZ q quiet mabove mbelow typed mat_2 mstart_3 mtoken_4 mvalue_5 many_6 book images mkept (upd aside_11 y10.toNatClampNeg x15) refused text items_7 drawn row best)) hx hb hK.1 hP hD hS 4 0 rfl rfl h16 rfl rfl (zD_g DX6_read 20 rfl) (fun H locs hP hD hS => ?_)
          refine lv_iinc (v := y10 + 1) (lv' := [(1, .int (y10 + 1)), (0, .ref (q 0))]) (k := 1) hx hb (zD_g DX6_read 21 rfl) hl rfl rfl (by decide) rfl (fun ls hl => ?_)
          refine lv_goto (tgt := 17) hx hb (zD_g DX6_read 22 rfl) (by decide) ?_
          exact ih12 _ _ hf _ _ hP hD hS ls (lv_sub hl [1, 0] rfl)
    refine hL12 _ (fun aside_17 hf H locs hP hD hS ls hl => ?_) _ _ _ hf _ _ hP hD hS ls (lv_sub hl [1, 0] rfl)
    refine lv_aload_n hx hb (zD_g DX6_read 23 rfl) rfl (lv_at hl 0 rfl) ?_
    obtain ⟨book_18, hc19, hf⟩ := zb1_s hf
    refine z_Vm (As := []) (rest := []) (ws' := (cMod cI cZ q quiet mabove mbelow typed mat_2 mstart_3 mtoken_4 mvalue_5 many_6 book_18 images mkept aside_17 refused text items_7 drawn row best)) ⟨hx, hb, hml, hown, hts⟩ hK (c6_empties (quiet := quiet) (mabove := mabove) (mbelow := mbelow) (typed := typed) (mat := mat_2) (mstart := mstart_3) (mtoken := mtoken_4) (mvalue := mvalue_5) (many := many_6) (book := book) (images := images) (mkept := mkept) (aside := aside_17) (refused := refused) (text := text) (items := items_7) (drawn := drawn) (row := row) (best := best) (q := q) hc19) (cwV 0 hts gX6_read_X6_empties rfl rfl rfl hd6_empties ⟨Nat.le_of_ble_eq_true rfl, Nat.le_of_ble_eq_true rfl⟩) hP hD hS hA 11 [0, 1, 2, 3, 4, 5, 6, 7, 8, 9, 10] [] [0, 1, 2, 3, 4, 5, 6, 7, 8, 9, 10] (by decide +kernel) rfl rfl rfl rfl rfl rfl rfl hl.1 rfl rfl (Nat.le_of_ble_eq_true rfl) (zD_g DX6_read 24 rfl) ⟨Nat.zero_le _, Nat.zero_le _⟩ (fun H locs hP hD hS => ?_)
    refine lv_aload_n hx hb (zD_g DX6_read 25 rfl) rfl (lv_at hl 0 rfl) ?_
    refine lv_iconst (v := (1 : Int32)) hx hb (zD_g DX6_read 26 rfl) (by decide) ?_
    refine z_put (D := D) (ci := 5) (v := .int (1 : Int32)) (ty := .boolean) (C := RX6) (T := TX6) (N := 19) (ws' := (cMod cI cZ q (1 : Int32) mabove mbelow typed mat_2 mstart_3 mtoken_4 mvalue_5 many_6 book_18 images mkept aside_17 refused text items_7 drawn row best)) hx hb hts in6_read_6 tyX6 tyX6_ok nmX6 hown hK.1 hP hD hS 0 rfl rfl 5 (by decide) (hts _ (List.mem_of_getElem? (i := 4) rfl)) (fun _ h9 => h9) rfl (tyX6_ok 5 (by decide)) rfl rfl (Nat.le_of_ble_eq_true rfl) rfl (zD_g DX6_read 27 rfl) (fun H locs hP hD hS => ?_)
    refine lv_iconst (v := (0 : Int32)) hx hb (zD_g DX6_read 28 rfl) (by decide) ?_
    refine lv_istore_n (lv' := [(1, .int (0 : Int32)), (0, .ref (q 0))]) hx hb (zD_g DX6_read 29 rfl) rfl hl (by decide) rfl (fun ls hl => ?_)
    have hL23 : ∀ (k23 : Int32 → (Nat → Int32) → (Nat → Int32) → Option (Int32 × Int32 × Int32 × Int32 × Int32 × Int32 × Int32 × (Nat → Int32) × (Nat → Int32) × (Nat → Int32) × (Nat → Int32))) (hk23 : ∀ (y30 : Int32) (book_31 : Nat → Int32) (refused_32 : Nat → Int32), k23 y30 book_31 refused_32 = some (r, d_quiet, d_mat, d_mstart, d_mtoken, d_mvalue, d_many, d_book, d_aside, d_refused, d_items) → ∀ (H : Heap) (locs : List Loc), va_P D vwCl (cMod cI cZ q (1 : Int32) mabove mbelow typed mat_2 mstart_3 mtoken_4 mvalue_5 many_6 book_31 images mkept aside_17 refused_32 text items_7 drawn row best) H → va_D A (cMod cI cZ q (1 : Int32) mabove mbelow typed mat_2 mstart_3 mtoken_4 mvalue_5 many_6 book_31 images mkept aside_17 refused_32 text items_7 drawn row best) → va_S A s.heap H locs → ∀ (ls : Array Slot), lv_has ls 3 [(0, .ref (q 0)), (1, .int y30)] → W p l e rm6_read s m args below meth c H locs 0 0 Q (F0 m 75 ls [])) (n23 : Nat) (y20 : Int32) (book_21 : Nat → Int32) (refused_22 : Nat → Int32), L6_read_53 k23 many_6 items_7 n23 y20 book_21 refused_22 = some (r, d_quiet, d_mat, d_mstart, d_mtoken, d_mvalue, d_many, d_book, d_aside, d_refused, d_items) → ∀ (H : Heap) (locs : List Loc), va_P D vwCl (cMod cI cZ q (1 : Int32) mabove mbelow typed mat_2 mstart_3 mtoken_4 mvalue_5 many_6 book_21 images mkept aside_17 refused_22 text items_7 drawn row best) H → va_D A (cMod cI cZ q (1 : Int32) mabove mbelow typed mat_2 mstart_3 mtoken_4 mvalue_5 many_6 book_21 images mkept aside_17 refused_22 text items_7 drawn row best) → va_S A s.heap H locs → ∀ (ls : Array Slot), lv_has ls 3 [(0, .ref (q 0)), (1, .int y20)] → W p l e rm6_read s m args below meth c H locs 0 0 Q (F0 m 53 ls []) := by
      intro k23 hk23 n23
      induction n23 with
      | zero =>
        intro y20 book_21 refused_22 hf
        cases hf
      | succ n23 ih23 =>
        intro y20 book_21 refused_22 hf H locs hP hD hS ls hl
        rw [L6_read_53] at hf
        refine lv_iload_n hx hb (zD_g DX6_read 30 rfl) rfl (lv_at hl 1 rfl) ?_
        refine lv_aload_n hx hb (zD_g DX6_read 31 rfl) rfl (lv_at hl 0 rfl) ?_
        refine va_get (D := D) (ci := 5) (v := .int many_6) (C := RX6) (T := TX6) (N := 19) hx hb hts in6_read_6 hown hK.1 hP 0 rfl rfl 15 (by decide) (hts _ (List.mem_of_getElem? (i := 5) rfl)) (fun _ h9 => h9) rfl (zD_g DX6_read 32 rfl) ?_
        refine lv_icmp_ge (tgt := 75) hx hb (zD_g DX6_read 33 rfl) (by decide) (fun c24 => ?_) (fun c24 => ?_)
        · replace hf := z_t c24 hf
          exact hk23 _ _ _ hf _ _ hP hD hS ls (lv_sub hl [0, 1] rfl)
        · replace hf := z_f c24 hf
          refine lv_aload_n hx hb (zD_g DX6_read 34 rfl) rfl (lv_at hl 0 rfl) ?_
          refine lv_iload_n hx hb (zD_g DX6_read 35 rfl) rfl (lv_at hl 1 rfl) ?_
          obtain ⟨r25, book_26, refused_27, hc28, hf⟩ := zb3_s hf
          refine z_Vm (As := [.int y20]) (rest := []) (ws' := (cMod cI cZ q (1 : Int32) mabove mbelow typed mat_2 mstart_3 mtoken_4 mvalue_5 many_6 book_26 images mkept aside_17 refused_27 text items_7 drawn row best)) ⟨hx, hb, hml, hown, hts⟩ hK (c6_tellsItem (quiet := (1 : Int32)) (mabove := mabove) (mbelow := mbelow) (typed := typed) (mat := mat_2) (mstart := mstart_3) (mtoken := mtoken_4) (mvalue := mvalue_5) (many := many_6) (book := book_21) (images := images) (mkept := mkept) (aside := aside_17) (refused := refused_22) (text := text) (items := items_7) (drawn := drawn) (row := row) (best := best) (q := q) hc28) (cwV 1 hts gX6_read_X6_tellsItem rfl rfl rfl hd6_tellsItem ⟨Nat.le_of_ble_eq_true rfl, Nat.le_of_ble_eq_true rfl⟩) hP hD hS hA 11 [0, 1, 2, 3, 4, 5, 6, 7, 8, 9, 10] [] [0, 1, 2, 3, 4, 5, 6, 7, 8, 9, 10] (by decide +kernel) rfl rfl rfl rfl rfl rfl rfl hl.1 rfl rfl (Nat.le_of_ble_eq_true rfl) (zD_g DX6_read 36 rfl) ⟨Nat.zero_le _, Nat.zero_le _⟩ (fun H locs hP hD hS => ?_)
          refine lv_if_eq (tgt := 75) hx hb (zD_g DX6_read 37 rfl) (by decide) (fun c29 => ?_) (fun c29 => ?_)
          · replace hf := z_t c29 hf
            exact hk23 _ _ _ hf _ _ hP hD hS ls (lv_sub hl [0, 1] rfl)
          · replace hf := z_f c29 hf
            refine lv_iinc (v := y20 + 1) (lv' := [(1, .int (y20 + 1)), (0, .ref (q 0))]) (k := 1) hx hb (zD_g DX6_read 38 rfl) hl rfl rfl (by decide) rfl (fun ls hl => ?_)
            refine lv_goto (tgt := 53) hx hb (zD_g DX6_read 39 rfl) (by decide) ?_
            exact ih23 _ _ _ hf _ _ hP hD hS ls (lv_sub hl [1, 0] rfl)
    refine hL23 _ (fun y30 book_31 refused_32 hf H locs hP hD hS ls hl => ?_) _ _ _ _ hf _ _ hP hD hS ls (lv_sub hl [1, 0] rfl)
    refine lv_aload_n hx hb (zD_g DX6_read 40 rfl) rfl (lv_at hl 0 rfl) ?_
    refine lv_iconst (v := (0 : Int32)) hx hb (zD_g DX6_read 41 rfl) (by decide) ?_
    refine z_put (D := D) (ci := 5) (v := .int (0 : Int32)) (ty := .boolean) (C := RX6) (T := TX6) (N := 19) (ws' := (cMod cI cZ q (0 : Int32) mabove mbelow typed mat_2 mstart_3 mtoken_4 mvalue_5 many_6 book_31 images mkept aside_17 refused_32 text items_7 drawn row best)) hx hb hts in6_read_6 tyX6 tyX6_ok nmX6 hown hK.1 hP hD hS 0 rfl rfl 5 (by decide) (hts _ (List.mem_of_getElem? (i := 4) rfl)) (fun _ h9 => h9) rfl (tyX6_ok 5 (by decide)) rfl rfl (Nat.le_of_ble_eq_true rfl) rfl (zD_g DX6_read 42 rfl) (fun H locs hP hD hS => ?_)
    refine lv_iload_n hx hb (zD_g DX6_read 43 rfl) rfl (lv_at hl 1 rfl) ?_
    refine lv_aload_n hx hb (zD_g DX6_read 44 rfl) rfl (lv_at hl 0 rfl) ?_
    refine va_get (D := D) (ci := 5) (v := .int many_6) (C := RX6) (T := TX6) (N := 19) hx hb hts in6_read_6 hown hK.1 hP 0 rfl rfl 15 (by decide) (hts _ (List.mem_of_getElem? (i := 5) rfl)) (fun _ h9 => h9) rfl (zD_g DX6_read 45 rfl) ?_
    refine lv_icmp_ne (tgt := 100) hx hb (zD_g DX6_read 46 rfl) (by decide) (fun c33 => ?_) (fun c33 => ?_)
    · replace hf := z_f c33 hf
      refine lv_iconst (v := (0 : Int32)) hx hb (zD_g DX6_read 55 rfl) (by decide) ?_
      refine lv_istore_n (lv' := [(2, .int (0 : Int32)), (0, .ref (q 0)), (1, .int y30)]) hx hb (zD_g DX6_read 56 rfl) rfl hl (by decide) rfl (fun ls hl => ?_)
      have hL36 : ∀ (k36 : (Nat → Int32) → Option (Int32 × Int32 × Int32 × Int32 × Int32 × Int32 × Int32 × (Nat → Int32) × (Nat → Int32) × (Nat → Int32) × (Nat → Int32))) (hk36 : ∀ (book_41 : Nat → Int32), k36 book_41 = some (r, d_quiet, d_mat, d_mstart, d_mtoken, d_mvalue, d_many, d_book, d_aside, d_refused, d_items) → ∀ (H : Heap) (locs : List Loc), va_P D vwCl (cMod cI cZ q (0 : Int32) mabove mbelow typed mat_2 mstart_3 mtoken_4 mvalue_5 many_6 book_41 images mkept aside_17 refused_32 text items_7 drawn row best) H → va_D A (cMod cI cZ q (0 : Int32) mabove mbelow typed mat_2 mstart_3 mtoken_4 mvalue_5 many_6 book_41 images mkept aside_17 refused_32 text items_7 drawn row best) → va_S A s.heap H locs → ∀ (ls : Array Slot), lv_has ls 3 [(1, .int y30)] → W p l e rm6_read s m args below meth c H locs 0 0 Q (F0 m 127 ls [])) (n36 : Nat) (y34 : Int32) (book_35 : Nat → Int32), L6_read_102 k36 aside_17 n36 y34 book_35 = some (r, d_quiet, d_mat, d_mstart, d_mtoken, d_mvalue, d_many, d_book, d_aside, d_refused, d_items) → ∀ (H : Heap) (locs : List Loc), va_P D vwCl (cMod cI cZ q (0 : Int32) mabove mbelow typed mat_2 mstart_3 mtoken_4 mvalue_5 many_6 book_35 images mkept aside_17 refused_32 text items_7 drawn row best) H → va_D A (cMod cI cZ q (0 : Int32) mabove mbelow typed mat_2 mstart_3 mtoken_4 mvalue_5 many_6 book_35 images mkept aside_17 refused_32 text items_7 drawn row best) → va_S A s.heap H locs → ∀ (ls : Array Slot), lv_has ls 3 [(0, .ref (q 0)), (1, .int y30), (2, .int y34)] → W p l e rm6_read s m args below meth c H locs 0 0 Q (F0 m 102 ls []) := by
        intro k36 hk36 n36
        induction n36 with
        | zero =>
          intro y34 book_35 hf
          cases hf
        | succ n36 ih36 =>
          intro y34 book_35 hf H locs hP hD hS ls hl
          rw [L6_read_102] at hf
          refine lv_iload_n hx hb (zD_g DX6_read 57 rfl) rfl (lv_at hl 2 rfl) ?_
          refine lv_sipush (v := (230 : Int32)) hx hb (zD_g DX6_read 58 rfl) (by decide) ?_
          refine lv_icmp_ge (tgt := 127) hx hb (zD_g DX6_read 59 rfl) (by decide) (fun c37 => ?_) (fun c37 => ?_)
          · replace hf := z_t c37 hf
            exact hk36 _ hf _ _ hP hD hS ls (lv_sub hl [1] rfl)
          · replace hf := z_f c37 hf
            refine lv_aload_n hx hb (zD_g DX6_read 60 rfl) rfl (lv_at hl 0 rfl) ?_
            refine va_get (D := D) (ci := 5) (v := .ref (q 1)) (C := RX6) (T := TX6) (N := 19) hx hb hts in6_read_6 hown hK.1 hP 0 rfl rfl 0 (by decide) (hts _ (List.mem_of_getElem? (i := 3) rfl)) (fun _ h9 => h9) rfl (zD_g DX6_read 61 rfl) ?_
            refine lv_iload_n hx hb (zD_g DX6_read 62 rfl) rfl (lv_at hl 2 rfl) ?_
            refine lv_aload_n hx hb (zD_g DX6_read 63 rfl) rfl (lv_at hl 0 rfl) ?_
            refine va_get (D := D) (ci := 5) (v := .ref (q 4)) (C := RX6) (T := TX6) (N := 19) hx hb hts in6_read_6 hown hK.1 hP 0 rfl rfl 3 (by decide) (hts _ (List.mem_of_getElem? (i := 2) rfl)) (fun _ h9 => h9) rfl (zD_g DX6_read 64 rfl) ?_
            refine lv_iload_n hx hb (zD_g DX6_read 65 rfl) rfl (lv_at hl 2 rfl) ?_
            obtain ⟨h38, hf⟩ := zg_s hf
            refine z_iald (k := y34.toNatClampNeg) hx hb hK.1 hP 4 0 rfl rfl h38 rfl (zD_g DX6_read 66 rfl) ?_
            refine lv_topi (fun x39 ex39 => ?_)
            replace hf := zl_s hf x39 ex39
            obtain ⟨h40, hf⟩ := zg_s hf
            refine z_iast (k := y34.toNatClampNeg) (ws' := (cMod cI cZ q (0 : Int32) mabove mbelow typed mat_2 mstart_3 mtoken_4 mvalue_5 many_6 (upd book_35 y34.toNatClampNeg x39) images mkept aside_17 refused_32 text items_7 drawn row best)) hx hb hK.1 hP hD hS 1 0 rfl rfl h40 rfl rfl (zD_g DX6_read 67 rfl) (fun H locs hP hD hS => ?_)
            refine lv_iinc (v := y34 + 1) (lv' := [(2, .int (y34 + 1)), (0, .ref (q 0)), (1, .int y30)]) (k := 2) hx hb (zD_g DX6_read 68 rfl) hl rfl rfl (by decide) rfl (fun ls hl => ?_)
            refine lv_goto (tgt := 102) hx hb (zD_g DX6_read 69 rfl) (by decide) ?_
            exact ih36 _ _ hf _ _ hP hD hS ls (lv_sub hl [1, 2, 0] rfl)
      refine hL36 _ (fun book_41 hf H locs hP hD hS ls hl => ?_) _ _ _ hf _ _ hP hD hS ls (lv_sub hl [1, 2, 0] rfl)
      refine lv_sipush (v := (-1000 : Int32)) hx hb (zD_g DX6_read 70 rfl) (by decide) ?_
      refine lv_iload_n hx hb (zD_g DX6_read 71 rfl) rfl (lv_at hl 0 rfl) ?_
      refine lv_isub hx hb (zD_g DX6_read 72 rfl) ?_
      refine lv_topi (fun x42 ex42 => ?_)
      replace hf := zl_s hf x42 ex42
      cases hf
      exact hret _ _ _ _ hP hD hS (zD_g DX6_read 73 rfl)
    · replace hf := z_t c33 hf
      refine lv_aload_n hx hb (zD_g DX6_read 47 rfl) rfl (lv_at hl 0 rfl) ?_
      refine va_get (D := D) (ci := 5) (v := .ref (q 1)) (C := RX6) (T := TX6) (N := 19) hx hb hts in6_read_6 hown hK.1 hP 0 rfl rfl 0 (by decide) (hts _ (List.mem_of_getElem? (i := 3) rfl)) (fun _ h9 => h9) rfl (zD_g DX6_read 48 rfl) ?_
      refine lv_iconst (v := (3 : Int32)) hx hb (zD_g DX6_read 49 rfl) (by decide) ?_
      refine lv_iconst (v := (0 : Int32)) hx hb (zD_g DX6_read 50 rfl) (by decide) ?_
      refine z_iast (k := 3) (ws' := (cMod cI cZ q (0 : Int32) mabove mbelow typed mat_2 mstart_3 mtoken_4 mvalue_5 many_6 (upd book_31 3 (0 : Int32)) images mkept aside_17 refused_32 text items_7 drawn row best)) hx hb hK.1 hP hD hS 1 0 rfl rfl (by unfold vp_in; decide) rfl rfl (zD_g DX6_read 51 rfl) (fun H locs hP hD hS => ?_)
      refine lv_aload_n hx hb (zD_g DX6_read 52 rfl) rfl (lv_at hl 0 rfl) ?_
      refine va_get (D := D) (ci := 5) (v := .int many_6) (C := RX6) (T := TX6) (N := 19) hx hb hts in6_read_6 hown hK.1 hP 0 rfl rfl 15 (by decide) (hts _ (List.mem_of_getElem? (i := 5) rfl)) (fun _ h9 => h9) rfl (zD_g DX6_read 53 rfl) ?_
      cases hf
      exact hret _ _ _ _ hP hD hS (zD_g DX6_read 54 rfl)
  · replace hf := z_t c9 hf
    refine lv_bipush (v := (-10 : Int32)) hx hb (zD_g DX6_read 3 rfl) (by decide) ?_
    refine lv_aload_n hx hb (zD_g DX6_read 4 rfl) rfl (lv_at hl 0 rfl) ?_
    refine va_get (D := D) (ci := 5) (v := .int mstart_3) (C := RX6) (T := TX6) (N := 19) hx hb hts in6_read_6 hown hK.1 hP 0 rfl rfl 11 (by decide) (hts _ (List.mem_of_getElem? (i := 1) rfl)) (fun _ h9 => h9) rfl (zD_g DX6_read 5 rfl) ?_
    refine lv_isub hx hb (zD_g DX6_read 6 rfl) ?_
    refine lv_topi (fun x43 ex43 => ?_)
    replace hf := zl_s hf x43 ex43
    cases hf
    exact hret _ _ _ _ hP hD hS (zD_g DX6_read 7 rfl)
abbrev dlX6_weighs : List (Nat × Instr × Nat) := [(0, .aload_n 0, 1), (1, .getfield 7, 3), (4, .bipush 44, 2), (6, .iload_n 1, 1), (7, .iadd, 1), (8, .iaload, 1), (9, .istore_n 3, 1), (10, .aload_n 0, 1), (11, .getfield 7, 3), (14, .iconst 2, 1), (15, .iaload, 1), (16, .bipush 9, 2), (18, .if_icmp .le 8, 3), (21, .bipush 9, 2), (23, .goto 9, 3), (26, .aload_n 0, 1), (27, .getfield 7, 3), (30, .iconst 2, 1), (31, .iaload, 1), (32, .istore 4, 2), (34, .iload_n 3, 1), (35, .iconst 2, 1), (36, .if_icmp .eq 8, 3), (39, .iload_n 3, 1), (40, .iconst 5, 1), (41, .if_icmp .ne 8, 3), (44, .iload 4, 2), (46, .goto 4, 3), (49, .iconst 0, 1), (50, .istore 5, 2), (52, .aload_n 0, 1), (53, .getfield 7, 3), (56, .bipush 50, 2), (58, .iload_n 1, 1), (59, .iadd, 1), (60, .iaload, 1), (61, .iload_n 3, 1), (62, .iconst 3, 1), (63, .if_icmp .ne 7, 3), (66, .iconst 0, 1), (67, .goto 9, 3), (70, .aload_n 0, 1), (71, .iload_n 2, 1), (72, .iconst 1, 1), (73, .invokevirtual 91, 3), (76, .iadd, 1), (77, .iload 5, 2), (79, .iadd, 1), (80, .ireturn, 1)]
theorem DX6_weighs : zD cX6_weighs dlX6_weighs = true := by decide +kernel
set_option maxRecDepth 20000 in
theorem ggX6_weighs_X6_sumOf : GoodIn wsX6_weighs wsX6_sumOf := goodIn_r _ [6, 1, 7, 8, 9, 10, 11, 12, 13, 14, 15, 16, 17, 18, 19, 20, 21, 22, 23, 24, 25] (by decide +kernel) (by decide +kernel)
set_option maxRecDepth 20000 in
theorem gX6_weighs_X6_sumOf : GoodIn wsX6_weighs (wsV RX6 91 RX6 yX6_sumOf wsX6_sumOf) := goodIn_app (goodIn_of _ (by decide +kernel)) ggX6_weighs_X6_sumOf
theorem hd6_weighs : yX6_weighs.cls = RX6 ∧ yX6_weighs.cls ≠ "java/lang/invoke/MethodHandle" ∧ yX6_weighs.cls ≠ "java/lang/invoke/VarHandle" ∧ (parseMethodDescriptor yX6_weighs.desc).map (fun d => d.parameters.length) = some 2 := by decide +kernel
abbrev rm6_weighs : Room := { frames := 1, cells := 0, slots := 0, locals := 24 }
theorem in6_weighs_6 : ∀ w ∈ wsX60, w ∈ wsX6_weighs := fun w h => List.mem_cons_of_mem _ (List.mem_append_right _ h)
set_option maxHeartbeats 4000000 in
set_option maxRecDepth 100000 in
theorem c6_weighs {l : Launch} {D : va_G} {cI cZ cB : ClassId} {q : Nat → Nat} {quiet : Int32} {mabove : Int64} {mbelow : Int64} {typed : Int32} {mat : Int32} {mstart : Int32} {mtoken : Int32} {mvalue : Int32} {many : Int32} {book : Nat → Int32} {images : Nat → Int32} {mkept : Nat → Int32} {aside : Nat → Int32} {refused : Nat → Int32} {text : Nat → Int32} {items : Nat → Int32} {drawn : Nat → Int32} {row : Nat → Int32} {best : Nat → Int32} {a_g : Int32} {a_set : Int32} {r : Int32}  (hf : f6_weighs book a_g a_set = some r) : Met l yX6_weighs wsX6_weighs rm6_weighs (zPp D cI cZ cB [.ref (q 0), .int a_g, .int a_set] (cMod cI cZ q quiet mabove mbelow typed mat mstart mtoken mvalue many book images mkept aside refused text items drawn row best)) (zQp (some (.int r))) 0 0 (fun _ => False) := by
  unfold f6_weighs at hf
  refine z_pureI RX6 (by decide +kernel) rfl rfl (Nat.le_of_ble_eq_true rfl) ?_
  intro p e s m args below meth c Q ls hx hb hml hown hts hK hP hret hl
  have hl : lv_has ls 6 [(0, .ref (q 0)), (1, .int a_g), (2, .int a_set)] := hl
  refine lv_aload_n hx hb (zD_g DX6_weighs 0 rfl) rfl (lv_at hl 0 rfl) ?_
  refine va_get (D := D) (ci := 5) (v := .ref (q 1)) (C := RX6) (T := TX6) (N := 19) hx hb hts in6_weighs_6 hown hK.1 hP 0 rfl rfl 0 (by decide) (hts _ (List.mem_of_getElem? (i := 1) rfl)) (fun _ h9 => h9) rfl (zD_g DX6_weighs 1 rfl) ?_
  refine lv_bipush (v := (44 : Int32)) hx hb (zD_g DX6_weighs 2 rfl) (by decide) ?_
  refine lv_iload_n hx hb (zD_g DX6_weighs 3 rfl) rfl (lv_at hl 1 rfl) ?_
  refine lv_iadd hx hb (zD_g DX6_weighs 4 rfl) ?_
  obtain ⟨h1, hf⟩ := zg_s hf
  refine z_iald (k := ((44 : Int32) + a_g).toNatClampNeg) hx hb hK.1 hP 1 0 rfl rfl h1 rfl (zD_g DX6_weighs 5 rfl) ?_
  refine lv_topi (fun x2 ex2 => ?_)
  replace hf := zl_s hf x2 ex2
  refine lv_istore_n (lv' := [(3, .int x2), (0, .ref (q 0)), (1, .int a_g), (2, .int a_set)]) hx hb (zD_g DX6_weighs 6 rfl) rfl hl (by decide) rfl (fun ls hl => ?_)
  refine lv_aload_n hx hb (zD_g DX6_weighs 7 rfl) rfl (lv_at hl 1 rfl) ?_
  refine va_get (D := D) (ci := 5) (v := .ref (q 1)) (C := RX6) (T := TX6) (N := 19) hx hb hts in6_weighs_6 hown hK.1 hP 0 rfl rfl 0 (by decide) (hts _ (List.mem_of_getElem? (i := 1) rfl)) (fun _ h9 => h9) rfl (zD_g DX6_weighs 8 rfl) ?_
  refine lv_iconst (v := (2 : Int32)) hx hb (zD_g DX6_weighs 9 rfl) (by decide) ?_
  refine z_iald (k := 2) hx hb hK.1 hP 1 0 rfl rfl (by unfold vp_in; decide) rfl (zD_g DX6_weighs 10 rfl) ?_
  refine lv_bipush (v := (9 : Int32)) hx hb (zD_g DX6_weighs 11 rfl) (by decide) ?_
  obtain ⟨v4, hr15, hf⟩ := zb1_s hf
  have hJ15 : ∀ (ls : Array Slot), lv_has ls 6 [(0, .ref (q 0)), (1, .int a_g), (2, .int a_set), (3, .int x2)] → W p l e rm6_weighs s m args below meth c s.heap [] 0 0 Q (F0 m 32 ls [.int v4]) := by
    intro ls hl
    refine lv_istore (lv' := [(4, .int v4), (0, .ref (q 0)), (1, .int a_g), (2, .int a_set), (3, .int x2)]) hx hb (zD_g DX6_weighs 19 rfl) hl (by decide) rfl (fun ls hl => ?_)
    refine lv_iload_n hx hb (zD_g DX6_weighs 20 rfl) rfl (lv_at hl 4 rfl) ?_
    refine lv_iconst (v := (2 : Int32)) hx hb (zD_g DX6_weighs 21 rfl) (by decide) ?_
    obtain ⟨v6, hr13, hf⟩ := zb1_s hf
    have hJ13 : ∀ (ls : Array Slot), lv_has ls 6 [(0, .ref (q 0)), (1, .int a_g), (2, .int a_set), (3, .int x2)] → W p l e rm6_weighs s m args below meth c s.heap [] 0 0 Q (F0 m 50 ls [.int v6]) := by
      intro ls hl
      refine lv_istore (lv' := [(5, .int v6), (0, .ref (q 0)), (1, .int a_g), (2, .int a_set), (3, .int x2)]) hx hb (zD_g DX6_weighs 29 rfl) hl (by decide) rfl (fun ls hl => ?_)
      refine lv_aload_n hx hb (zD_g DX6_weighs 30 rfl) rfl (lv_at hl 1 rfl) ?_
      refine va_get (D := D) (ci := 5) (v := .ref (q 1)) (C := RX6) (T := TX6) (N := 19) hx hb hts in6_weighs_6 hown hK.1 hP 0 rfl rfl 0 (by decide) (hts _ (List.mem_of_getElem? (i := 1) rfl)) (fun _ h9 => h9) rfl (zD_g DX6_weighs 31 rfl) ?_
      refine lv_bipush (v := (50 : Int32)) hx hb (zD_g DX6_weighs 32 rfl) (by decide) ?_
      refine lv_iload_n hx hb (zD_g DX6_weighs 33 rfl) rfl (lv_at hl 2 rfl) ?_
      refine lv_iadd hx hb (zD_g DX6_weighs 34 rfl) ?_
      obtain ⟨h7, hf⟩ := zg_s hf
      refine z_iald (k := ((50 : Int32) + a_g).toNatClampNeg) hx hb hK.1 hP 1 0 rfl rfl h7 rfl (zD_g DX6_weighs 35 rfl) ?_
      refine lv_iload_n hx hb (zD_g DX6_weighs 36 rfl) rfl (lv_at hl 4 rfl) ?_
      refine lv_iconst (v := (3 : Int32)) hx hb (zD_g DX6_weighs 37 rfl) (by decide) ?_
      refine lv_icmp_ne (tgt := 70) hx hb (zD_g DX6_weighs 38 rfl) (by decide) (fun c8 => ?_) (fun c8 => ?_)
      · replace hf := z_f c8 hf
        refine lv_aload_n hx hb (zD_g DX6_weighs 41 rfl) rfl (lv_at hl 1 rfl) ?_
        refine lv_iload_n hx hb (zD_g DX6_weighs 42 rfl) rfl (lv_at hl 3 rfl) ?_
        refine lv_iconst (v := (1 : Int32)) hx hb (zD_g DX6_weighs 43 rfl) (by decide) ?_
        obtain ⟨r9, hc10, hf⟩ := zb1_s hf
        refine z_Vp (As := [.int a_set, .int (1 : Int32)]) (rest := [.int (book ((50 : Int32) + a_g).toNatClampNeg)]) ⟨hx, hb, hml, hown, hts⟩ hK (c6_sumOf (quiet := quiet) (mabove := mabove) (mbelow := mbelow) (typed := typed) (mat := mat) (mstart := mstart) (mtoken := mtoken) (mvalue := mvalue) (many := many) (book := book) (images := images) (mkept := mkept) (aside := aside) (refused := refused) (text := text) (items := items) (drawn := drawn) (row := row) (best := best) (q := q) hc10) (cwV 2 hts gX6_weighs_X6_sumOf rfl rfl rfl hd6_sumOf ⟨Nat.le_of_ble_eq_true rfl, Nat.le_of_ble_eq_true rfl⟩) hP rfl rfl rfl rfl hl.1 rfl rfl (Nat.le_of_ble_eq_true rfl) (zD_g DX6_weighs 44 rfl) ⟨Nat.zero_le _, Nat.zero_le _⟩ ?_
        refine lv_iadd hx hb (zD_g DX6_weighs 45 rfl) ?_
        refine lv_iload hx hb (zD_g DX6_weighs 46 rfl) (lv_at hl 0 rfl) ?_
        refine lv_iadd hx hb (zD_g DX6_weighs 47 rfl) ?_
        refine lv_topi (fun x11 ex11 => ?_)
        replace hf := zl_s hf x11 ex11
        cases hf
        exact hret _ _ (zD_g DX6_weighs 48 rfl)
      · replace hf := z_t c8 hf
        refine lv_iconst (v := (0 : Int32)) hx hb (zD_g DX6_weighs 39 rfl) (by decide) ?_
        refine lv_goto (tgt := 76) hx hb (zD_g DX6_weighs 40 rfl) (by decide) ?_
        refine lv_iadd hx hb (zD_g DX6_weighs 45 rfl) ?_
        refine lv_iload hx hb (zD_g DX6_weighs 46 rfl) (lv_at hl 0 rfl) ?_
        refine lv_iadd hx hb (zD_g DX6_weighs 47 rfl) ?_
        refine lv_topi (fun x12 ex12 => ?_)
        replace hf := zl_s hf x12 ex12
        cases hf
        exact hret _ _ (zD_g DX6_weighs 48 rfl)
    clear hf
    have hf := hr13
    refine lv_icmp_eq (tgt := 44) hx hb (zD_g DX6_weighs 22 rfl) (by decide) (fun c5 => ?_) (fun c5 => ?_)
    · replace hf := z_t c5 hf
      refine lv_iload hx hb (zD_g DX6_weighs 26 rfl) (lv_at hl 0 rfl) ?_
      refine lv_goto (tgt := 50) hx hb (zD_g DX6_weighs 27 rfl) (by decide) ?_
      cases hf
      exact hJ13 ls (lv_sub hl [1, 2, 3, 4] rfl)
    · replace hf := z_f c5 hf
      refine lv_iload_n hx hb (zD_g DX6_weighs 23 rfl) rfl (lv_at hl 4 rfl) ?_
      refine lv_iconst (v := (5 : Int32)) hx hb (zD_g DX6_weighs 24 rfl) (by decide) ?_
      refine lv_icmp_ne (tgt := 49) hx hb (zD_g DX6_weighs 25 rfl) (by decide) (fun c14 => ?_) (fun c14 => ?_)
      · replace hf := z_f c14 hf
        refine lv_iconst (v := (0 : Int32)) hx hb (zD_g DX6_weighs 28 rfl) (by decide) ?_
        cases hf
        exact hJ13 ls (lv_sub hl [1, 2, 3, 4] rfl)
      · replace hf := z_t c14 hf
        refine lv_iload hx hb (zD_g DX6_weighs 26 rfl) (lv_at hl 0 rfl) ?_
        refine lv_goto (tgt := 50) hx hb (zD_g DX6_weighs 27 rfl) (by decide) ?_
        cases hf
        exact hJ13 ls (lv_sub hl [1, 2, 3, 4] rfl)
  clear hf
  have hf := hr15
  refine lv_icmp_le (tgt := 26) hx hb (zD_g DX6_weighs 12 rfl) (by decide) (fun c3 => ?_) (fun c3 => ?_)
  · replace hf := z_t c3 hf
    refine lv_aload_n hx hb (zD_g DX6_weighs 15 rfl) rfl (lv_at hl 1 rfl) ?_
    refine va_get (D := D) (ci := 5) (v := .ref (q 1)) (C := RX6) (T := TX6) (N := 19) hx hb hts in6_weighs_6 hown hK.1 hP 0 rfl rfl 0 (by decide) (hts _ (List.mem_of_getElem? (i := 1) rfl)) (fun _ h9 => h9) rfl (zD_g DX6_weighs 16 rfl) ?_
    refine lv_iconst (v := (2 : Int32)) hx hb (zD_g DX6_weighs 17 rfl) (by decide) ?_
    refine z_iald (k := 2) hx hb hK.1 hP 1 0 rfl rfl (by unfold vp_in; decide) rfl (zD_g DX6_weighs 18 rfl) ?_
    cases hf
    exact hJ15 ls (lv_sub hl [1, 2, 3, 0] rfl)
  · replace hf := z_f c3 hf
    refine lv_bipush (v := (9 : Int32)) hx hb (zD_g DX6_weighs 13 rfl) (by decide) ?_
    refine lv_goto (tgt := 32) hx hb (zD_g DX6_weighs 14 rfl) (by decide) ?_
    cases hf
    exact hJ15 ls (lv_sub hl [1, 2, 3, 0] rfl)
abbrev dlX6_sounds : List (Nat × Instr × Nat) := [(0, .aload_n 0, 1), (1, .getfield 7, 3), (4, .bipush 44, 2), (6, .iload_n 1, 1), (7, .iadd, 1), (8, .iaload, 1), (9, .istore_n 3, 1), (10, .aload_n 0, 1), (11, .iload_n 2, 1), (12, .iconst 2, 1), (13, .invokevirtual 91, 3), (16, .istore 4, 2), (18, .iload_n 3, 1), (19, .iconst 5, 1), (20, .if_icmp .ne 12, 3), (23, .iconst 2, 1), (24, .iload 4, 2), (26, .iconst 3, 1), (27, .iadd, 1), (28, .imul, 1), (29, .goto 17, 3), (32, .iload_n 3, 1), (33, .iconst 2, 1), (34, .if_icmp .ne 10, 3), (37, .iload 4, 2), (39, .iconst 3, 1), (40, .iadd, 1), (41, .goto 5, 3), (44, .iload 4, 2), (46, .istore 5, 2), (48, .iload_n 3, 1), (49, .iconst 1, 1), (50, .if_icmp .eq 8, 3), (53, .iload_n 3, 1), (54, .iconst 4, 1), (55, .if_icmp .ne 10, 3), (58, .iload 4, 2), (60, .iconst 2, 1), (61, .idiv, 1), (62, .goto 5, 3), (65, .iload 5, 2), (67, .ireturn, 1)]
theorem DX6_sounds : zD cX6_sounds dlX6_sounds = true := by decide +kernel
set_option maxRecDepth 20000 in
theorem ggX6_sounds_X6_sumOf : GoodIn wsX6_sounds wsX6_sumOf := goodIn_r _ [6, 1, 7, 8, 9, 10, 11, 12, 13, 14, 15, 16, 17, 18, 19, 20, 21, 22, 23, 24, 25] (by decide +kernel) (by decide +kernel)
set_option maxRecDepth 20000 in
theorem gX6_sounds_X6_sumOf : GoodIn wsX6_sounds (wsV RX6 91 RX6 yX6_sumOf wsX6_sumOf) := goodIn_app (goodIn_of _ (by decide +kernel)) ggX6_sounds_X6_sumOf
theorem hd6_sounds : yX6_sounds.cls = RX6 ∧ yX6_sounds.cls ≠ "java/lang/invoke/MethodHandle" ∧ yX6_sounds.cls ≠ "java/lang/invoke/VarHandle" ∧ (parseMethodDescriptor yX6_sounds.desc).map (fun d => d.parameters.length) = some 2 := by decide +kernel
abbrev rm6_sounds : Room := { frames := 1, cells := 0, slots := 0, locals := 24 }
theorem in6_sounds_6 : ∀ w ∈ wsX60, w ∈ wsX6_sounds := fun w h => List.mem_cons_of_mem _ (List.mem_append_right _ h)
set_option maxHeartbeats 4000000 in
set_option maxRecDepth 100000 in
theorem c6_sounds {l : Launch} {D : va_G} {cI cZ cB : ClassId} {q : Nat → Nat} {quiet : Int32} {mabove : Int64} {mbelow : Int64} {typed : Int32} {mat : Int32} {mstart : Int32} {mtoken : Int32} {mvalue : Int32} {many : Int32} {book : Nat → Int32} {images : Nat → Int32} {mkept : Nat → Int32} {aside : Nat → Int32} {refused : Nat → Int32} {text : Nat → Int32} {items : Nat → Int32} {drawn : Nat → Int32} {row : Nat → Int32} {best : Nat → Int32} {a_g : Int32} {a_set : Int32} {r : Int32}  (hf : f6_sounds book a_g a_set = some r) : Met l yX6_sounds wsX6_sounds rm6_sounds (zPp D cI cZ cB [.ref (q 0), .int a_g, .int a_set] (cMod cI cZ q quiet mabove mbelow typed mat mstart mtoken mvalue many book images mkept aside refused text items drawn row best)) (zQp (some (.int r))) 0 0 (fun _ => False) := by
  unfold f6_sounds at hf
  refine z_pureI RX6 (by decide +kernel) rfl rfl (Nat.le_of_ble_eq_true rfl) ?_
  intro p e s m args below meth c Q ls hx hb hml hown hts hK hP hret hl
  have hl : lv_has ls 6 [(0, .ref (q 0)), (1, .int a_g), (2, .int a_set)] := hl
  refine lv_aload_n hx hb (zD_g DX6_sounds 0 rfl) rfl (lv_at hl 0 rfl) ?_
  refine va_get (D := D) (ci := 5) (v := .ref (q 1)) (C := RX6) (T := TX6) (N := 19) hx hb hts in6_sounds_6 hown hK.1 hP 0 rfl rfl 0 (by decide) (hts _ (List.mem_of_getElem? (i := 1) rfl)) (fun _ h9 => h9) rfl (zD_g DX6_sounds 1 rfl) ?_
  refine lv_bipush (v := (44 : Int32)) hx hb (zD_g DX6_sounds 2 rfl) (by decide) ?_
  refine lv_iload_n hx hb (zD_g DX6_sounds 3 rfl) rfl (lv_at hl 1 rfl) ?_
  refine lv_iadd hx hb (zD_g DX6_sounds 4 rfl) ?_
  obtain ⟨h1, hf⟩ := zg_s hf
  refine z_iald (k := ((44 : Int32) + a_g).toNatClampNeg) hx hb hK.1 hP 1 0 rfl rfl h1 rfl (zD_g DX6_sounds 5 rfl) ?_
  refine lv_topi (fun x2 ex2 => ?_)
  replace hf := zl_s hf x2 ex2
  refine lv_istore_n (lv' := [(3, .int x2), (0, .ref (q 0)), (1, .int a_g), (2, .int a_set)]) hx hb (zD_g DX6_sounds 6 rfl) rfl hl (by decide) rfl (fun ls hl => ?_)
  refine lv_aload_n hx hb (zD_g DX6_sounds 7 rfl) rfl (lv_at hl 1 rfl) ?_
  refine lv_iload_n hx hb (zD_g DX6_sounds 8 rfl) rfl (lv_at hl 3 rfl) ?_
  refine lv_iconst (v := (2 : Int32)) hx hb (zD_g DX6_sounds 9 rfl) (by decide) ?_
  obtain ⟨r3, hc4, hf⟩ := zb1_s hf
  refine z_Vp (As := [.int a_set, .int (2 : Int32)]) (rest := []) ⟨hx, hb, hml, hown, hts⟩ hK (c6_sumOf (quiet := quiet) (mabove := mabove) (mbelow := mbelow) (typed := typed) (mat := mat) (mstart := mstart) (mtoken := mtoken) (mvalue := mvalue) (many := many) (book := book) (images := images) (mkept := mkept) (aside := aside) (refused := refused) (text := text) (items := items) (drawn := drawn) (row := row) (best := best) (q := q) hc4) (cwV 2 hts gX6_sounds_X6_sumOf rfl rfl rfl hd6_sumOf ⟨Nat.le_of_ble_eq_true rfl, Nat.le_of_ble_eq_true rfl⟩) hP rfl rfl rfl rfl hl.1 rfl rfl (Nat.le_of_ble_eq_true rfl) (zD_g DX6_sounds 10 rfl) ⟨Nat.zero_le _, Nat.zero_le _⟩ ?_
  refine lv_istore (lv' := [(4, .int r3), (3, .int x2), (0, .ref (q 0)), (1, .int a_g), (2, .int a_set)]) hx hb (zD_g DX6_sounds 11 rfl) hl (by decide) rfl (fun ls hl => ?_)
  refine lv_iload_n hx hb (zD_g DX6_sounds 12 rfl) rfl (lv_at hl 1 rfl) ?_
  refine lv_iconst (v := (5 : Int32)) hx hb (zD_g DX6_sounds 13 rfl) (by decide) ?_
  obtain ⟨v6, hr11, hf⟩ := zb1_s hf
  have hJ11 : ∀ (ls : Array Slot), lv_has ls 6 [(3, .int x2), (4, .int r3)] → W p l e rm6_sounds s m args below meth c s.heap [] 0 0 Q (F0 m 46 ls [.int v6]) := by
    intro ls hl
    refine lv_istore (lv' := [(5, .int v6), (3, .int x2), (4, .int r3)]) hx hb (zD_g DX6_sounds 29 rfl) hl (by decide) rfl (fun ls hl => ?_)
    refine lv_iload_n hx hb (zD_g DX6_sounds 30 rfl) rfl (lv_at hl 1 rfl) ?_
    refine lv_iconst (v := (1 : Int32)) hx hb (zD_g DX6_sounds 31 rfl) (by decide) ?_
    refine lv_icmp_eq (tgt := 58) hx hb (zD_g DX6_sounds 32 rfl) (by decide) (fun c7 => ?_) (fun c7 => ?_)
    · replace hf := z_t c7 hf
      refine lv_iload hx hb (zD_g DX6_sounds 36 rfl) (lv_at hl 2 rfl) ?_
      refine lv_iconst (v := (2 : Int32)) hx hb (zD_g DX6_sounds 37 rfl) (by decide) ?_
      refine lv_idiv hx hb (zD_g DX6_sounds 38 rfl) (by decide) ?_
      refine lv_goto (tgt := 67) hx hb (zD_g DX6_sounds 39 rfl) (by decide) ?_
      refine lv_topi (fun x8 ex8 => ?_)
      replace hf := zl_s hf x8 ex8
      cases hf
      exact hret _ _ (zD_g DX6_sounds 41 rfl)
    · replace hf := z_f c7 hf
      refine lv_iload_n hx hb (zD_g DX6_sounds 33 rfl) rfl (lv_at hl 1 rfl) ?_
      refine lv_iconst (v := (4 : Int32)) hx hb (zD_g DX6_sounds 34 rfl) (by decide) ?_
      refine lv_icmp_ne (tgt := 65) hx hb (zD_g DX6_sounds 35 rfl) (by decide) (fun c9 => ?_) (fun c9 => ?_)
      · replace hf := z_f c9 hf
        refine lv_iload hx hb (zD_g DX6_sounds 40 rfl) (lv_at hl 0 rfl) ?_
        cases hf
        exact hret _ _ (zD_g DX6_sounds 41 rfl)
      · replace hf := z_t c9 hf
        refine lv_iload hx hb (zD_g DX6_sounds 36 rfl) (lv_at hl 2 rfl) ?_
        refine lv_iconst (v := (2 : Int32)) hx hb (zD_g DX6_sounds 37 rfl) (by decide) ?_
        refine lv_idiv hx hb (zD_g DX6_sounds 38 rfl) (by decide) ?_
        refine lv_goto (tgt := 67) hx hb (zD_g DX6_sounds 39 rfl) (by decide) ?_
        refine lv_topi (fun x10 ex10 => ?_)
        replace hf := zl_s hf x10 ex10
        cases hf
        exact hret _ _ (zD_g DX6_sounds 41 rfl)
  clear hf
  have hf := hr11
  refine lv_icmp_ne (tgt := 32) hx hb (zD_g DX6_sounds 14 rfl) (by decide) (fun c5 => ?_) (fun c5 => ?_)
  · replace hf := z_f c5 hf
    refine lv_iload_n hx hb (zD_g DX6_sounds 21 rfl) rfl (lv_at hl 1 rfl) ?_
    refine lv_iconst (v := (2 : Int32)) hx hb (zD_g DX6_sounds 22 rfl) (by decide) ?_
    refine lv_icmp_ne (tgt := 44) hx hb (zD_g DX6_sounds 23 rfl) (by decide) (fun c12 => ?_) (fun c12 => ?_)
    · replace hf := z_f c12 hf
      refine lv_iload hx hb (zD_g DX6_sounds 28 rfl) (lv_at hl 0 rfl) ?_
      cases hf
      exact hJ11 ls (lv_sub hl [1, 0] rfl)
    · replace hf := z_t c12 hf
      refine lv_iload hx hb (zD_g DX6_sounds 24 rfl) (lv_at hl 0 rfl) ?_
      refine lv_iconst (v := (3 : Int32)) hx hb (zD_g DX6_sounds 25 rfl) (by decide) ?_
      refine lv_iadd hx hb (zD_g DX6_sounds 26 rfl) ?_
      refine lv_goto (tgt := 46) hx hb (zD_g DX6_sounds 27 rfl) (by decide) ?_
      cases hf
      exact hJ11 ls (lv_sub hl [1, 0] rfl)
  · replace hf := z_t c5 hf
    refine lv_iconst (v := (2 : Int32)) hx hb (zD_g DX6_sounds 15 rfl) (by decide) ?_
    refine lv_iload hx hb (zD_g DX6_sounds 16 rfl) (lv_at hl 0 rfl) ?_
    refine lv_iconst (v := (3 : Int32)) hx hb (zD_g DX6_sounds 17 rfl) (by decide) ?_
    refine lv_iadd hx hb (zD_g DX6_sounds 18 rfl) ?_
    refine lv_imul hx hb (zD_g DX6_sounds 19 rfl) ?_
    refine lv_goto (tgt := 46) hx hb (zD_g DX6_sounds 20 rfl) (by decide) ?_
    cases hf
    exact hJ11 ls (lv_sub hl [1, 0] rfl)
abbrev dlX6_harms : List (Nat × Instr × Nat) := [(0, .aload_n 0, 1), (1, .getfield 7, 3), (4, .bipush 44, 2), (6, .iload_n 1, 1), (7, .iadd, 1), (8, .iaload, 1), (9, .istore_n 3, 1), (10, .aload_n 0, 1), (11, .iload_n 2, 1), (12, .iconst 3, 1), (13, .invokevirtual 91, 3), (16, .istore 4, 2), (18, .iload_n 3, 1), (19, .iconst 5, 1), (20, .if_icmp .ne 19, 3), (23, .aload_n 0, 1), (24, .getfield 7, 3), (27, .iconst 2, 1), (28, .iaload, 1), (29, .iconst 2, 1), (30, .irem, 1), (31, .iconst 1, 1), (32, .if_icmp .ne 7, 3), (35, .iconst 0, 1), (36, .goto 5, 3), (39, .iload 4, 2), (41, .istore 5, 2), (43, .iload_n 3, 1), (44, .iconst 3, 1), (45, .if_icmp .ne 10, 3), (48, .iload 4, 2), (50, .iconst 2, 1), (51, .idiv, 1), (52, .goto 26, 3), (55, .iload_n 3, 1), (56, .iconst 4, 1), (57, .if_icmp .ne 19, 3), (60, .iload_n 2, 1), (61, .ifCond .ne 8, 3), (64, .iload 4, 2), (66, .goto 12, 3), (69, .iload 4, 2), (71, .iconst 2, 1), (72, .iadd, 1), (73, .goto 5, 3), (76, .iload 5, 2), (78, .ireturn, 1)]
theorem DX6_harms : zD cX6_harms dlX6_harms = true := by decide +kernel
set_option maxRecDepth 20000 in
theorem ggX6_harms_X6_sumOf : GoodIn wsX6_harms wsX6_sumOf := goodIn_r _ [6, 1, 7, 8, 9, 10, 11, 12, 13, 14, 15, 16, 17, 18, 19, 20, 21, 22, 23, 24, 25] (by decide +kernel) (by decide +kernel)
set_option maxRecDepth 20000 in
theorem gX6_harms_X6_sumOf : GoodIn wsX6_harms (wsV RX6 91 RX6 yX6_sumOf wsX6_sumOf) := goodIn_app (goodIn_of _ (by decide +kernel)) ggX6_harms_X6_sumOf
theorem hd6_harms : yX6_harms.cls = RX6 ∧ yX6_harms.cls ≠ "java/lang/invoke/MethodHandle" ∧ yX6_harms.cls ≠ "java/lang/invoke/VarHandle" ∧ (parseMethodDescriptor yX6_harms.desc).map (fun d => d.parameters.length) = some 2 := by decide +kernel
abbrev rm6_harms : Room := { frames := 1, cells := 0, slots := 0, locals := 24 }
theorem in6_harms_6 : ∀ w ∈ wsX60, w ∈ wsX6_harms := fun w h => List.mem_cons_of_mem _ (List.mem_append_right _ h)
set_option maxHeartbeats 4000000 in
set_option maxRecDepth 100000 in
theorem c6_harms {l : Launch} {D : va_G} {cI cZ cB : ClassId} {q : Nat → Nat} {quiet : Int32} {mabove : Int64} {mbelow : Int64} {typed : Int32} {mat : Int32} {mstart : Int32} {mtoken : Int32} {mvalue : Int32} {many : Int32} {book : Nat → Int32} {images : Nat → Int32} {mkept : Nat → Int32} {aside : Nat → Int32} {refused : Nat → Int32} {text : Nat → Int32} {items : Nat → Int32} {drawn : Nat → Int32} {row : Nat → Int32} {best : Nat → Int32} {a_g : Int32} {a_set : Int32} {r : Int32}  (hf : f6_harms book a_g a_set = some r) : Met l yX6_harms wsX6_harms rm6_harms (zPp D cI cZ cB [.ref (q 0), .int a_g, .int a_set] (cMod cI cZ q quiet mabove mbelow typed mat mstart mtoken mvalue many book images mkept aside refused text items drawn row best)) (zQp (some (.int r))) 0 0 (fun _ => False) := by
  unfold f6_harms at hf
  refine z_pureI RX6 (by decide +kernel) rfl rfl (Nat.le_of_ble_eq_true rfl) ?_
  intro p e s m args below meth c Q ls hx hb hml hown hts hK hP hret hl
  have hl : lv_has ls 6 [(0, .ref (q 0)), (1, .int a_g), (2, .int a_set)] := hl
  refine lv_aload_n hx hb (zD_g DX6_harms 0 rfl) rfl (lv_at hl 0 rfl) ?_
  refine va_get (D := D) (ci := 5) (v := .ref (q 1)) (C := RX6) (T := TX6) (N := 19) hx hb hts in6_harms_6 hown hK.1 hP 0 rfl rfl 0 (by decide) (hts _ (List.mem_of_getElem? (i := 1) rfl)) (fun _ h9 => h9) rfl (zD_g DX6_harms 1 rfl) ?_
  refine lv_bipush (v := (44 : Int32)) hx hb (zD_g DX6_harms 2 rfl) (by decide) ?_
  refine lv_iload_n hx hb (zD_g DX6_harms 3 rfl) rfl (lv_at hl 1 rfl) ?_
  refine lv_iadd hx hb (zD_g DX6_harms 4 rfl) ?_
  obtain ⟨h1, hf⟩ := zg_s hf
  refine z_iald (k := ((44 : Int32) + a_g).toNatClampNeg) hx hb hK.1 hP 1 0 rfl rfl h1 rfl (zD_g DX6_harms 5 rfl) ?_
  refine lv_topi (fun x2 ex2 => ?_)
  replace hf := zl_s hf x2 ex2
  refine lv_istore_n (lv' := [(3, .int x2), (0, .ref (q 0)), (1, .int a_g), (2, .int a_set)]) hx hb (zD_g DX6_harms 6 rfl) rfl hl (by decide) rfl (fun ls hl => ?_)
  refine lv_aload_n hx hb (zD_g DX6_harms 7 rfl) rfl (lv_at hl 1 rfl) ?_
  refine lv_iload_n hx hb (zD_g DX6_harms 8 rfl) rfl (lv_at hl 3 rfl) ?_
  refine lv_iconst (v := (3 : Int32)) hx hb (zD_g DX6_harms 9 rfl) (by decide) ?_
  obtain ⟨r3, hc4, hf⟩ := zb1_s hf
  refine z_Vp (As := [.int a_set, .int (3 : Int32)]) (rest := []) ⟨hx, hb, hml, hown, hts⟩ hK (c6_sumOf (quiet := quiet) (mabove := mabove) (mbelow := mbelow) (typed := typed) (mat := mat) (mstart := mstart) (mtoken := mtoken) (mvalue := mvalue) (many := many) (book := book) (images := images) (mkept := mkept) (aside := aside) (refused := refused) (text := text) (items := items) (drawn := drawn) (row := row) (best := best) (q := q) hc4) (cwV 2 hts gX6_harms_X6_sumOf rfl rfl rfl hd6_sumOf ⟨Nat.le_of_ble_eq_true rfl, Nat.le_of_ble_eq_true rfl⟩) hP rfl rfl rfl rfl hl.1 rfl rfl (Nat.le_of_ble_eq_true rfl) (zD_g DX6_harms 10 rfl) ⟨Nat.zero_le _, Nat.zero_le _⟩ ?_
  refine lv_istore (lv' := [(4, .int r3), (3, .int x2), (0, .ref (q 0)), (1, .int a_g), (2, .int a_set)]) hx hb (zD_g DX6_harms 11 rfl) hl (by decide) rfl (fun ls hl => ?_)
  refine lv_iload_n hx hb (zD_g DX6_harms 12 rfl) rfl (lv_at hl 1 rfl) ?_
  refine lv_iconst (v := (5 : Int32)) hx hb (zD_g DX6_harms 13 rfl) (by decide) ?_
  obtain ⟨v6, hr12, hf⟩ := zb1_s hf
  have hJ12 : ∀ (ls : Array Slot), lv_has ls 6 [(2, .int a_set), (3, .int x2), (4, .int r3)] → W p l e rm6_harms s m args below meth c s.heap [] 0 0 Q (F0 m 41 ls [.int v6]) := by
    intro ls hl
    refine lv_istore (lv' := [(5, .int v6), (2, .int a_set), (3, .int x2), (4, .int r3)]) hx hb (zD_g DX6_harms 26 rfl) hl (by decide) rfl (fun ls hl => ?_)
    refine lv_iload_n hx hb (zD_g DX6_harms 27 rfl) rfl (lv_at hl 2 rfl) ?_
    refine lv_iconst (v := (3 : Int32)) hx hb (zD_g DX6_harms 28 rfl) (by decide) ?_
    refine lv_icmp_ne (tgt := 55) hx hb (zD_g DX6_harms 29 rfl) (by decide) (fun c7 => ?_) (fun c7 => ?_)
    · replace hf := z_f c7 hf
      refine lv_iload_n hx hb (zD_g DX6_harms 34 rfl) rfl (lv_at hl 2 rfl) ?_
      refine lv_iconst (v := (4 : Int32)) hx hb (zD_g DX6_harms 35 rfl) (by decide) ?_
      refine lv_icmp_ne (tgt := 76) hx hb (zD_g DX6_harms 36 rfl) (by decide) (fun c8 => ?_) (fun c8 => ?_)
      · replace hf := z_f c8 hf
        refine lv_iload hx hb (zD_g DX6_harms 45 rfl) (lv_at hl 0 rfl) ?_
        cases hf
        exact hret _ _ (zD_g DX6_harms 46 rfl)
      · replace hf := z_t c8 hf
        refine lv_iload_n hx hb (zD_g DX6_harms 37 rfl) rfl (lv_at hl 1 rfl) ?_
        refine lv_if_ne (tgt := 69) hx hb (zD_g DX6_harms 38 rfl) (by decide) (fun c9 => ?_) (fun c9 => ?_)
        · replace hf := z_f c9 hf
          refine lv_iload hx hb (zD_g DX6_harms 41 rfl) (lv_at hl 3 rfl) ?_
          refine lv_iconst (v := (2 : Int32)) hx hb (zD_g DX6_harms 42 rfl) (by decide) ?_
          refine lv_iadd hx hb (zD_g DX6_harms 43 rfl) ?_
          refine lv_goto (tgt := 78) hx hb (zD_g DX6_harms 44 rfl) (by decide) ?_
          refine lv_topi (fun x10 ex10 => ?_)
          replace hf := zl_s hf x10 ex10
          cases hf
          exact hret _ _ (zD_g DX6_harms 46 rfl)
        · replace hf := z_t c9 hf
          refine lv_iload hx hb (zD_g DX6_harms 39 rfl) (lv_at hl 3 rfl) ?_
          refine lv_goto (tgt := 78) hx hb (zD_g DX6_harms 40 rfl) (by decide) ?_
          cases hf
          exact hret _ _ (zD_g DX6_harms 46 rfl)
    · replace hf := z_t c7 hf
      refine lv_iload hx hb (zD_g DX6_harms 30 rfl) (lv_at hl 3 rfl) ?_
      refine lv_iconst (v := (2 : Int32)) hx hb (zD_g DX6_harms 31 rfl) (by decide) ?_
      refine lv_idiv hx hb (zD_g DX6_harms 32 rfl) (by decide) ?_
      refine lv_goto (tgt := 78) hx hb (zD_g DX6_harms 33 rfl) (by decide) ?_
      refine lv_topi (fun x11 ex11 => ?_)
      replace hf := zl_s hf x11 ex11
      cases hf
      exact hret _ _ (zD_g DX6_harms 46 rfl)
  clear hf
  have hf := hr12
  refine lv_icmp_ne (tgt := 39) hx hb (zD_g DX6_harms 14 rfl) (by decide) (fun c5 => ?_) (fun c5 => ?_)
  · replace hf := z_f c5 hf
    refine lv_iload hx hb (zD_g DX6_harms 25 rfl) (lv_at hl 0 rfl) ?_
    cases hf
    exact hJ12 ls (lv_sub hl [4, 1, 0] rfl)
  · replace hf := z_t c5 hf
    refine lv_aload_n hx hb (zD_g DX6_harms 15 rfl) rfl (lv_at hl 2 rfl) ?_
    refine va_get (D := D) (ci := 5) (v := .ref (q 1)) (C := RX6) (T := TX6) (N := 19) hx hb hts in6_harms_6 hown hK.1 hP 0 rfl rfl 0 (by decide) (hts _ (List.mem_of_getElem? (i := 1) rfl)) (fun _ h9 => h9) rfl (zD_g DX6_harms 16 rfl) ?_
    refine lv_iconst (v := (2 : Int32)) hx hb (zD_g DX6_harms 17 rfl) (by decide) ?_
    refine z_iald (k := 2) hx hb hK.1 hP 1 0 rfl rfl (by unfold vp_in; decide) rfl (zD_g DX6_harms 18 rfl) ?_
    refine lv_topi (fun x13 ex13 => ?_)
    replace hf := zl_s hf x13 ex13
    refine lv_iconst (v := (2 : Int32)) hx hb (zD_g DX6_harms 19 rfl) (by decide) ?_
    refine lv_irem hx hb (zD_g DX6_harms 20 rfl) (by decide) ?_
    refine lv_iconst (v := (1 : Int32)) hx hb (zD_g DX6_harms 21 rfl) (by decide) ?_
    refine lv_icmp_ne (tgt := 39) hx hb (zD_g DX6_harms 22 rfl) (by decide) (fun c14 => ?_) (fun c14 => ?_)
    · replace hf := z_f c14 hf
      refine lv_iload hx hb (zD_g DX6_harms 25 rfl) (lv_at hl 0 rfl) ?_
      cases hf
      exact hJ12 ls (lv_sub hl [4, 1, 0] rfl)
    · replace hf := z_t c14 hf
      refine lv_iconst (v := (0 : Int32)) hx hb (zD_g DX6_harms 23 rfl) (by decide) ?_
      refine lv_goto (tgt := 41) hx hb (zD_g DX6_harms 24 rfl) (by decide) ?_
      cases hf
      exact hJ12 ls (lv_sub hl [4, 1, 0] rfl)
abbrev dlX6_other : List (Nat × Instr × Nat) := [(0, .iconst 1, 1), (1, .aload_n 0, 1), (2, .getfield 7, 3), (5, .bipush 68, 2), (7, .iload_n 1, 1), (8, .iadd, 1), (9, .iaload, 1), (10, .isub, 1), (11, .ireturn, 1)]
theorem DX6_other : zD cX6_other dlX6_other = true := by decide +kernel
theorem hd6_other : yX6_other.cls = RX6 ∧ yX6_other.cls ≠ "java/lang/invoke/MethodHandle" ∧ yX6_other.cls ≠ "java/lang/invoke/VarHandle" ∧ (parseMethodDescriptor yX6_other.desc).map (fun d => d.parameters.length) = some 1 := by decide +kernel
abbrev rm6_other : Room := { frames := 0, cells := 0, slots := 0, locals := 0 }
theorem in6_other_6 : ∀ w ∈ wsX60, w ∈ wsX6_other := fun w h => List.mem_cons_of_mem _ (List.mem_append_right _ h)
set_option maxHeartbeats 4000000 in
set_option maxRecDepth 100000 in
theorem c6_other {l : Launch} {D : va_G} {cI cZ cB : ClassId} {q : Nat → Nat} {quiet : Int32} {mabove : Int64} {mbelow : Int64} {typed : Int32} {mat : Int32} {mstart : Int32} {mtoken : Int32} {mvalue : Int32} {many : Int32} {book : Nat → Int32} {images : Nat → Int32} {mkept : Nat → Int32} {aside : Nat → Int32} {refused : Nat → Int32} {text : Nat → Int32} {items : Nat → Int32} {drawn : Nat → Int32} {row : Nat → Int32} {best : Nat → Int32} {a_g : Int32} {r : Int32}  (hf : f6_other book a_g = some r) : Met l yX6_other wsX6_other rm6_other (zPp D cI cZ cB [.ref (q 0), .int a_g] (cMod cI cZ q quiet mabove mbelow typed mat mstart mtoken mvalue many book images mkept aside refused text items drawn row best)) (zQp (some (.int r))) 0 0 (fun _ => False) := by
  unfold f6_other at hf
  refine z_pureI RX6 (by decide +kernel) rfl rfl (Nat.le_of_ble_eq_true rfl) ?_
  intro p e s m args below meth c Q ls hx hb hml hown hts hK hP hret hl
  have hl : lv_has ls 2 [(0, .ref (q 0)), (1, .int a_g)] := hl
  refine lv_iconst (v := (1 : Int32)) hx hb (zD_g DX6_other 0 rfl) (by decide) ?_
  refine lv_aload_n hx hb (zD_g DX6_other 1 rfl) rfl (lv_at hl 0 rfl) ?_
  refine va_get (D := D) (ci := 5) (v := .ref (q 1)) (C := RX6) (T := TX6) (N := 19) hx hb hts in6_other_6 hown hK.1 hP 0 rfl rfl 0 (by decide) (hts _ (List.mem_of_getElem? (i := 1) rfl)) (fun _ h9 => h9) rfl (zD_g DX6_other 2 rfl) ?_
  refine lv_bipush (v := (68 : Int32)) hx hb (zD_g DX6_other 3 rfl) (by decide) ?_
  refine lv_iload_n hx hb (zD_g DX6_other 4 rfl) rfl (lv_at hl 1 rfl) ?_
  refine lv_iadd hx hb (zD_g DX6_other 5 rfl) ?_
  obtain ⟨h1, hf⟩ := zg_s hf
  refine z_iald (k := ((68 : Int32) + a_g).toNatClampNeg) hx hb hK.1 hP 1 0 rfl rfl h1 rfl (zD_g DX6_other 6 rfl) ?_
  refine lv_isub hx hb (zD_g DX6_other 7 rfl) ?_
  refine lv_topi (fun x2 ex2 => ?_)
  replace hf := zl_s hf x2 ex2
  cases hf
  exact hret _ _ (zD_g DX6_other 8 rfl)
abbrev dlX6_isHeard : List (Nat × Instr × Nat) := [(0, .aload_n 0, 1), (1, .iload_n 1, 1), (2, .iload_n 2, 1), (3, .invokevirtual 185, 3), (6, .aload_n 0, 1), (7, .getfield 7, 3), (10, .bipush 74, 2), (12, .iconst 3, 1), (13, .aload_n 0, 1), (14, .iload_n 1, 1), (15, .invokevirtual 188, 3), (18, .imul, 1), (19, .iadd, 1), (20, .iconst 1, 1), (21, .iadd, 1), (22, .iaload, 1), (23, .if_icmp .lt 7, 3), (26, .iconst 1, 1), (27, .goto 4, 3), (30, .iconst 0, 1), (31, .ireturn, 1)]
theorem DX6_isHeard : zD cX6_isHeard dlX6_isHeard = true := by decide +kernel
set_option maxRecDepth 20000 in
theorem ggX6_isHeard_X6_sounds : GoodIn wsX6_isHeard wsX6_sounds := goodIn_r _ [6, 1, 7, 8, 9, 5, 10, 15, 16, 17, 18, 19, 20, 21, 22, 23, 24, 25, 26, 27, 28, 29, 30, 31, 32, 33] (by decide +kernel) (by decide +kernel)
set_option maxRecDepth 20000 in
theorem gX6_isHeard_X6_sounds : GoodIn wsX6_isHeard (wsV RX6 185 RX6 yX6_sounds wsX6_sounds) := goodIn_app (goodIn_of _ (by decide +kernel)) ggX6_isHeard_X6_sounds
set_option maxRecDepth 20000 in
theorem ggX6_isHeard_X6_other : GoodIn wsX6_isHeard wsX6_other := goodIn_r _ [14, 1, 15, 16, 17, 18, 19, 20, 21, 22, 23, 24, 25, 26, 27, 28, 29, 30, 31, 32, 33] (by decide +kernel) (by decide +kernel)
set_option maxRecDepth 20000 in
theorem gX6_isHeard_X6_other : GoodIn wsX6_isHeard (wsV RX6 188 RX6 yX6_other wsX6_other) := goodIn_app (goodIn_of _ (by decide +kernel)) ggX6_isHeard_X6_other
theorem hd6_isHeard : yX6_isHeard.cls = RX6 ∧ yX6_isHeard.cls ≠ "java/lang/invoke/MethodHandle" ∧ yX6_isHeard.cls ≠ "java/lang/invoke/VarHandle" ∧ (parseMethodDescriptor yX6_isHeard.desc).map (fun d => d.parameters.length) = some 2 := by decide +kernel
abbrev rm6_isHeard : Room := { frames := 2, cells := 0, slots := 0, locals := 49 }
theorem in6_isHeard_6 : ∀ w ∈ wsX60, w ∈ wsX6_isHeard := fun w h => List.mem_cons_of_mem _ (List.mem_append_right _ h)
set_option maxHeartbeats 4000000 in
set_option maxRecDepth 100000 in
theorem c6_isHeard {l : Launch} {D : va_G} {cI cZ cB : ClassId} {q : Nat → Nat} {quiet : Int32} {mabove : Int64} {mbelow : Int64} {typed : Int32} {mat : Int32} {mstart : Int32} {mtoken : Int32} {mvalue : Int32} {many : Int32} {book : Nat → Int32} {images : Nat → Int32} {mkept : Nat → Int32} {aside : Nat → Int32} {refused : Nat → Int32} {text : Nat → Int32} {items : Nat → Int32} {drawn : Nat → Int32} {row : Nat → Int32} {best : Nat → Int32} {a_g : Int32} {a_set : Int32} {r : Int32}  (hf : f6_isHeard book a_g a_set = some r) : Met l yX6_isHeard wsX6_isHeard rm6_isHeard (zPp D cI cZ cB [.ref (q 0), .int a_g, .int a_set] (cMod cI cZ q quiet mabove mbelow typed mat mstart mtoken mvalue many book images mkept aside refused text items drawn row best)) (zQp (some (.int r))) 0 0 (fun _ => False) := by
  unfold f6_isHeard at hf
  refine z_pureZ RX6 (by decide +kernel) rfl rfl (Nat.le_of_ble_eq_true rfl) ?_
  intro p e s m args below meth c Q ls hx hb hml hown hts hK hP hret hl
  have hl : lv_has ls 3 [(0, .ref (q 0)), (1, .int a_g), (2, .int a_set)] := hl
  refine lv_aload_n hx hb (zD_g DX6_isHeard 0 rfl) rfl (lv_at hl 0 rfl) ?_
  refine lv_iload_n hx hb (zD_g DX6_isHeard 1 rfl) rfl (lv_at hl 1 rfl) ?_
  refine lv_iload_n hx hb (zD_g DX6_isHeard 2 rfl) rfl (lv_at hl 2 rfl) ?_
  obtain ⟨r1, hc2, hf⟩ := zb1_s hf
  refine z_Vp (As := [.int a_g, .int a_set]) (rest := []) ⟨hx, hb, hml, hown, hts⟩ hK (c6_sounds (quiet := quiet) (mabove := mabove) (mbelow := mbelow) (typed := typed) (mat := mat) (mstart := mstart) (mtoken := mtoken) (mvalue := mvalue) (many := many) (book := book) (images := images) (mkept := mkept) (aside := aside) (refused := refused) (text := text) (items := items) (drawn := drawn) (row := row) (best := best) (q := q) hc2) (cwV 2 hts gX6_isHeard_X6_sounds rfl rfl rfl hd6_sounds ⟨Nat.le_of_ble_eq_true rfl, Nat.le_of_ble_eq_true rfl⟩) hP rfl rfl rfl rfl hl.1 rfl rfl (Nat.le_of_ble_eq_true rfl) (zD_g DX6_isHeard 3 rfl) ⟨Nat.zero_le _, Nat.zero_le _⟩ ?_
  refine lv_aload_n hx hb (zD_g DX6_isHeard 4 rfl) rfl (lv_at hl 0 rfl) ?_
  refine va_get (D := D) (ci := 5) (v := .ref (q 1)) (C := RX6) (T := TX6) (N := 19) hx hb hts in6_isHeard_6 hown hK.1 hP 0 rfl rfl 0 (by decide) (hts _ (List.mem_of_getElem? (i := 1) rfl)) (fun _ h9 => h9) rfl (zD_g DX6_isHeard 5 rfl) ?_
  refine lv_bipush (v := (74 : Int32)) hx hb (zD_g DX6_isHeard 6 rfl) (by decide) ?_
  refine lv_iconst (v := (3 : Int32)) hx hb (zD_g DX6_isHeard 7 rfl) (by decide) ?_
  refine lv_aload_n hx hb (zD_g DX6_isHeard 8 rfl) rfl (lv_at hl 0 rfl) ?_
  refine lv_iload_n hx hb (zD_g DX6_isHeard 9 rfl) rfl (lv_at hl 1 rfl) ?_
  obtain ⟨r3, hc4, hf⟩ := zb1_s hf
  refine z_Vp (As := [.int a_g]) (rest := [.int (3 : Int32), .int (74 : Int32), .ref (q 1), .int r1]) ⟨hx, hb, hml, hown, hts⟩ hK (c6_other (quiet := quiet) (mabove := mabove) (mbelow := mbelow) (typed := typed) (mat := mat) (mstart := mstart) (mtoken := mtoken) (mvalue := mvalue) (many := many) (book := book) (images := images) (mkept := mkept) (aside := aside) (refused := refused) (text := text) (items := items) (drawn := drawn) (row := row) (best := best) (q := q) hc4) (cwV 1 hts gX6_isHeard_X6_other rfl rfl rfl hd6_other ⟨Nat.le_of_ble_eq_true rfl, Nat.le_of_ble_eq_true rfl⟩) hP rfl rfl rfl rfl hl.1 rfl rfl (Nat.le_of_ble_eq_true rfl) (zD_g DX6_isHeard 10 rfl) ⟨Nat.zero_le _, Nat.zero_le _⟩ ?_
  refine lv_imul hx hb (zD_g DX6_isHeard 11 rfl) ?_
  refine lv_iadd hx hb (zD_g DX6_isHeard 12 rfl) ?_
  refine lv_iconst (v := (1 : Int32)) hx hb (zD_g DX6_isHeard 13 rfl) (by decide) ?_
  refine lv_iadd hx hb (zD_g DX6_isHeard 14 rfl) ?_
  obtain ⟨h5, hf⟩ := zg_s hf
  refine z_iald (k := (((74 : Int32) + ((3 : Int32) * r3)) + (1 : Int32)).toNatClampNeg) hx hb hK.1 hP 1 0 rfl rfl h5 rfl (zD_g DX6_isHeard 15 rfl) ?_
  refine lv_icmp_lt (tgt := 30) hx hb (zD_g DX6_isHeard 16 rfl) (by decide) (fun c6 => ?_) (fun c6 => ?_)
  · replace hf := z_t c6 hf
    refine lv_iconst (v := (0 : Int32)) hx hb (zD_g DX6_isHeard 19 rfl) (by decide) ?_
    cases hf
    exact hret _ _ rfl (zD_g DX6_isHeard 20 rfl)
  · replace hf := z_f c6 hf
    refine lv_iconst (v := (1 : Int32)) hx hb (zD_g DX6_isHeard 17 rfl) (by decide) ?_
    refine lv_goto (tgt := 31) hx hb (zD_g DX6_isHeard 18 rfl) (by decide) ?_
    cases hf
    exact hret _ _ rfl (zD_g DX6_isHeard 20 rfl)
abbrev dlX6_isHeavy : List (Nat × Instr × Nat) := [(0, .aload_n 0, 1), (1, .iload_n 1, 1), (2, .iload_n 2, 1), (3, .invokevirtual 191, 3), (6, .aload_n 0, 1), (7, .getfield 7, 3), (10, .bipush 74, 2), (12, .iconst 3, 1), (13, .aload_n 0, 1), (14, .iload_n 1, 1), (15, .invokevirtual 188, 3), (18, .imul, 1), (19, .iadd, 1), (20, .iconst 2, 1), (21, .iadd, 1), (22, .iaload, 1), (23, .if_icmp .le 7, 3), (26, .iconst 1, 1), (27, .goto 4, 3), (30, .iconst 0, 1), (31, .ireturn, 1)]
theorem DX6_isHeavy : zD cX6_isHeavy dlX6_isHeavy = true := by decide +kernel
set_option maxRecDepth 20000 in
theorem ggX6_isHeavy_X6_weighs : GoodIn wsX6_isHeavy wsX6_weighs := goodIn_r _ [6, 1, 7, 8, 9, 5, 10, 15, 16, 17, 18, 19, 20, 21, 22, 23, 24, 25, 26, 27, 28, 29, 30, 31, 32, 33] (by decide +kernel) (by decide +kernel)
set_option maxRecDepth 20000 in
theorem gX6_isHeavy_X6_weighs : GoodIn wsX6_isHeavy (wsV RX6 191 RX6 yX6_weighs wsX6_weighs) := goodIn_app (goodIn_of _ (by decide +kernel)) ggX6_isHeavy_X6_weighs
set_option maxRecDepth 20000 in
theorem ggX6_isHeavy_X6_other : GoodIn wsX6_isHeavy wsX6_other := goodIn_r _ [14, 1, 15, 16, 17, 18, 19, 20, 21, 22, 23, 24, 25, 26, 27, 28, 29, 30, 31, 32, 33] (by decide +kernel) (by decide +kernel)
set_option maxRecDepth 20000 in
theorem gX6_isHeavy_X6_other : GoodIn wsX6_isHeavy (wsV RX6 188 RX6 yX6_other wsX6_other) := goodIn_app (goodIn_of _ (by decide +kernel)) ggX6_isHeavy_X6_other
theorem hd6_isHeavy : yX6_isHeavy.cls = RX6 ∧ yX6_isHeavy.cls ≠ "java/lang/invoke/MethodHandle" ∧ yX6_isHeavy.cls ≠ "java/lang/invoke/VarHandle" ∧ (parseMethodDescriptor yX6_isHeavy.desc).map (fun d => d.parameters.length) = some 2 := by decide +kernel
abbrev rm6_isHeavy : Room := { frames := 2, cells := 0, slots := 0, locals := 49 }
theorem in6_isHeavy_6 : ∀ w ∈ wsX60, w ∈ wsX6_isHeavy := fun w h => List.mem_cons_of_mem _ (List.mem_append_right _ h)
set_option maxHeartbeats 4000000 in
set_option maxRecDepth 100000 in
theorem c6_isHeavy {l : Launch} {D : va_G} {cI cZ cB : ClassId} {q : Nat → Nat} {quiet : Int32} {mabove : Int64} {mbelow : Int64} {typed : Int32} {mat : Int32} {mstart : Int32} {mtoken : Int32} {mvalue : Int32} {many : Int32} {book : Nat → Int32} {images : Nat → Int32} {mkept : Nat → Int32} {aside : Nat → Int32} {refused : Nat → Int32} {text : Nat → Int32} {items : Nat → Int32} {drawn : Nat → Int32} {row : Nat → Int32} {best : Nat → Int32} {a_g : Int32} {a_set : Int32} {r : Int32}  (hf : f6_isHeavy book a_g a_set = some r) : Met l yX6_isHeavy wsX6_isHeavy rm6_isHeavy (zPp D cI cZ cB [.ref (q 0), .int a_g, .int a_set] (cMod cI cZ q quiet mabove mbelow typed mat mstart mtoken mvalue many book images mkept aside refused text items drawn row best)) (zQp (some (.int r))) 0 0 (fun _ => False) := by
  unfold f6_isHeavy at hf
  refine z_pureZ RX6 (by decide +kernel) rfl rfl (Nat.le_of_ble_eq_true rfl) ?_
  intro p e s m args below meth c Q ls hx hb hml hown hts hK hP hret hl
  have hl : lv_has ls 3 [(0, .ref (q 0)), (1, .int a_g), (2, .int a_set)] := hl
  refine lv_aload_n hx hb (zD_g DX6_isHeavy 0 rfl) rfl (lv_at hl 0 rfl) ?_
  refine lv_iload_n hx hb (zD_g DX6_isHeavy 1 rfl) rfl (lv_at hl 1 rfl) ?_
  refine lv_iload_n hx hb (zD_g DX6_isHeavy 2 rfl) rfl (lv_at hl 2 rfl) ?_
  obtain ⟨r1, hc2, hf⟩ := zb1_s hf
  refine z_Vp (As := [.int a_g, .int a_set]) (rest := []) ⟨hx, hb, hml, hown, hts⟩ hK (c6_weighs (quiet := quiet) (mabove := mabove) (mbelow := mbelow) (typed := typed) (mat := mat) (mstart := mstart) (mtoken := mtoken) (mvalue := mvalue) (many := many) (book := book) (images := images) (mkept := mkept) (aside := aside) (refused := refused) (text := text) (items := items) (drawn := drawn) (row := row) (best := best) (q := q) hc2) (cwV 2 hts gX6_isHeavy_X6_weighs rfl rfl rfl hd6_weighs ⟨Nat.le_of_ble_eq_true rfl, Nat.le_of_ble_eq_true rfl⟩) hP rfl rfl rfl rfl hl.1 rfl rfl (Nat.le_of_ble_eq_true rfl) (zD_g DX6_isHeavy 3 rfl) ⟨Nat.zero_le _, Nat.zero_le _⟩ ?_
  refine lv_aload_n hx hb (zD_g DX6_isHeavy 4 rfl) rfl (lv_at hl 0 rfl) ?_
  refine va_get (D := D) (ci := 5) (v := .ref (q 1)) (C := RX6) (T := TX6) (N := 19) hx hb hts in6_isHeavy_6 hown hK.1 hP 0 rfl rfl 0 (by decide) (hts _ (List.mem_of_getElem? (i := 1) rfl)) (fun _ h9 => h9) rfl (zD_g DX6_isHeavy 5 rfl) ?_
  refine lv_bipush (v := (74 : Int32)) hx hb (zD_g DX6_isHeavy 6 rfl) (by decide) ?_
  refine lv_iconst (v := (3 : Int32)) hx hb (zD_g DX6_isHeavy 7 rfl) (by decide) ?_
  refine lv_aload_n hx hb (zD_g DX6_isHeavy 8 rfl) rfl (lv_at hl 0 rfl) ?_
  refine lv_iload_n hx hb (zD_g DX6_isHeavy 9 rfl) rfl (lv_at hl 1 rfl) ?_
  obtain ⟨r3, hc4, hf⟩ := zb1_s hf
  refine z_Vp (As := [.int a_g]) (rest := [.int (3 : Int32), .int (74 : Int32), .ref (q 1), .int r1]) ⟨hx, hb, hml, hown, hts⟩ hK (c6_other (quiet := quiet) (mabove := mabove) (mbelow := mbelow) (typed := typed) (mat := mat) (mstart := mstart) (mtoken := mtoken) (mvalue := mvalue) (many := many) (book := book) (images := images) (mkept := mkept) (aside := aside) (refused := refused) (text := text) (items := items) (drawn := drawn) (row := row) (best := best) (q := q) hc4) (cwV 1 hts gX6_isHeavy_X6_other rfl rfl rfl hd6_other ⟨Nat.le_of_ble_eq_true rfl, Nat.le_of_ble_eq_true rfl⟩) hP rfl rfl rfl rfl hl.1 rfl rfl (Nat.le_of_ble_eq_true rfl) (zD_g DX6_isHeavy 10 rfl) ⟨Nat.zero_le _, Nat.zero_le _⟩ ?_
  refine lv_imul hx hb (zD_g DX6_isHeavy 11 rfl) ?_
  refine lv_iadd hx hb (zD_g DX6_isHeavy 12 rfl) ?_
  refine lv_iconst (v := (2 : Int32)) hx hb (zD_g DX6_isHeavy 13 rfl) (by decide) ?_
  refine lv_iadd hx hb (zD_g DX6_isHeavy 14 rfl) ?_
  obtain ⟨h5, hf⟩ := zg_s hf
  refine z_iald (k := (((74 : Int32) + ((3 : Int32) * r3)) + (2 : Int32)).toNatClampNeg) hx hb hK.1 hP 1 0 rfl rfl h5 rfl (zD_g DX6_isHeavy 15 rfl) ?_
  refine lv_icmp_le (tgt := 30) hx hb (zD_g DX6_isHeavy 16 rfl) (by decide) (fun c6 => ?_) (fun c6 => ?_)
  · replace hf := z_t c6 hf
    refine lv_iconst (v := (0 : Int32)) hx hb (zD_g DX6_isHeavy 19 rfl) (by decide) ?_
    cases hf
    exact hret _ _ rfl (zD_g DX6_isHeavy 20 rfl)
  · replace hf := z_f c6 hf
    refine lv_iconst (v := (1 : Int32)) hx hb (zD_g DX6_isHeavy 17 rfl) (by decide) ?_
    refine lv_goto (tgt := 31) hx hb (zD_g DX6_isHeavy 18 rfl) (by decide) ?_
    cases hf
    exact hret _ _ rfl (zD_g DX6_isHeavy 20 rfl)
abbrev dlX6_passes : List (Nat × Instr × Nat) := [(0, .aload_n 0, 1), (1, .getfield 7, 3), (4, .bipush 56, 2), (6, .iload_n 1, 1), (7, .iadd, 1), (8, .iaload, 1), (9, .aload_n 0, 1), (10, .getfield 7, 3), (13, .bipush 74, 2), (15, .iconst 3, 1), (16, .aload_n 0, 1), (17, .iload_n 1, 1), (18, .invokevirtual 188, 3), (21, .imul, 1), (22, .iadd, 1), (23, .iaload, 1), (24, .if_icmp .gt 25, 3), (27, .aload_n 0, 1), (28, .iload_n 1, 1), (29, .iload_n 2, 1), (30, .invokevirtual 194, 3), (33, .ifCond .ne 16, 3), (36, .aload_n 0, 1), (37, .iload_n 1, 1), (38, .iload_n 2, 1), (39, .invokevirtual 197, 3), (42, .ifCond .ne 7, 3), (45, .iconst 1, 1), (46, .goto 4, 3), (49, .iconst 0, 1), (50, .ireturn, 1)]
theorem DX6_passes : zD cX6_passes dlX6_passes = true := by decide +kernel
set_option maxRecDepth 20000 in
theorem ggX6_passes_X6_other : GoodIn wsX6_passes wsX6_other := goodIn_r _ [6, 1, 27, 28, 29, 30, 31, 32, 33, 34, 35, 36, 37, 38, 39, 40, 41, 42, 43, 44, 45] (by decide +kernel) (by decide +kernel)
set_option maxRecDepth 20000 in
theorem gX6_passes_X6_other : GoodIn wsX6_passes (wsV RX6 188 RX6 yX6_other wsX6_other) := goodIn_app (goodIn_of _ (by decide +kernel)) ggX6_passes_X6_other
set_option maxRecDepth 20000 in
theorem ggX6_passes_X6_isHeard : GoodIn wsX6_passes wsX6_isHeard := goodIn_r _ [10, 1, 11, 12, 13, 5, 14, 15, 16, 17, 18, 2, 3, 4, 6, 27, 28, 29, 30, 31, 32, 33, 34, 35, 36, 37, 38, 39, 40, 41, 42, 43, 44, 45] (by decide +kernel) (by decide +kernel)
set_option maxRecDepth 20000 in
theorem gX6_passes_X6_isHeard : GoodIn wsX6_passes (wsV RX6 194 RX6 yX6_isHeard wsX6_isHeard) := goodIn_app (goodIn_of _ (by decide +kernel)) ggX6_passes_X6_isHeard
set_option maxRecDepth 20000 in
theorem ggX6_passes_X6_isHeavy : GoodIn wsX6_passes wsX6_isHeavy := goodIn_r _ [22, 1, 23, 24, 25, 5, 26, 15, 16, 17, 18, 2, 3, 4, 6, 27, 28, 29, 30, 31, 32, 33, 34, 35, 36, 37, 38, 39, 40, 41, 42, 43, 44, 45] (by decide +kernel) (by decide +kernel)
set_option maxRecDepth 20000 in
theorem gX6_passes_X6_isHeavy : GoodIn wsX6_passes (wsV RX6 197 RX6 yX6_isHeavy wsX6_isHeavy) := goodIn_app (goodIn_of _ (by decide +kernel)) ggX6_passes_X6_isHeavy
theorem hd6_passes : yX6_passes.cls = RX6 ∧ yX6_passes.cls ≠ "java/lang/invoke/MethodHandle" ∧ yX6_passes.cls ≠ "java/lang/invoke/VarHandle" ∧ (parseMethodDescriptor yX6_passes.desc).map (fun d => d.parameters.length) = some 2 := by decide +kernel
abbrev rm6_passes : Room := { frames := 3, cells := 0, slots := 0, locals := 71 }
theorem in6_passes_6 : ∀ w ∈ wsX60, w ∈ wsX6_passes := fun w h => List.mem_cons_of_mem _ (List.mem_append_right _ h)
set_option maxHeartbeats 4000000 in
set_option maxRecDepth 100000 in
theorem c6_passes {l : Launch} {D : va_G} {cI cZ cB : ClassId} {q : Nat → Nat} {quiet : Int32} {mabove : Int64} {mbelow : Int64} {typed : Int32} {mat : Int32} {mstart : Int32} {mtoken : Int32} {mvalue : Int32} {many : Int32} {book : Nat → Int32} {images : Nat → Int32} {mkept : Nat → Int32} {aside : Nat → Int32} {refused : Nat → Int32} {text : Nat → Int32} {items : Nat → Int32} {drawn : Nat → Int32} {row : Nat → Int32} {best : Nat → Int32} {a_g : Int32} {a_set : Int32} {r : Int32}  (hf : f6_passes book a_g a_set = some r) : Met l yX6_passes wsX6_passes rm6_passes (zPp D cI cZ cB [.ref (q 0), .int a_g, .int a_set] (cMod cI cZ q quiet mabove mbelow typed mat mstart mtoken mvalue many book images mkept aside refused text items drawn row best)) (zQp (some (.int r))) 0 0 (fun _ => False) := by
  unfold f6_passes at hf
  refine z_pureZ RX6 (by decide +kernel) rfl rfl (Nat.le_of_ble_eq_true rfl) ?_
  intro p e s m args below meth c Q ls hx hb hml hown hts hK hP hret hl
  have hl : lv_has ls 3 [(0, .ref (q 0)), (1, .int a_g), (2, .int a_set)] := hl
  refine lv_aload_n hx hb (zD_g DX6_passes 0 rfl) rfl (lv_at hl 0 rfl) ?_
  refine va_get (D := D) (ci := 5) (v := .ref (q 1)) (C := RX6) (T := TX6) (N := 19) hx hb hts in6_passes_6 hown hK.1 hP 0 rfl rfl 0 (by decide) (hts _ (List.mem_of_getElem? (i := 1) rfl)) (fun _ h9 => h9) rfl (zD_g DX6_passes 1 rfl) ?_
  refine lv_bipush (v := (56 : Int32)) hx hb (zD_g DX6_passes 2 rfl) (by decide) ?_
  refine lv_iload_n hx hb (zD_g DX6_passes 3 rfl) rfl (lv_at hl 1 rfl) ?_
  refine lv_iadd hx hb (zD_g DX6_passes 4 rfl) ?_
  obtain ⟨h1, hf⟩ := zg_s hf
  refine z_iald (k := ((56 : Int32) + a_g).toNatClampNeg) hx hb hK.1 hP 1 0 rfl rfl h1 rfl (zD_g DX6_passes 5 rfl) ?_
  refine lv_aload_n hx hb (zD_g DX6_passes 6 rfl) rfl (lv_at hl 0 rfl) ?_
  refine va_get (D := D) (ci := 5) (v := .ref (q 1)) (C := RX6) (T := TX6) (N := 19) hx hb hts in6_passes_6 hown hK.1 hP 0 rfl rfl 0 (by decide) (hts _ (List.mem_of_getElem? (i := 1) rfl)) (fun _ h9 => h9) rfl (zD_g DX6_passes 7 rfl) ?_
  refine lv_bipush (v := (74 : Int32)) hx hb (zD_g DX6_passes 8 rfl) (by decide) ?_
  refine lv_iconst (v := (3 : Int32)) hx hb (zD_g DX6_passes 9 rfl) (by decide) ?_
  refine lv_aload_n hx hb (zD_g DX6_passes 10 rfl) rfl (lv_at hl 0 rfl) ?_
  refine lv_iload_n hx hb (zD_g DX6_passes 11 rfl) rfl (lv_at hl 1 rfl) ?_
  obtain ⟨r2, hc3, hf⟩ := zb1_s hf
  refine z_Vp (As := [.int a_g]) (rest := [.int (3 : Int32), .int (74 : Int32), .ref (q 1), .int (book ((56 : Int32) + a_g).toNatClampNeg)]) ⟨hx, hb, hml, hown, hts⟩ hK (c6_other (quiet := quiet) (mabove := mabove) (mbelow := mbelow) (typed := typed) (mat := mat) (mstart := mstart) (mtoken := mtoken) (mvalue := mvalue) (many := many) (book := book) (images := images) (mkept := mkept) (aside := aside) (refused := refused) (text := text) (items := items) (drawn := drawn) (row := row) (best := best) (q := q) hc3) (cwV 1 hts gX6_passes_X6_other rfl rfl rfl hd6_other ⟨Nat.le_of_ble_eq_true rfl, Nat.le_of_ble_eq_true rfl⟩) hP rfl rfl rfl rfl hl.1 rfl rfl (Nat.le_of_ble_eq_true rfl) (zD_g DX6_passes 12 rfl) ⟨Nat.zero_le _, Nat.zero_le _⟩ ?_
  refine lv_imul hx hb (zD_g DX6_passes 13 rfl) ?_
  refine lv_iadd hx hb (zD_g DX6_passes 14 rfl) ?_
  obtain ⟨h4, hf⟩ := zg_s hf
  refine z_iald (k := ((74 : Int32) + ((3 : Int32) * r2)).toNatClampNeg) hx hb hK.1 hP 1 0 rfl rfl h4 rfl (zD_g DX6_passes 15 rfl) ?_
  refine lv_icmp_gt (tgt := 49) hx hb (zD_g DX6_passes 16 rfl) (by decide) (fun c5 => ?_) (fun c5 => ?_)
  · replace hf := z_t c5 hf
    refine lv_iconst (v := (0 : Int32)) hx hb (zD_g DX6_passes 29 rfl) (by decide) ?_
    cases hf
    exact hret _ _ rfl (zD_g DX6_passes 30 rfl)
  · replace hf := z_f c5 hf
    refine lv_aload_n hx hb (zD_g DX6_passes 17 rfl) rfl (lv_at hl 0 rfl) ?_
    refine lv_iload_n hx hb (zD_g DX6_passes 18 rfl) rfl (lv_at hl 1 rfl) ?_
    refine lv_iload_n hx hb (zD_g DX6_passes 19 rfl) rfl (lv_at hl 2 rfl) ?_
    obtain ⟨r6, hc7, hf⟩ := zb1_s hf
    refine z_Vp (As := [.int a_g, .int a_set]) (rest := []) ⟨hx, hb, hml, hown, hts⟩ hK (c6_isHeard (quiet := quiet) (mabove := mabove) (mbelow := mbelow) (typed := typed) (mat := mat) (mstart := mstart) (mtoken := mtoken) (mvalue := mvalue) (many := many) (book := book) (images := images) (mkept := mkept) (aside := aside) (refused := refused) (text := text) (items := items) (drawn := drawn) (row := row) (best := best) (q := q) hc7) (cwV 2 hts gX6_passes_X6_isHeard rfl rfl rfl hd6_isHeard ⟨Nat.le_of_ble_eq_true rfl, Nat.le_of_ble_eq_true rfl⟩) hP rfl rfl rfl rfl hl.1 rfl rfl (Nat.le_of_ble_eq_true rfl) (zD_g DX6_passes 20 rfl) ⟨Nat.zero_le _, Nat.zero_le _⟩ ?_
    refine lv_if_ne (tgt := 49) hx hb (zD_g DX6_passes 21 rfl) (by decide) (fun c8 => ?_) (fun c8 => ?_)
    · replace hf := z_f c8 hf
      refine lv_iconst (v := (0 : Int32)) hx hb (zD_g DX6_passes 29 rfl) (by decide) ?_
      cases hf
      exact hret _ _ rfl (zD_g DX6_passes 30 rfl)
    · replace hf := z_t c8 hf
      refine lv_aload_n hx hb (zD_g DX6_passes 22 rfl) rfl (lv_at hl 0 rfl) ?_
      refine lv_iload_n hx hb (zD_g DX6_passes 23 rfl) rfl (lv_at hl 1 rfl) ?_
      refine lv_iload_n hx hb (zD_g DX6_passes 24 rfl) rfl (lv_at hl 2 rfl) ?_
      obtain ⟨r9, hc10, hf⟩ := zb1_s hf
      refine z_Vp (As := [.int a_g, .int a_set]) (rest := []) ⟨hx, hb, hml, hown, hts⟩ hK (c6_isHeavy (quiet := quiet) (mabove := mabove) (mbelow := mbelow) (typed := typed) (mat := mat) (mstart := mstart) (mtoken := mtoken) (mvalue := mvalue) (many := many) (book := book) (images := images) (mkept := mkept) (aside := aside) (refused := refused) (text := text) (items := items) (drawn := drawn) (row := row) (best := best) (q := q) hc10) (cwV 2 hts gX6_passes_X6_isHeavy rfl rfl rfl hd6_isHeavy ⟨Nat.le_of_ble_eq_true rfl, Nat.le_of_ble_eq_true rfl⟩) hP rfl rfl rfl rfl hl.1 rfl rfl (Nat.le_of_ble_eq_true rfl) (zD_g DX6_passes 25 rfl) ⟨Nat.zero_le _, Nat.zero_le _⟩ ?_
      refine lv_if_ne (tgt := 49) hx hb (zD_g DX6_passes 26 rfl) (by decide) (fun c11 => ?_) (fun c11 => ?_)
      · replace hf := z_f c11 hf
        refine lv_iconst (v := (0 : Int32)) hx hb (zD_g DX6_passes 29 rfl) (by decide) ?_
        cases hf
        exact hret _ _ rfl (zD_g DX6_passes 30 rfl)
      · replace hf := z_t c11 hf
        refine lv_iconst (v := (1 : Int32)) hx hb (zD_g DX6_passes 27 rfl) (by decide) ?_
        refine lv_goto (tgt := 50) hx hb (zD_g DX6_passes 28 rfl) (by decide) ?_
        cases hf
        exact hret _ _ rfl (zD_g DX6_passes 30 rfl)
abbrev dlX6_loses : List (Nat × Instr × Nat) := [(0, .aload_n 0, 1), (1, .iload_n 1, 1), (2, .iload_n 2, 1), (3, .invokevirtual 200, 3), (6, .aload_n 0, 1), (7, .getfield 7, 3), (10, .bipush 80, 2), (12, .bipush 6, 2), (14, .aload_n 0, 1), (15, .iload_n 1, 1), (16, .invokevirtual 188, 3), (19, .imul, 1), (20, .iadd, 1), (21, .iload_n 3, 1), (22, .iadd, 1), (23, .iaload, 1), (24, .isub, 1), (25, .istore 4, 2), (27, .iload 4, 2), (29, .ifCond .ge 7, 3), (32, .iconst 0, 1), (33, .goto 5, 3), (36, .iload 4, 2), (38, .ireturn, 1)]
theorem DX6_loses : zD cX6_loses dlX6_loses = true := by decide +kernel
set_option maxRecDepth 20000 in
theorem ggX6_loses_X6_harms : GoodIn wsX6_loses wsX6_harms := goodIn_r _ [6, 1, 7, 8, 9, 5, 10, 15, 16, 17, 18, 19, 20, 21, 22, 23, 24, 25, 26, 27, 28, 29, 30, 31, 32, 33] (by decide +kernel) (by decide +kernel)
set_option maxRecDepth 20000 in
theorem gX6_loses_X6_harms : GoodIn wsX6_loses (wsV RX6 200 RX6 yX6_harms wsX6_harms) := goodIn_app (goodIn_of _ (by decide +kernel)) ggX6_loses_X6_harms
set_option maxRecDepth 20000 in
theorem ggX6_loses_X6_other : GoodIn wsX6_loses wsX6_other := goodIn_r _ [14, 1, 15, 16, 17, 18, 19, 20, 21, 22, 23, 24, 25, 26, 27, 28, 29, 30, 31, 32, 33] (by decide +kernel) (by decide +kernel)
set_option maxRecDepth 20000 in
theorem gX6_loses_X6_other : GoodIn wsX6_loses (wsV RX6 188 RX6 yX6_other wsX6_other) := goodIn_app (goodIn_of _ (by decide +kernel)) ggX6_loses_X6_other
theorem hd6_loses : yX6_loses.cls = RX6 ∧ yX6_loses.cls ≠ "java/lang/invoke/MethodHandle" ∧ yX6_loses.cls ≠ "java/lang/invoke/VarHandle" ∧ (parseMethodDescriptor yX6_loses.desc).map (fun d => d.parameters.length) = some 3 := by decide +kernel
abbrev rm6_loses : Room := { frames := 2, cells := 0, slots := 0, locals := 49 }
theorem in6_loses_6 : ∀ w ∈ wsX60, w ∈ wsX6_loses := fun w h => List.mem_cons_of_mem _ (List.mem_append_right _ h)
set_option maxHeartbeats 4000000 in
set_option maxRecDepth 100000 in
theorem c6_loses {l : Launch} {D : va_G} {cI cZ cB : ClassId} {q : Nat → Nat} {quiet : Int32} {mabove : Int64} {mbelow : Int64} {typed : Int32} {mat : Int32} {mstart : Int32} {mtoken : Int32} {mvalue : Int32} {many : Int32} {book : Nat → Int32} {images : Nat → Int32} {mkept : Nat → Int32} {aside : Nat → Int32} {refused : Nat → Int32} {text : Nat → Int32} {items : Nat → Int32} {drawn : Nat → Int32} {row : Nat → Int32} {best : Nat → Int32} {a_g : Int32} {a_set : Int32} {a_hour : Int32} {r : Int32}  (hf : f6_loses book a_g a_set a_hour = some r) : Met l yX6_loses wsX6_loses rm6_loses (zPp D cI cZ cB [.ref (q 0), .int a_g, .int a_set, .int a_hour] (cMod cI cZ q quiet mabove mbelow typed mat mstart mtoken mvalue many book images mkept aside refused text items drawn row best)) (zQp (some (.int r))) 0 0 (fun _ => False) := by
  unfold f6_loses at hf
  refine z_pureI RX6 (by decide +kernel) rfl rfl (Nat.le_of_ble_eq_true rfl) ?_
  intro p e s m args below meth c Q ls hx hb hml hown hts hK hP hret hl
  have hl : lv_has ls 5 [(0, .ref (q 0)), (1, .int a_g), (2, .int a_set), (3, .int a_hour)] := hl
  refine lv_aload_n hx hb (zD_g DX6_loses 0 rfl) rfl (lv_at hl 0 rfl) ?_
  refine lv_iload_n hx hb (zD_g DX6_loses 1 rfl) rfl (lv_at hl 1 rfl) ?_
  refine lv_iload_n hx hb (zD_g DX6_loses 2 rfl) rfl (lv_at hl 2 rfl) ?_
  obtain ⟨r1, hc2, hf⟩ := zb1_s hf
  refine z_Vp (As := [.int a_g, .int a_set]) (rest := []) ⟨hx, hb, hml, hown, hts⟩ hK (c6_harms (quiet := quiet) (mabove := mabove) (mbelow := mbelow) (typed := typed) (mat := mat) (mstart := mstart) (mtoken := mtoken) (mvalue := mvalue) (many := many) (book := book) (images := images) (mkept := mkept) (aside := aside) (refused := refused) (text := text) (items := items) (drawn := drawn) (row := row) (best := best) (q := q) hc2) (cwV 2 hts gX6_loses_X6_harms rfl rfl rfl hd6_harms ⟨Nat.le_of_ble_eq_true rfl, Nat.le_of_ble_eq_true rfl⟩) hP rfl rfl rfl rfl hl.1 rfl rfl (Nat.le_of_ble_eq_true rfl) (zD_g DX6_loses 3 rfl) ⟨Nat.zero_le _, Nat.zero_le _⟩ ?_
  refine lv_aload_n hx hb (zD_g DX6_loses 4 rfl) rfl (lv_at hl 0 rfl) ?_
  refine va_get (D := D) (ci := 5) (v := .ref (q 1)) (C := RX6) (T := TX6) (N := 19) hx hb hts in6_loses_6 hown hK.1 hP 0 rfl rfl 0 (by decide) (hts _ (List.mem_of_getElem? (i := 1) rfl)) (fun _ h9 => h9) rfl (zD_g DX6_loses 5 rfl) ?_
  refine lv_bipush (v := (80 : Int32)) hx hb (zD_g DX6_loses 6 rfl) (by decide) ?_
  refine lv_bipush (v := (6 : Int32)) hx hb (zD_g DX6_loses 7 rfl) (by decide) ?_
  refine lv_aload_n hx hb (zD_g DX6_loses 8 rfl) rfl (lv_at hl 0 rfl) ?_
  refine lv_iload_n hx hb (zD_g DX6_loses 9 rfl) rfl (lv_at hl 1 rfl) ?_
  obtain ⟨r3, hc4, hf⟩ := zb1_s hf
  refine z_Vp (As := [.int a_g]) (rest := [.int (6 : Int32), .int (80 : Int32), .ref (q 1), .int r1]) ⟨hx, hb, hml, hown, hts⟩ hK (c6_other (quiet := quiet) (mabove := mabove) (mbelow := mbelow) (typed := typed) (mat := mat) (mstart := mstart) (mtoken := mtoken) (mvalue := mvalue) (many := many) (book := book) (images := images) (mkept := mkept) (aside := aside) (refused := refused) (text := text) (items := items) (drawn := drawn) (row := row) (best := best) (q := q) hc4) (cwV 1 hts gX6_loses_X6_other rfl rfl rfl hd6_other ⟨Nat.le_of_ble_eq_true rfl, Nat.le_of_ble_eq_true rfl⟩) hP rfl rfl rfl rfl hl.1 rfl rfl (Nat.le_of_ble_eq_true rfl) (zD_g DX6_loses 10 rfl) ⟨Nat.zero_le _, Nat.zero_le _⟩ ?_
  refine lv_imul hx hb (zD_g DX6_loses 11 rfl) ?_
  refine lv_iadd hx hb (zD_g DX6_loses 12 rfl) ?_
  refine lv_iload_n hx hb (zD_g DX6_loses 13 rfl) rfl (lv_at hl 3 rfl) ?_
  refine lv_iadd hx hb (zD_g DX6_loses 14 rfl) ?_
  obtain ⟨h5, hf⟩ := zg_s hf
  refine z_iald (k := (((80 : Int32) + ((6 : Int32) * r3)) + a_hour).toNatClampNeg) hx hb hK.1 hP 1 0 rfl rfl h5 rfl (zD_g DX6_loses 15 rfl) ?_
  refine lv_isub hx hb (zD_g DX6_loses 16 rfl) ?_
  refine lv_topi (fun x6 ex6 => ?_)
  replace hf := zl_s hf x6 ex6
  refine lv_istore (lv' := [(4, .int x6), (0, .ref (q 0)), (1, .int a_g), (2, .int a_set), (3, .int a_hour)]) hx hb (zD_g DX6_loses 17 rfl) hl (by decide) rfl (fun ls hl => ?_)
  refine lv_iload hx hb (zD_g DX6_loses 18 rfl) (lv_at hl 0 rfl) ?_
  refine lv_if_ge (tgt := 36) hx hb (zD_g DX6_loses 19 rfl) (by decide) (fun c7 => ?_) (fun c7 => ?_)
  · replace hf := z_t c7 hf
    refine lv_iload hx hb (zD_g DX6_loses 22 rfl) (lv_at hl 0 rfl) ?_
    cases hf
    exact hret _ _ (zD_g DX6_loses 23 rfl)
  · replace hf := z_f c7 hf
    refine lv_iconst (v := (0 : Int32)) hx hb (zD_g DX6_loses 20 rfl) (by decide) ?_
    refine lv_goto (tgt := 38) hx hb (zD_g DX6_loses 21 rfl) (by decide) ?_
    cases hf
    exact hret _ _ (zD_g DX6_loses 23 rfl)
abbrev dlX6_sends : List (Nat × Instr × Nat) := [(0, .aload_n 0, 1), (1, .iload_n 1, 1), (2, .invokevirtual 87, 3), (5, .istore_n 3, 1), (6, .aload_n 0, 1), (7, .iload_n 1, 1), (8, .invokevirtual 188, 3), (11, .istore 4, 2), (13, .aload_n 0, 1), (14, .iload_n 1, 1), (15, .iload_n 3, 1), (16, .invokevirtual 203, 3), (19, .istore 5, 2), (21, .iload 5, 2), (23, .ifCond .eq 13, 3), (26, .aload_n 0, 1), (27, .iload_n 1, 1), (28, .iload_n 3, 1), (29, .iload_n 2, 1), (30, .invokevirtual 206, 3), (33, .goto 4, 3), (36, .iconst 1, 1), (37, .istore 6, 2), (39, .aload_n 0, 1), (40, .getfield 7, 3), (43, .bipush 92, 2), (45, .iload 4, 2), (47, .iadd, 1), (48, .dup2, 1), (49, .iaload, 1), (50, .iload 6, 2), (52, .iadd, 1), (53, .iastore, 1), (54, .iconst 0, 1), (55, .istore 7, 2), (57, .iload 7, 2), (59, .aload_n 0, 1), (60, .getfield 7, 3), (63, .iconst 0, 1), (64, .iaload, 1), (65, .if_icmp .ge 52, 3), (68, .iload 5, 2), (70, .ifCond .eq 47, 3), (73, .aload_n 0, 1), (74, .getfield 7, 3), (77, .bipush 36, 2), (79, .iload 7, 2), (81, .iadd, 1), (82, .aload_n 0, 1), (83, .getfield 7, 3), (86, .bipush 36, 2), (88, .iload 7, 2), (90, .iadd, 1), (91, .iaload, 1), (92, .iload_n 1, 1), (93, .if_icmp .ne 7, 3), (96, .iconst (-1), 1), (97, .goto 13, 3), (100, .aload_n 0, 1), (101, .getfield 7, 3), (104, .bipush 36, 2), (106, .iload 7, 2), (108, .iadd, 1), (109, .iaload, 1), (110, .iastore, 1), (111, .iinc 7 1, 3), (114, .goto (-57), 3), (117, .aload_n 0, 1), (118, .getfield 7, 3), (121, .bipush 68, 2), (123, .iload_n 1, 1), (124, .iadd, 1), (125, .iload 5, 2), (127, .ifCond .eq 8, 3), (130, .iload 4, 2), (132, .goto 12, 3), (135, .aload_n 0, 1), (136, .getfield 7, 3), (139, .bipush 68, 2), (141, .iload_n 1, 1), (142, .iadd, 1), (143, .iaload, 1), (144, .iastore, 1), (145, .aload_n 0, 1), (146, .getfield 7, 3), (149, .iconst 2, 1), (150, .dup2, 1), (151, .iaload, 1), (152, .iconst 1, 1), (153, .iadd, 1), (154, .iastore, 1), (155, .iload 5, 2), (157, .ifCond .eq 8, 3), (160, .iload 6, 2), (162, .goto 5, 3), (165, .bipush (-5), 2), (167, .ireturn, 1)]
theorem DX6_sends : zD cX6_sends dlX6_sends = true := by decide +kernel
set_option maxRecDepth 20000 in
theorem ggX6_sends_X6_thingsIn : GoodIn wsX6_sends wsX6_thingsIn := goodIn_r _ [6, 1, 43, 44, 45, 46, 47, 48, 49, 50, 51, 52, 53, 54, 55, 56, 57, 58, 59, 60, 61] (by decide +kernel) (by decide +kernel)
set_option maxRecDepth 20000 in
theorem gX6_sends_X6_thingsIn : GoodIn wsX6_sends (wsV RX6 87 RX6 yX6_thingsIn wsX6_thingsIn) := goodIn_app (goodIn_of _ (by decide +kernel)) ggX6_sends_X6_thingsIn
set_option maxRecDepth 20000 in
theorem ggX6_sends_X6_other : GoodIn wsX6_sends wsX6_other := goodIn_r _ [10, 1, 43, 44, 45, 46, 47, 48, 49, 50, 51, 52, 53, 54, 55, 56, 57, 58, 59, 60, 61] (by decide +kernel) (by decide +kernel)
set_option maxRecDepth 20000 in
theorem gX6_sends_X6_other : GoodIn wsX6_sends (wsV RX6 188 RX6 yX6_other wsX6_other) := goodIn_app (goodIn_of _ (by decide +kernel)) ggX6_sends_X6_other
set_option maxRecDepth 20000 in
theorem ggX6_sends_X6_passes : GoodIn wsX6_sends wsX6_passes := goodIn_r _ [14, 1, 7, 8, 9, 5, 10, 15, 16, 17, 18, 19, 20, 21, 22, 23, 24, 25, 26, 27, 28, 29, 30, 31, 32, 33, 34, 43, 44, 45, 46, 47, 48, 49, 50, 51, 52, 53, 54, 55, 56, 57, 58, 59, 60, 61] (by decide +kernel) (by decide +kernel)
set_option maxRecDepth 20000 in
theorem gX6_sends_X6_passes : GoodIn wsX6_sends (wsV RX6 203 RX6 yX6_passes wsX6_passes) := goodIn_app (goodIn_of _ (by decide +kernel)) ggX6_sends_X6_passes
set_option maxRecDepth 20000 in
theorem ggX6_sends_X6_loses : GoodIn wsX6_sends wsX6_loses := goodIn_r _ [38, 1, 39, 40, 41, 5, 42, 23, 24, 25, 26, 7, 8, 9, 10, 43, 44, 45, 46, 47, 48, 49, 50, 51, 52, 53, 54, 55, 56, 57, 58, 59, 60, 61] (by decide +kernel) (by decide +kernel)
set_option maxRecDepth 20000 in
theorem gX6_sends_X6_loses : GoodIn wsX6_sends (wsV RX6 206 RX6 yX6_loses wsX6_loses) := goodIn_app (goodIn_of _ (by decide +kernel)) ggX6_sends_X6_loses
theorem hd6_sends : yX6_sends.cls = RX6 ∧ yX6_sends.cls ≠ "java/lang/invoke/MethodHandle" ∧ yX6_sends.cls ≠ "java/lang/invoke/VarHandle" ∧ (parseMethodDescriptor yX6_sends.desc).map (fun d => d.parameters.length) = some 2 := by decide +kernel
abbrev rm6_sends : Room := { frames := 4, cells := 0, slots := 0, locals := 93 }
theorem in6_sends_6 : ∀ w ∈ wsX60, w ∈ wsX6_sends := fun w h => List.mem_cons_of_mem _ (List.mem_append_right _ h)
set_option maxHeartbeats 4000000 in
set_option maxRecDepth 100000 in
theorem c6_sends {l : Launch} {D : va_G} {cI cZ cB : ClassId} {q : Nat → Nat} {sz : Nat} {quiet : Int32} {mabove : Int64} {mbelow : Int64} {typed : Int32} {mat : Int32} {mstart : Int32} {mtoken : Int32} {mvalue : Int32} {many : Int32} {book : Nat → Int32} {images : Nat → Int32} {mkept : Nat → Int32} {aside : Nat → Int32} {refused : Nat → Int32} {text : Nat → Int32} {items : Nat → Int32} {drawn : Nat → Int32} {row : Nat → Int32} {best : Nat → Int32} {a_g : Int32} {a_hour : Int32} {r : Int32} {d_book : Nat → Int32} (hf : f6_sends book a_g a_hour = some (r, d_book)) : Met l yX6_sends wsX6_sends rm6_sends (zPm D cI cZ cB [.ref (q 0), .int a_g, .int a_hour] sz (cMod cI cZ q quiet mabove mbelow typed mat mstart mtoken mvalue many book images mkept aside refused text items drawn row best)) (zQm D (some (.int r)) (cMod cI cZ q quiet mabove mbelow typed mat mstart mtoken mvalue many d_book images mkept aside refused text items drawn row best) (va_A (cMod cI cZ q quiet mabove mbelow typed mat mstart mtoken mvalue many book images mkept aside refused text items drawn row best) sz)) 0 0 (va_A (cMod cI cZ q quiet mabove mbelow typed mat mstart mtoken mvalue many book images mkept aside refused text items drawn row best) sz) := by
  unfold f6_sends at hf
  refine z_mutI RX6 (by decide +kernel) rfl rfl (Nat.le_of_ble_eq_true rfl) ?_
  intro p e s m args below meth c Q A ls hx hb hml hown hts hK hP hD hS hA hret hl
  have hl : lv_has ls 8 [(0, .ref (q 0)), (1, .int a_g), (2, .int a_hour)] := hl
  refine lv_aload_n hx hb (zD_g DX6_sends 0 rfl) rfl (lv_at hl 0 rfl) ?_
  refine lv_iload_n hx hb (zD_g DX6_sends 1 rfl) rfl (lv_at hl 1 rfl) ?_
  obtain ⟨r1, hc2, hf⟩ := zb1_s hf
  refine z_Vp (As := [.int a_g]) (rest := []) ⟨hx, hb, hml, hown, hts⟩ hK (c6_thingsIn (quiet := quiet) (mabove := mabove) (mbelow := mbelow) (typed := typed) (mat := mat) (mstart := mstart) (mtoken := mtoken) (mvalue := mvalue) (many := many) (book := book) (images := images) (mkept := mkept) (aside := aside) (refused := refused) (text := text) (items := items) (drawn := drawn) (row := row) (best := best) (q := q) hc2) (cwV 1 hts gX6_sends_X6_thingsIn rfl rfl rfl hd6_thingsIn ⟨Nat.le_of_ble_eq_true rfl, Nat.le_of_ble_eq_true rfl⟩) hP rfl rfl rfl rfl hl.1 rfl rfl (Nat.le_of_ble_eq_true rfl) (zD_g DX6_sends 2 rfl) ⟨Nat.zero_le _, Nat.zero_le _⟩ ?_
  refine lv_istore_n (lv' := [(3, .int r1), (0, .ref (q 0)), (1, .int a_g), (2, .int a_hour)]) hx hb (zD_g DX6_sends 3 rfl) rfl hl (by decide) rfl (fun ls hl => ?_)
  refine lv_aload_n hx hb (zD_g DX6_sends 4 rfl) rfl (lv_at hl 1 rfl) ?_
  refine lv_iload_n hx hb (zD_g DX6_sends 5 rfl) rfl (lv_at hl 2 rfl) ?_
  obtain ⟨r3, hc4, hf⟩ := zb1_s hf
  refine z_Vp (As := [.int a_g]) (rest := []) ⟨hx, hb, hml, hown, hts⟩ hK (c6_other (quiet := quiet) (mabove := mabove) (mbelow := mbelow) (typed := typed) (mat := mat) (mstart := mstart) (mtoken := mtoken) (mvalue := mvalue) (many := many) (book := book) (images := images) (mkept := mkept) (aside := aside) (refused := refused) (text := text) (items := items) (drawn := drawn) (row := row) (best := best) (q := q) hc4) (cwV 1 hts gX6_sends_X6_other rfl rfl rfl hd6_other ⟨Nat.le_of_ble_eq_true rfl, Nat.le_of_ble_eq_true rfl⟩) hP rfl rfl rfl rfl hl.1 rfl rfl (Nat.le_of_ble_eq_true rfl) (zD_g DX6_sends 6 rfl) ⟨Nat.zero_le _, Nat.zero_le _⟩ ?_
  refine lv_istore (lv' := [(4, .int r3), (3, .int r1), (0, .ref (q 0)), (1, .int a_g), (2, .int a_hour)]) hx hb (zD_g DX6_sends 7 rfl) hl (by decide) rfl (fun ls hl => ?_)
  refine lv_aload_n hx hb (zD_g DX6_sends 8 rfl) rfl (lv_at hl 2 rfl) ?_
  refine lv_iload_n hx hb (zD_g DX6_sends 9 rfl) rfl (lv_at hl 3 rfl) ?_
  refine lv_iload_n hx hb (zD_g DX6_sends 10 rfl) rfl (lv_at hl 1 rfl) ?_
  obtain ⟨r5, hc6, hf⟩ := zb1_s hf
  refine z_Vp (As := [.int a_g, .int r1]) (rest := []) ⟨hx, hb, hml, hown, hts⟩ hK (c6_passes (quiet := quiet) (mabove := mabove) (mbelow := mbelow) (typed := typed) (mat := mat) (mstart := mstart) (mtoken := mtoken) (mvalue := mvalue) (many := many) (book := book) (images := images) (mkept := mkept) (aside := aside) (refused := refused) (text := text) (items := items) (drawn := drawn) (row := row) (best := best) (q := q) hc6) (cwV 2 hts gX6_sends_X6_passes rfl rfl rfl hd6_passes ⟨Nat.le_of_ble_eq_true rfl, Nat.le_of_ble_eq_true rfl⟩) hP rfl rfl rfl rfl hl.1 rfl rfl (Nat.le_of_ble_eq_true rfl) (zD_g DX6_sends 11 rfl) ⟨Nat.zero_le _, Nat.zero_le _⟩ ?_
  refine lv_istore (lv' := [(5, .int r5), (4, .int r3), (3, .int r1), (0, .ref (q 0)), (1, .int a_g), (2, .int a_hour)]) hx hb (zD_g DX6_sends 12 rfl) hl (by decide) rfl (fun ls hl => ?_)
  refine lv_iload hx hb (zD_g DX6_sends 13 rfl) (lv_at hl 0 rfl) ?_
  obtain ⟨v8, hr31, hf⟩ := zb1_s hf
  have hJ31 : ∀ (H : Heap) (locs : List Loc), va_P D vwCl (cMod cI cZ q quiet mabove mbelow typed mat mstart mtoken mvalue many book images mkept aside refused text items drawn row best) H → va_D A (cMod cI cZ q quiet mabove mbelow typed mat mstart mtoken mvalue many book images mkept aside refused text items drawn row best) → va_S A s.heap H locs → ∀ (ls : Array Slot), lv_has ls 8 [(0, .ref (q 0)), (1, .int a_g), (4, .int r3), (5, .int r5)] → W p l e rm6_sends s m args below meth c H locs 0 0 Q (F0 m 37 ls [.int v8]) := by
    intro H locs hP hD hS ls hl
    refine lv_istore (lv' := [(6, .int v8), (0, .ref (q 0)), (1, .int a_g), (4, .int r3), (5, .int r5)]) hx hb (zD_g DX6_sends 22 rfl) hl (by decide) rfl (fun ls hl => ?_)
    refine lv_aload_n hx hb (zD_g DX6_sends 23 rfl) rfl (lv_at hl 1 rfl) ?_
    refine va_get (D := D) (ci := 5) (v := .ref (q 1)) (C := RX6) (T := TX6) (N := 19) hx hb hts in6_sends_6 hown hK.1 hP 0 rfl rfl 0 (by decide) (hts _ (List.mem_of_getElem? (i := 1) rfl)) (fun _ h9 => h9) rfl (zD_g DX6_sends 24 rfl) ?_
    refine lv_bipush (v := (92 : Int32)) hx hb (zD_g DX6_sends 25 rfl) (by decide) ?_
    refine lv_iload hx hb (zD_g DX6_sends 26 rfl) (lv_at hl 3 rfl) ?_
    refine lv_iadd hx hb (zD_g DX6_sends 27 rfl) ?_
    refine lv_dup2_11 hx hb (zD_g DX6_sends 28 rfl) rfl rfl ?_
    obtain ⟨h9, hf⟩ := zg_s hf
    refine z_iald (k := ((92 : Int32) + r3).toNatClampNeg) hx hb hK.1 hP 1 0 rfl rfl h9 rfl (zD_g DX6_sends 29 rfl) ?_
    refine lv_iload hx hb (zD_g DX6_sends 30 rfl) (lv_at hl 0 rfl) ?_
    refine lv_iadd hx hb (zD_g DX6_sends 31 rfl) ?_
    refine lv_topi (fun x10 ex10 => ?_)
    replace hf := zl_s hf x10 ex10
    obtain ⟨h11, hf⟩ := zg_s hf
    refine z_iast (k := ((92 : Int32) + r3).toNatClampNeg) (ws' := (cMod cI cZ q quiet mabove mbelow typed mat mstart mtoken mvalue many (upd book (((92 : Int32) + r3).toNatClampNeg) x10) images mkept aside refused text items drawn row best)) hx hb hK.1 hP hD hS 1 0 rfl rfl h11 rfl rfl (zD_g DX6_sends 32 rfl) (fun H locs hP hD hS => ?_)
    refine lv_iconst (v := (0 : Int32)) hx hb (zD_g DX6_sends 33 rfl) (by decide) ?_
    refine lv_istore (lv' := [(7, .int (0 : Int32)), (6, .int v8), (0, .ref (q 0)), (1, .int a_g), (4, .int r3), (5, .int r5)]) hx hb (zD_g DX6_sends 34 rfl) hl (by decide) rfl (fun ls hl => ?_)
    have hL14 : ∀ (k14 : (Nat → Int32) → Option (Int32 × (Nat → Int32))) (hk14 : ∀ (book_23 : Nat → Int32), k14 book_23 = some (r, d_book) → ∀ (H : Heap) (locs : List Loc), va_P D vwCl (cMod cI cZ q quiet mabove mbelow typed mat mstart mtoken mvalue many book_23 images mkept aside refused text items drawn row best) H → va_D A (cMod cI cZ q quiet mabove mbelow typed mat mstart mtoken mvalue many book_23 images mkept aside refused text items drawn row best) → va_S A s.heap H locs → ∀ (ls : Array Slot), lv_has ls 8 [(0, .ref (q 0)), (1, .int a_g), (4, .int r3), (5, .int r5), (6, .int v8)] → W p l e rm6_sends s m args below meth c H locs 0 0 Q (F0 m 117 ls [])) (n14 : Nat) (y12 : Int32) (book_13 : Nat → Int32), L6_sends_57 k14 a_g r5 n14 y12 book_13 = some (r, d_book) → ∀ (H : Heap) (locs : List Loc), va_P D vwCl (cMod cI cZ q quiet mabove mbelow typed mat mstart mtoken mvalue many book_13 images mkept aside refused text items drawn row best) H → va_D A (cMod cI cZ q quiet mabove mbelow typed mat mstart mtoken mvalue many book_13 images mkept aside refused text items drawn row best) → va_S A s.heap H locs → ∀ (ls : Array Slot), lv_has ls 8 [(0, .ref (q 0)), (1, .int a_g), (4, .int r3), (5, .int r5), (6, .int v8), (7, .int y12)] → W p l e rm6_sends s m args below meth c H locs 0 0 Q (F0 m 57 ls []) := by
      intro k14 hk14 n14
      induction n14 with
      | zero =>
        intro y12 book_13 hf
        cases hf
      | succ n14 ih14 =>
        intro y12 book_13 hf H locs hP hD hS ls hl
        rw [L6_sends_57] at hf
        refine lv_iload hx hb (zD_g DX6_sends 35 rfl) (lv_at hl 5 rfl) ?_
        refine lv_aload_n hx hb (zD_g DX6_sends 36 rfl) rfl (lv_at hl 0 rfl) ?_
        refine va_get (D := D) (ci := 5) (v := .ref (q 1)) (C := RX6) (T := TX6) (N := 19) hx hb hts in6_sends_6 hown hK.1 hP 0 rfl rfl 0 (by decide) (hts _ (List.mem_of_getElem? (i := 1) rfl)) (fun _ h9 => h9) rfl (zD_g DX6_sends 37 rfl) ?_
        refine lv_iconst (v := (0 : Int32)) hx hb (zD_g DX6_sends 38 rfl) (by decide) ?_
        refine z_iald (k := 0) hx hb hK.1 hP 1 0 rfl rfl (by unfold vp_in; decide) rfl (zD_g DX6_sends 39 rfl) ?_
        refine lv_icmp_ge (tgt := 117) hx hb (zD_g DX6_sends 40 rfl) (by decide) (fun c15 => ?_) (fun c15 => ?_)
        · replace hf := z_t c15 hf
          exact hk14 _ hf _ _ hP hD hS ls (lv_sub hl [0, 1, 2, 3, 4] rfl)
        · replace hf := z_f c15 hf
          refine lv_iload hx hb (zD_g DX6_sends 41 rfl) (lv_at hl 3 rfl) ?_
          refine lv_if_eq (tgt := 117) hx hb (zD_g DX6_sends 42 rfl) (by decide) (fun c16 => ?_) (fun c16 => ?_)
          · replace hf := z_t c16 hf
            exact hk14 _ hf _ _ hP hD hS ls (lv_sub hl [0, 1, 2, 3, 4] rfl)
          · replace hf := z_f c16 hf
            refine lv_aload_n hx hb (zD_g DX6_sends 43 rfl) rfl (lv_at hl 0 rfl) ?_
            refine va_get (D := D) (ci := 5) (v := .ref (q 1)) (C := RX6) (T := TX6) (N := 19) hx hb hts in6_sends_6 hown hK.1 hP 0 rfl rfl 0 (by decide) (hts _ (List.mem_of_getElem? (i := 1) rfl)) (fun _ h9 => h9) rfl (zD_g DX6_sends 44 rfl) ?_
            refine lv_bipush (v := (36 : Int32)) hx hb (zD_g DX6_sends 45 rfl) (by decide) ?_
            refine lv_iload hx hb (zD_g DX6_sends 46 rfl) (lv_at hl 5 rfl) ?_
            refine lv_iadd hx hb (zD_g DX6_sends 47 rfl) ?_
            refine lv_aload_n hx hb (zD_g DX6_sends 48 rfl) rfl (lv_at hl 0 rfl) ?_
            refine va_get (D := D) (ci := 5) (v := .ref (q 1)) (C := RX6) (T := TX6) (N := 19) hx hb hts in6_sends_6 hown hK.1 hP 0 rfl rfl 0 (by decide) (hts _ (List.mem_of_getElem? (i := 1) rfl)) (fun _ h9 => h9) rfl (zD_g DX6_sends 49 rfl) ?_
            refine lv_bipush (v := (36 : Int32)) hx hb (zD_g DX6_sends 50 rfl) (by decide) ?_
            refine lv_iload hx hb (zD_g DX6_sends 51 rfl) (lv_at hl 5 rfl) ?_
            refine lv_iadd hx hb (zD_g DX6_sends 52 rfl) ?_
            obtain ⟨h17, hf⟩ := zg_s hf
            refine z_iald (k := ((36 : Int32) + y12).toNatClampNeg) hx hb hK.1 hP 1 0 rfl rfl h17 rfl (zD_g DX6_sends 53 rfl) ?_
            refine lv_iload_n hx hb (zD_g DX6_sends 54 rfl) rfl (lv_at hl 1 rfl) ?_
            refine lv_icmp_ne (tgt := 100) hx hb (zD_g DX6_sends 55 rfl) (by decide) (fun c18 => ?_) (fun c18 => ?_)
            · replace hf := z_f c18 hf
              refine lv_aload_n hx hb (zD_g DX6_sends 58 rfl) rfl (lv_at hl 0 rfl) ?_
              refine va_get (D := D) (ci := 5) (v := .ref (q 1)) (C := RX6) (T := TX6) (N := 19) hx hb hts in6_sends_6 hown hK.1 hP 0 rfl rfl 0 (by decide) (hts _ (List.mem_of_getElem? (i := 1) rfl)) (fun _ h9 => h9) rfl (zD_g DX6_sends 59 rfl) ?_
              refine lv_bipush (v := (36 : Int32)) hx hb (zD_g DX6_sends 60 rfl) (by decide) ?_
              refine lv_iload hx hb (zD_g DX6_sends 61 rfl) (lv_at hl 5 rfl) ?_
              refine lv_iadd hx hb (zD_g DX6_sends 62 rfl) ?_
              obtain ⟨h19, hf⟩ := zg_s hf
              refine z_iald (k := ((36 : Int32) + y12).toNatClampNeg) hx hb hK.1 hP 1 0 rfl rfl h19 rfl (zD_g DX6_sends 63 rfl) ?_
              refine lv_topi (fun x20 ex20 => ?_)
              replace hf := zl_s hf x20 ex20
              obtain ⟨h21, hf⟩ := zg_s hf
              refine z_iast (k := ((36 : Int32) + y12).toNatClampNeg) (ws' := (cMod cI cZ q quiet mabove mbelow typed mat mstart mtoken mvalue many (upd book_13 (((36 : Int32) + y12).toNatClampNeg) x20) images mkept aside refused text items drawn row best)) hx hb hK.1 hP hD hS 1 0 rfl rfl h21 rfl rfl (zD_g DX6_sends 64 rfl) (fun H locs hP hD hS => ?_)
              refine lv_iinc (v := y12 + 1) (lv' := [(7, .int (y12 + 1)), (0, .ref (q 0)), (1, .int a_g), (4, .int r3), (5, .int r5), (6, .int v8)]) (k := 5) hx hb (zD_g DX6_sends 65 rfl) hl rfl rfl (by decide) rfl (fun ls hl => ?_)
              refine lv_goto (tgt := 57) hx hb (zD_g DX6_sends 66 rfl) (by decide) ?_
              exact ih14 _ _ hf _ _ hP hD hS ls (lv_sub hl [1, 2, 3, 4, 5, 0] rfl)
            · replace hf := z_t c18 hf
              refine lv_iconst (v := (-1 : Int32)) hx hb (zD_g DX6_sends 56 rfl) (by decide) ?_
              refine lv_goto (tgt := 110) hx hb (zD_g DX6_sends 57 rfl) (by decide) ?_
              obtain ⟨h22, hf⟩ := zg_s hf
              refine z_iast (k := ((36 : Int32) + y12).toNatClampNeg) (ws' := (cMod cI cZ q quiet mabove mbelow typed mat mstart mtoken mvalue many (upd book_13 (((36 : Int32) + y12).toNatClampNeg) (-1 : Int32)) images mkept aside refused text items drawn row best)) hx hb hK.1 hP hD hS 1 0 rfl rfl h22 rfl rfl (zD_g DX6_sends 64 rfl) (fun H locs hP hD hS => ?_)
              refine lv_iinc (v := y12 + 1) (lv' := [(7, .int (y12 + 1)), (0, .ref (q 0)), (1, .int a_g), (4, .int r3), (5, .int r5), (6, .int v8)]) (k := 5) hx hb (zD_g DX6_sends 65 rfl) hl rfl rfl (by decide) rfl (fun ls hl => ?_)
              refine lv_goto (tgt := 57) hx hb (zD_g DX6_sends 66 rfl) (by decide) ?_
              exact ih14 _ _ hf _ _ hP hD hS ls (lv_sub hl [1, 2, 3, 4, 5, 0] rfl)
    refine hL14 _ (fun book_23 hf H locs hP hD hS ls hl => ?_) _ _ _ hf _ _ hP hD hS ls (lv_sub hl [2, 3, 4, 5, 1, 0] rfl)
    refine lv_aload_n hx hb (zD_g DX6_sends 67 rfl) rfl (lv_at hl 0 rfl) ?_
    refine va_get (D := D) (ci := 5) (v := .ref (q 1)) (C := RX6) (T := TX6) (N := 19) hx hb hts in6_sends_6 hown hK.1 hP 0 rfl rfl 0 (by decide) (hts _ (List.mem_of_getElem? (i := 1) rfl)) (fun _ h9 => h9) rfl (zD_g DX6_sends 68 rfl) ?_
    refine lv_bipush (v := (68 : Int32)) hx hb (zD_g DX6_sends 69 rfl) (by decide) ?_
    refine lv_iload_n hx hb (zD_g DX6_sends 70 rfl) rfl (lv_at hl 1 rfl) ?_
    refine lv_iadd hx hb (zD_g DX6_sends 71 rfl) ?_
    refine lv_iload hx hb (zD_g DX6_sends 72 rfl) (lv_at hl 3 rfl) ?_
    obtain ⟨v25, hr29, hf⟩ := zb1_s hf
    have hJ29 : ∀ (H : Heap) (locs : List Loc), va_P D vwCl (cMod cI cZ q quiet mabove mbelow typed mat mstart mtoken mvalue many book_23 images mkept aside refused text items drawn row best) H → va_D A (cMod cI cZ q quiet mabove mbelow typed mat mstart mtoken mvalue many book_23 images mkept aside refused text items drawn row best) → va_S A s.heap H locs → ∀ (ls : Array Slot), lv_has ls 8 [(0, .ref (q 0)), (5, .int r5), (6, .int v8)] → W p l e rm6_sends s m args below meth c H locs 0 0 Q (F0 m 144 ls [.int v25, .int ((68 : Int32) + a_g), .ref (q 1)]) := by
      intro H locs hP hD hS ls hl
      obtain ⟨h26, hf⟩ := zg_s hf
      refine z_iast (k := ((68 : Int32) + a_g).toNatClampNeg) (ws' := (cMod cI cZ q quiet mabove mbelow typed mat mstart mtoken mvalue many (upd book_23 (((68 : Int32) + a_g).toNatClampNeg) v25) images mkept aside refused text items drawn row best)) hx hb hK.1 hP hD hS 1 0 rfl rfl h26 rfl rfl (zD_g DX6_sends 82 rfl) (fun H locs hP hD hS => ?_)
      refine lv_aload_n hx hb (zD_g DX6_sends 83 rfl) rfl (lv_at hl 0 rfl) ?_
      refine va_get (D := D) (ci := 5) (v := .ref (q 1)) (C := RX6) (T := TX6) (N := 19) hx hb hts in6_sends_6 hown hK.1 hP 0 rfl rfl 0 (by decide) (hts _ (List.mem_of_getElem? (i := 1) rfl)) (fun _ h9 => h9) rfl (zD_g DX6_sends 84 rfl) ?_
      refine lv_iconst (v := (2 : Int32)) hx hb (zD_g DX6_sends 85 rfl) (by decide) ?_
      refine lv_dup2_11 hx hb (zD_g DX6_sends 86 rfl) rfl rfl ?_
      refine z_iald (k := 2) hx hb hK.1 hP 1 0 rfl rfl (by unfold vp_in; decide) rfl (zD_g DX6_sends 87 rfl) ?_
      refine lv_iconst (v := (1 : Int32)) hx hb (zD_g DX6_sends 88 rfl) (by decide) ?_
      refine lv_iadd hx hb (zD_g DX6_sends 89 rfl) ?_
      refine lv_topi (fun x27 ex27 => ?_)
      replace hf := zl_s hf x27 ex27
      refine z_iast (k := 2) (ws' := (cMod cI cZ q quiet mabove mbelow typed mat mstart mtoken mvalue many (upd (upd book_23 (((68 : Int32) + a_g).toNatClampNeg) v25) 2 x27) images mkept aside refused text items drawn row best)) hx hb hK.1 hP hD hS 1 0 rfl rfl (by unfold vp_in; decide) rfl rfl (zD_g DX6_sends 90 rfl) (fun H locs hP hD hS => ?_)
      refine lv_iload hx hb (zD_g DX6_sends 91 rfl) (lv_at hl 1 rfl) ?_
      refine lv_if_eq (tgt := 165) hx hb (zD_g DX6_sends 92 rfl) (by decide) (fun c28 => ?_) (fun c28 => ?_)
      · replace hf := z_t c28 hf
        refine lv_bipush (v := (-5 : Int32)) hx hb (zD_g DX6_sends 95 rfl) (by decide) ?_
        cases hf
        exact hret _ _ _ _ hP hD hS (zD_g DX6_sends 96 rfl)
      · replace hf := z_f c28 hf
        refine lv_iload hx hb (zD_g DX6_sends 93 rfl) (lv_at hl 2 rfl) ?_
        refine lv_goto (tgt := 167) hx hb (zD_g DX6_sends 94 rfl) (by decide) ?_
        cases hf
        exact hret _ _ _ _ hP hD hS (zD_g DX6_sends 96 rfl)
    clear hf
    have hf := hr29
    refine lv_if_eq (tgt := 135) hx hb (zD_g DX6_sends 73 rfl) (by decide) (fun c24 => ?_) (fun c24 => ?_)
    · replace hf := z_t c24 hf
      refine lv_aload_n hx hb (zD_g DX6_sends 76 rfl) rfl (lv_at hl 0 rfl) ?_
      refine va_get (D := D) (ci := 5) (v := .ref (q 1)) (C := RX6) (T := TX6) (N := 19) hx hb hts in6_sends_6 hown hK.1 hP 0 rfl rfl 0 (by decide) (hts _ (List.mem_of_getElem? (i := 1) rfl)) (fun _ h9 => h9) rfl (zD_g DX6_sends 77 rfl) ?_
      refine lv_bipush (v := (68 : Int32)) hx hb (zD_g DX6_sends 78 rfl) (by decide) ?_
      refine lv_iload_n hx hb (zD_g DX6_sends 79 rfl) rfl (lv_at hl 1 rfl) ?_
      refine lv_iadd hx hb (zD_g DX6_sends 80 rfl) ?_
      obtain ⟨h30, hf⟩ := zg_s hf
      refine z_iald (k := ((68 : Int32) + a_g).toNatClampNeg) hx hb hK.1 hP 1 0 rfl rfl h30 rfl (zD_g DX6_sends 81 rfl) ?_
      cases hf
      exact hJ29 _ _ hP hD hS ls (lv_sub hl [0, 3, 4] rfl)
    · replace hf := z_f c24 hf
      refine lv_iload hx hb (zD_g DX6_sends 74 rfl) (lv_at hl 2 rfl) ?_
      refine lv_goto (tgt := 144) hx hb (zD_g DX6_sends 75 rfl) (by decide) ?_
      cases hf
      exact hJ29 _ _ hP hD hS ls (lv_sub hl [0, 3, 4] rfl)
  clear hf
  have hf := hr31
  refine lv_if_eq (tgt := 36) hx hb (zD_g DX6_sends 14 rfl) (by decide) (fun c7 => ?_) (fun c7 => ?_)
  · replace hf := z_t c7 hf
    refine lv_iconst (v := (1 : Int32)) hx hb (zD_g DX6_sends 21 rfl) (by decide) ?_
    cases hf
    exact hJ31 _ _ hP hD hS ls (lv_sub hl [3, 4, 1, 0] rfl)
  · replace hf := z_f c7 hf
    refine lv_aload_n hx hb (zD_g DX6_sends 15 rfl) rfl (lv_at hl 3 rfl) ?_
    refine lv_iload_n hx hb (zD_g DX6_sends 16 rfl) rfl (lv_at hl 4 rfl) ?_
    refine lv_iload_n hx hb (zD_g DX6_sends 17 rfl) rfl (lv_at hl 2 rfl) ?_
    refine lv_iload_n hx hb (zD_g DX6_sends 18 rfl) rfl (lv_at hl 5 rfl) ?_
    obtain ⟨r32, hc33, hf⟩ := zb1_s hf
    refine z_Vp (As := [.int a_g, .int r1, .int a_hour]) (rest := []) ⟨hx, hb, hml, hown, hts⟩ hK (c6_loses (quiet := quiet) (mabove := mabove) (mbelow := mbelow) (typed := typed) (mat := mat) (mstart := mstart) (mtoken := mtoken) (mvalue := mvalue) (many := many) (book := book) (images := images) (mkept := mkept) (aside := aside) (refused := refused) (text := text) (items := items) (drawn := drawn) (row := row) (best := best) (q := q) hc33) (cwV 3 hts gX6_sends_X6_loses rfl rfl rfl hd6_loses ⟨Nat.le_of_ble_eq_true rfl, Nat.le_of_ble_eq_true rfl⟩) hP rfl rfl rfl rfl hl.1 rfl rfl (Nat.le_of_ble_eq_true rfl) (zD_g DX6_sends 19 rfl) ⟨Nat.zero_le _, Nat.zero_le _⟩ ?_
    refine lv_goto (tgt := 37) hx hb (zD_g DX6_sends 20 rfl) (by decide) ?_
    cases hf
    exact hJ31 _ _ hP hD hS ls (lv_sub hl [3, 4, 1, 0] rfl)
abbrev dlX6_send : List (Nat × Instr × Nat) := [(0, .aload_n 0, 1), (1, .iload_n 1, 1), (2, .invokevirtual 84, 3), (5, .ifCond .eq 10, 3), (8, .iload_n 2, 1), (9, .invokestatic 105, 3), (12, .ifCond .ne 11, 3), (15, .aload_n 0, 1), (16, .iconst 0, 1), (17, .bipush (-10), 2), (19, .invokevirtual 52, 3), (22, .ireturn, 1), (23, .aload_n 0, 1), (24, .invokevirtual 97, 3), (27, .aload_n 0, 1), (28, .iload_n 1, 1), (29, .iload_n 2, 1), (30, .invokevirtual 209, 3), (33, .ireturn, 1)]
theorem DX6_send : zD cX6_send dlX6_send = true := by decide +kernel
set_option maxRecDepth 20000 in
theorem ggX6_send_X6_isGift : GoodIn wsX6_send wsX6_isGift := goodIn_r _ [5, 6, 7, 8, 4, 9, 68, 69, 70, 71, 72, 73, 74, 75, 76, 77, 78, 79, 80, 81, 82, 83, 84, 85, 86] (by decide +kernel) (by decide +kernel)
set_option maxRecDepth 20000 in
theorem gX6_send_X6_isGift : GoodIn wsX6_send (wsV RX6 84 RX6 yX6_isGift wsX6_isGift) := goodIn_app (goodIn_of _ (by decide +kernel)) ggX6_send_X6_isGift
set_option maxRecDepth 20000 in
theorem ggX6_send_X6_isHour : GoodIn wsX6_send wsX6_isHour := goodIn_r _ [12, 13, 7, 8, 4, 9] (by decide +kernel) (by decide +kernel)
set_option maxRecDepth 20000 in
theorem gX6_send_X6_isHour : GoodIn wsX6_send (va_wsS RX6 105 yX6_isHour wsX6_isHour) := goodIn_app (goodIn_of _ (by decide +kernel)) ggX6_send_X6_isHour
set_option maxRecDepth 20000 in
theorem ggX6_send_X6_refuses : GoodIn wsX6_send wsX6_refuses := goodIn_r _ [17, 18, 19, 68, 69, 70, 71, 72, 73, 74, 75, 76, 77, 78, 79, 80, 81, 82, 83, 84, 85, 86] (by decide +kernel) (by decide +kernel)
set_option maxRecDepth 20000 in
theorem gX6_send_X6_refuses : GoodIn wsX6_send (wsV RX6 52 RX6 yX6_refuses wsX6_refuses) := goodIn_app (goodIn_of _ (by decide +kernel)) ggX6_send_X6_refuses
set_option maxRecDepth 20000 in
theorem ggX6_send_X6_remembers : GoodIn wsX6_send wsX6_remembers := goodIn_r _ [23, 6, 68, 69, 70, 71, 72, 73, 74, 75, 76, 77, 78, 79, 80, 81, 82, 83, 84, 85, 86] (by decide +kernel) (by decide +kernel)
set_option maxRecDepth 20000 in
theorem gX6_send_X6_remembers : GoodIn wsX6_send (wsV RX6 97 RX6 yX6_remembers wsX6_remembers) := goodIn_app (goodIn_of _ (by decide +kernel)) ggX6_send_X6_remembers
set_option maxRecDepth 20000 in
theorem ggX6_send_X6_sends : GoodIn wsX6_send wsX6_sends := goodIn_r _ [27, 6, 28, 29, 30, 4, 31, 32, 33, 34, 35, 36, 37, 38, 39, 40, 41, 42, 43, 44, 45, 46, 47, 48, 49, 50, 51, 52, 53, 54, 55, 56, 57, 58, 59, 60, 61, 62, 63, 64, 65, 66, 67, 68, 69, 70, 71, 72, 73, 74, 75, 76, 77, 78, 79, 80, 81, 82, 83, 84, 85, 86] (by decide +kernel) (by decide +kernel)
set_option maxRecDepth 20000 in
theorem gX6_send_X6_sends : GoodIn wsX6_send (wsV RX6 209 RX6 yX6_sends wsX6_sends) := goodIn_app (goodIn_of _ (by decide +kernel)) ggX6_send_X6_sends
theorem hd6_send : yX6_send.cls = RX6 ∧ yX6_send.cls ≠ "java/lang/invoke/MethodHandle" ∧ yX6_send.cls ≠ "java/lang/invoke/VarHandle" ∧ (parseMethodDescriptor yX6_send.desc).map (fun d => d.parameters.length) = some 2 := by decide +kernel
abbrev rm6_send : Room := { frames := 5, cells := 0, slots := 0, locals := 120 }
set_option maxHeartbeats 4000000 in
set_option maxRecDepth 100000 in
theorem c6_send {l : Launch} {D : va_G} {cI cZ cB : ClassId} {q : Nat → Nat} {sz : Nat} {quiet : Int32} {mabove : Int64} {mbelow : Int64} {typed : Int32} {mat : Int32} {mstart : Int32} {mtoken : Int32} {mvalue : Int32} {many : Int32} {book : Nat → Int32} {images : Nat → Int32} {mkept : Nat → Int32} {aside : Nat → Int32} {refused : Nat → Int32} {text : Nat → Int32} {items : Nat → Int32} {drawn : Nat → Int32} {row : Nat → Int32} {best : Nat → Int32} {a_g : Int32} {a_hour : Int32} {r : Int32} {d_book : Nat → Int32} {d_refused : Nat → Int32} (hf : f6_send quiet book refused a_g a_hour = some (r, d_book, d_refused)) : Met l yX6_send wsX6_send rm6_send (zPm D cI cZ cB [.ref (q 0), .int a_g, .int a_hour] sz (cMod cI cZ q quiet mabove mbelow typed mat mstart mtoken mvalue many book images mkept aside refused text items drawn row best)) (zQm D (some (.int r)) (cMod cI cZ q quiet mabove mbelow typed mat mstart mtoken mvalue many d_book images mkept aside d_refused text items drawn row best) (va_A (cMod cI cZ q quiet mabove mbelow typed mat mstart mtoken mvalue many book images mkept aside refused text items drawn row best) sz)) 0 0 (va_A (cMod cI cZ q quiet mabove mbelow typed mat mstart mtoken mvalue many book images mkept aside refused text items drawn row best) sz) := by
  unfold f6_send at hf
  refine z_mutI RX6 (by decide +kernel) rfl rfl (Nat.le_of_ble_eq_true rfl) ?_
  intro p e s m args below meth c Q A ls hx hb hml hown hts hK hP hD hS hA hret hl
  have hl : lv_has ls 3 [(0, .ref (q 0)), (1, .int a_g), (2, .int a_hour)] := hl
  refine lv_aload_n hx hb (zD_g DX6_send 0 rfl) rfl (lv_at hl 0 rfl) ?_
  refine lv_iload_n hx hb (zD_g DX6_send 1 rfl) rfl (lv_at hl 1 rfl) ?_
  obtain ⟨r1, hc2, hf⟩ := zb1_s hf
  refine z_Vp (As := [.int a_g]) (rest := []) ⟨hx, hb, hml, hown, hts⟩ hK (c6_isGift (quiet := quiet) (mabove := mabove) (mbelow := mbelow) (typed := typed) (mat := mat) (mstart := mstart) (mtoken := mtoken) (mvalue := mvalue) (many := many) (book := book) (images := images) (mkept := mkept) (aside := aside) (refused := refused) (text := text) (items := items) (drawn := drawn) (row := row) (best := best) (q := q) hc2) (cwV 1 hts gX6_send_X6_isGift rfl rfl rfl hd6_isGift ⟨Nat.le_of_ble_eq_true rfl, Nat.le_of_ble_eq_true rfl⟩) hP rfl rfl rfl rfl hl.1 rfl rfl (Nat.le_of_ble_eq_true rfl) (zD_g DX6_send 2 rfl) ⟨Nat.zero_le _, Nat.zero_le _⟩ ?_
  refine lv_if_eq (tgt := 15) hx hb (zD_g DX6_send 3 rfl) (by decide) (fun c3 => ?_) (fun c3 => ?_)
  · replace hf := z_t c3 hf
    refine lv_aload_n hx hb (zD_g DX6_send 7 rfl) rfl (lv_at hl 0 rfl) ?_
    refine lv_iconst (v := (0 : Int32)) hx hb (zD_g DX6_send 8 rfl) (by decide) ?_
    refine lv_bipush (v := (-10 : Int32)) hx hb (zD_g DX6_send 9 rfl) (by decide) ?_
    obtain ⟨r4, refused_5, hc6, hf⟩ := zb2_s hf
    refine z_Vm (As := [.int (0 : Int32), .int (-10 : Int32)]) (rest := []) (ws' := (cMod cI cZ q quiet mabove mbelow typed mat mstart mtoken mvalue many book images mkept aside refused_5 text items drawn row best)) ⟨hx, hb, hml, hown, hts⟩ hK (c6_refuses (quiet := quiet) (mabove := mabove) (mbelow := mbelow) (typed := typed) (mat := mat) (mstart := mstart) (mtoken := mtoken) (mvalue := mvalue) (many := many) (book := book) (images := images) (mkept := mkept) (aside := aside) (refused := refused) (text := text) (items := items) (drawn := drawn) (row := row) (best := best) (q := q) hc6) (cwV 2 hts gX6_send_X6_refuses rfl rfl rfl hd6_refuses ⟨Nat.le_of_ble_eq_true rfl, Nat.le_of_ble_eq_true rfl⟩) hP hD hS hA 11 [0, 1, 2, 3, 4, 5, 6, 7, 8, 9, 10] [] [0, 1, 2, 3, 4, 5, 6, 7, 8, 9, 10] (by decide +kernel) rfl rfl rfl rfl rfl rfl rfl hl.1 rfl rfl (Nat.le_of_ble_eq_true rfl) (zD_g DX6_send 10 rfl) ⟨Nat.zero_le _, Nat.zero_le _⟩ (fun H locs hP hD hS => ?_)
    cases hf
    exact hret _ _ _ _ hP hD hS (zD_g DX6_send 11 rfl)
  · replace hf := z_f c3 hf
    refine lv_iload_n hx hb (zD_g DX6_send 4 rfl) rfl (lv_at hl 2 rfl) ?_
    obtain ⟨r7, hc8, hf⟩ := zb1_s hf
    refine z_Sp (As := [.int a_hour]) (rest := []) ⟨hx, hb, hml, hown, hts⟩ hK (c6_isHour  hc8) (va_cwS 1 hts gX6_send_X6_isHour rfl rfl rfl hd6_isHour ⟨Nat.le_of_ble_eq_true rfl, Nat.le_of_ble_eq_true rfl⟩) (hP.sub [] rfl) rfl hl.1 rfl rfl (Nat.le_of_ble_eq_true rfl) (zD_g DX6_send 5 rfl) ⟨Nat.zero_le _, Nat.zero_le _⟩ ?_
    refine lv_if_ne (tgt := 23) hx hb (zD_g DX6_send 6 rfl) (by decide) (fun c9 => ?_) (fun c9 => ?_)
    · replace hf := z_f c9 hf
      refine lv_aload_n hx hb (zD_g DX6_send 12 rfl) rfl (lv_at hl 0 rfl) ?_
      obtain ⟨book_10, hc11, hf⟩ := zb1_s hf
      refine z_Vm (As := []) (rest := []) (ws' := (cMod cI cZ q quiet mabove mbelow typed mat mstart mtoken mvalue many book_10 images mkept aside refused text items drawn row best)) ⟨hx, hb, hml, hown, hts⟩ hK (c6_remembers (quiet := quiet) (mabove := mabove) (mbelow := mbelow) (typed := typed) (mat := mat) (mstart := mstart) (mtoken := mtoken) (mvalue := mvalue) (many := many) (book := book) (images := images) (mkept := mkept) (aside := aside) (refused := refused) (text := text) (items := items) (drawn := drawn) (row := row) (best := best) (q := q) hc11) (cwV 0 hts gX6_send_X6_remembers rfl rfl rfl hd6_remembers ⟨Nat.le_of_ble_eq_true rfl, Nat.le_of_ble_eq_true rfl⟩) hP hD hS hA 11 [0, 1, 2, 3, 4, 5, 6, 7, 8, 9, 10] [] [0, 1, 2, 3, 4, 5, 6, 7, 8, 9, 10] (by decide +kernel) rfl rfl rfl rfl rfl rfl rfl hl.1 rfl rfl (Nat.le_of_ble_eq_true rfl) (zD_g DX6_send 13 rfl) ⟨Nat.zero_le _, Nat.zero_le _⟩ (fun H locs hP hD hS => ?_)
      refine lv_aload_n hx hb (zD_g DX6_send 14 rfl) rfl (lv_at hl 0 rfl) ?_
      refine lv_iload_n hx hb (zD_g DX6_send 15 rfl) rfl (lv_at hl 1 rfl) ?_
      refine lv_iload_n hx hb (zD_g DX6_send 16 rfl) rfl (lv_at hl 2 rfl) ?_
      obtain ⟨r12, book_13, hc14, hf⟩ := zb2_s hf
      refine z_Vm (As := [.int a_g, .int a_hour]) (rest := []) (ws' := (cMod cI cZ q quiet mabove mbelow typed mat mstart mtoken mvalue many book_13 images mkept aside refused text items drawn row best)) ⟨hx, hb, hml, hown, hts⟩ hK (c6_sends (quiet := quiet) (mabove := mabove) (mbelow := mbelow) (typed := typed) (mat := mat) (mstart := mstart) (mtoken := mtoken) (mvalue := mvalue) (many := many) (book := book_10) (images := images) (mkept := mkept) (aside := aside) (refused := refused) (text := text) (items := items) (drawn := drawn) (row := row) (best := best) (q := q) hc14) (cwV 2 hts gX6_send_X6_sends rfl rfl rfl hd6_sends ⟨Nat.le_of_ble_eq_true rfl, Nat.le_of_ble_eq_true rfl⟩) hP hD hS hA 11 [0, 1, 2, 3, 4, 5, 6, 7, 8, 9, 10] [] [0, 1, 2, 3, 4, 5, 6, 7, 8, 9, 10] (by decide +kernel) rfl rfl rfl rfl rfl rfl rfl hl.1 rfl rfl (Nat.le_of_ble_eq_true rfl) (zD_g DX6_send 17 rfl) ⟨Nat.zero_le _, Nat.zero_le _⟩ (fun H locs hP hD hS => ?_)
      cases hf
      exact hret _ _ _ _ hP hD hS (zD_g DX6_send 18 rfl)
    · replace hf := z_t c9 hf
      refine lv_aload_n hx hb (zD_g DX6_send 7 rfl) rfl (lv_at hl 0 rfl) ?_
      refine lv_iconst (v := (0 : Int32)) hx hb (zD_g DX6_send 8 rfl) (by decide) ?_
      refine lv_bipush (v := (-10 : Int32)) hx hb (zD_g DX6_send 9 rfl) (by decide) ?_
      obtain ⟨r15, refused_16, hc17, hf⟩ := zb2_s hf
      refine z_Vm (As := [.int (0 : Int32), .int (-10 : Int32)]) (rest := []) (ws' := (cMod cI cZ q quiet mabove mbelow typed mat mstart mtoken mvalue many book images mkept aside refused_16 text items drawn row best)) ⟨hx, hb, hml, hown, hts⟩ hK (c6_refuses (quiet := quiet) (mabove := mabove) (mbelow := mbelow) (typed := typed) (mat := mat) (mstart := mstart) (mtoken := mtoken) (mvalue := mvalue) (many := many) (book := book) (images := images) (mkept := mkept) (aside := aside) (refused := refused) (text := text) (items := items) (drawn := drawn) (row := row) (best := best) (q := q) hc17) (cwV 2 hts gX6_send_X6_refuses rfl rfl rfl hd6_refuses ⟨Nat.le_of_ble_eq_true rfl, Nat.le_of_ble_eq_true rfl⟩) hP hD hS hA 11 [0, 1, 2, 3, 4, 5, 6, 7, 8, 9, 10] [] [0, 1, 2, 3, 4, 5, 6, 7, 8, 9, 10] (by decide +kernel) rfl rfl rfl rfl rfl rfl rfl hl.1 rfl rfl (Nat.le_of_ble_eq_true rfl) (zD_g DX6_send 10 rfl) ⟨Nat.zero_le _, Nat.zero_le _⟩ (fun H locs hP hD hS => ?_)
      cases hf
      exact hret _ _ _ _ hP hD hS (zD_g DX6_send 11 rfl)
abbrev dlX6_undo : List (Nat × Instr × Nat) := [(0, .aload_n 0, 1), (1, .getfield 7, 3), (4, .iconst 3, 1), (5, .iaload, 1), (6, .ifCond .ne 8, 3), (9, .aload_n 0, 1), (10, .invokevirtual 94, 3), (13, .ireturn, 1), (14, .aload_n 0, 1), (15, .getfield 7, 3), (18, .iconst 3, 1), (19, .dup2, 1), (20, .iaload, 1), (21, .iconst 1, 1), (22, .isub, 1), (23, .iastore, 1), (24, .bipush 94, 2), (26, .bipush 17, 2), (28, .aload_n 0, 1), (29, .getfield 7, 3), (32, .iconst 3, 1), (33, .iaload, 1), (34, .imul, 1), (35, .iadd, 1), (36, .istore_n 1, 1), (37, .iconst 0, 1), (38, .istore_n 2, 1), (39, .iload_n 2, 1), (40, .bipush 8, 2), (42, .if_icmp .ge 26, 3), (45, .aload_n 0, 1), (46, .getfield 7, 3), (49, .bipush 36, 2), (51, .iload_n 2, 1), (52, .iadd, 1), (53, .aload_n 0, 1), (54, .getfield 7, 3), (57, .iload_n 1, 1), (58, .iload_n 2, 1), (59, .iadd, 1), (60, .iaload, 1), (61, .iastore, 1), (62, .iinc 2 1, 3), (65, .goto (-26), 3), (68, .iconst 0, 1), (69, .istore_n 2, 1), (70, .iload_n 2, 1), (71, .bipush 6, 2), (73, .if_icmp .ge 29, 3), (76, .aload_n 0, 1), (77, .getfield 7, 3), (80, .bipush 68, 2), (82, .iload_n 2, 1), (83, .iadd, 1), (84, .aload_n 0, 1), (85, .getfield 7, 3), (88, .iload_n 1, 1), (89, .bipush 8, 2), (91, .iadd, 1), (92, .iload_n 2, 1), (93, .iadd, 1), (94, .iaload, 1), (95, .iastore, 1), (96, .iinc 2 1, 3), (99, .goto (-29), 3), (102, .aload_n 0, 1), (103, .getfield 7, 3), (106, .iconst 2, 1), (107, .aload_n 0, 1), (108, .getfield 7, 3), (111, .iload_n 1, 1), (112, .bipush 14, 2), (114, .iadd, 1), (115, .iaload, 1), (116, .iastore, 1), (117, .aload_n 0, 1), (118, .getfield 7, 3), (121, .bipush 92, 2), (123, .aload_n 0, 1), (124, .getfield 7, 3), (127, .iload_n 1, 1), (128, .bipush 15, 2), (130, .iadd, 1), (131, .iaload, 1), (132, .iastore, 1), (133, .aload_n 0, 1), (134, .getfield 7, 3), (137, .bipush 93, 2), (139, .aload_n 0, 1), (140, .getfield 7, 3), (143, .iload_n 1, 1), (144, .bipush 16, 2), (146, .iadd, 1), (147, .iaload, 1), (148, .iastore, 1), (149, .iconst 1, 1), (150, .ireturn, 1)]
theorem DX6_undo : zD cX6_undo dlX6_undo = true := by decide +kernel
set_option maxRecDepth 20000 in
theorem ggX6_undo_X6_no : GoodIn wsX6_undo wsX6_no := goodIn_r _ [6, 7, 8, 9, 5, 10, 11, 12, 13, 14, 15, 16, 17, 18, 19, 20, 21, 22, 23, 24, 25, 26, 27, 28, 29, 30, 31] (by decide +kernel) (by decide +kernel)
set_option maxRecDepth 20000 in
theorem gX6_undo_X6_no : GoodIn wsX6_undo (wsV RX6 94 RX6 yX6_no wsX6_no) := goodIn_app (goodIn_of _ (by decide +kernel)) ggX6_undo_X6_no
theorem hd6_undo : yX6_undo.cls = RX6 ∧ yX6_undo.cls ≠ "java/lang/invoke/MethodHandle" ∧ yX6_undo.cls ≠ "java/lang/invoke/VarHandle" ∧ (parseMethodDescriptor yX6_undo.desc).map (fun d => d.parameters.length) = some 0 := by decide +kernel
abbrev rm6_undo : Room := { frames := 2, cells := 0, slots := 0, locals := 42 }
theorem in6_undo_6 : ∀ w ∈ wsX60, w ∈ wsX6_undo := fun w h => List.mem_cons_of_mem _ (List.mem_append_right _ h)
set_option maxHeartbeats 4000000 in
set_option maxRecDepth 100000 in
theorem c6_undo {l : Launch} {D : va_G} {cI cZ cB : ClassId} {q : Nat → Nat} {sz : Nat} {quiet : Int32} {mabove : Int64} {mbelow : Int64} {typed : Int32} {mat : Int32} {mstart : Int32} {mtoken : Int32} {mvalue : Int32} {many : Int32} {book : Nat → Int32} {images : Nat → Int32} {mkept : Nat → Int32} {aside : Nat → Int32} {refused : Nat → Int32} {text : Nat → Int32} {items : Nat → Int32} {drawn : Nat → Int32} {row : Nat → Int32} {best : Nat → Int32}  {r : Int32} {d_book : Nat → Int32} {d_refused : Nat → Int32} (hf : f6_undo quiet book refused = some (r, d_book, d_refused)) : Met l yX6_undo wsX6_undo rm6_undo (zPm D cI cZ cB [.ref (q 0)] sz (cMod cI cZ q quiet mabove mbelow typed mat mstart mtoken mvalue many book images mkept aside refused text items drawn row best)) (zQm D (some (.int r)) (cMod cI cZ q quiet mabove mbelow typed mat mstart mtoken mvalue many d_book images mkept aside d_refused text items drawn row best) (va_A (cMod cI cZ q quiet mabove mbelow typed mat mstart mtoken mvalue many book images mkept aside refused text items drawn row best) sz)) 0 0 (va_A (cMod cI cZ q quiet mabove mbelow typed mat mstart mtoken mvalue many book images mkept aside refused text items drawn row best) sz) := by
  unfold f6_undo at hf
  refine z_mutI RX6 (by decide +kernel) rfl rfl (Nat.le_of_ble_eq_true rfl) ?_
  intro p e s m args below meth c Q A ls hx hb hml hown hts hK hP hD hS hA hret hl
  have hl : lv_has ls 3 [(0, .ref (q 0))] := hl
  refine lv_aload_n hx hb (zD_g DX6_undo 0 rfl) rfl (lv_at hl 0 rfl) ?_
  refine va_get (D := D) (ci := 5) (v := .ref (q 1)) (C := RX6) (T := TX6) (N := 19) hx hb hts in6_undo_6 hown hK.1 hP 0 rfl rfl 0 (by decide) (hts _ (List.mem_of_getElem? (i := 1) rfl)) (fun _ h9 => h9) rfl (zD_g DX6_undo 1 rfl) ?_
  refine lv_iconst (v := (3 : Int32)) hx hb (zD_g DX6_undo 2 rfl) (by decide) ?_
  refine z_iald (k := 3) hx hb hK.1 hP 1 0 rfl rfl (by unfold vp_in; decide) rfl (zD_g DX6_undo 3 rfl) ?_
  refine lv_if_ne (tgt := 14) hx hb (zD_g DX6_undo 4 rfl) (by decide) (fun c1 => ?_) (fun c1 => ?_)
  · replace hf := z_f c1 hf
    refine lv_aload_n hx hb (zD_g DX6_undo 8 rfl) rfl (lv_at hl 0 rfl) ?_
    refine va_get (D := D) (ci := 5) (v := .ref (q 1)) (C := RX6) (T := TX6) (N := 19) hx hb hts in6_undo_6 hown hK.1 hP 0 rfl rfl 0 (by decide) (hts _ (List.mem_of_getElem? (i := 1) rfl)) (fun _ h9 => h9) rfl (zD_g DX6_undo 9 rfl) ?_
    refine lv_iconst (v := (3 : Int32)) hx hb (zD_g DX6_undo 10 rfl) (by decide) ?_
    refine lv_dup2_11 hx hb (zD_g DX6_undo 11 rfl) rfl rfl ?_
    refine z_iald (k := 3) hx hb hK.1 hP 1 0 rfl rfl (by unfold vp_in; decide) rfl (zD_g DX6_undo 12 rfl) ?_
    refine lv_iconst (v := (1 : Int32)) hx hb (zD_g DX6_undo 13 rfl) (by decide) ?_
    refine lv_isub hx hb (zD_g DX6_undo 14 rfl) ?_
    refine lv_topi (fun x2 ex2 => ?_)
    replace hf := zl_s hf x2 ex2
    refine z_iast (k := 3) (ws' := (cMod cI cZ q quiet mabove mbelow typed mat mstart mtoken mvalue many (upd book 3 x2) images mkept aside refused text items drawn row best)) hx hb hK.1 hP hD hS 1 0 rfl rfl (by unfold vp_in; decide) rfl rfl (zD_g DX6_undo 15 rfl) (fun H locs hP hD hS => ?_)
    refine lv_bipush (v := (94 : Int32)) hx hb (zD_g DX6_undo 16 rfl) (by decide) ?_
    refine lv_bipush (v := (17 : Int32)) hx hb (zD_g DX6_undo 17 rfl) (by decide) ?_
    refine lv_aload_n hx hb (zD_g DX6_undo 18 rfl) rfl (lv_at hl 0 rfl) ?_
    refine va_get (D := D) (ci := 5) (v := .ref (q 1)) (C := RX6) (T := TX6) (N := 19) hx hb hts in6_undo_6 hown hK.1 hP 0 rfl rfl 0 (by decide) (hts _ (List.mem_of_getElem? (i := 1) rfl)) (fun _ h9 => h9) rfl (zD_g DX6_undo 19 rfl) ?_
    refine lv_iconst (v := (3 : Int32)) hx hb (zD_g DX6_undo 20 rfl) (by decide) ?_
    refine z_iald (k := 3) hx hb hK.1 hP 1 0 rfl rfl (by unfold vp_in; decide) rfl (zD_g DX6_undo 21 rfl) ?_
    refine lv_imul hx hb (zD_g DX6_undo 22 rfl) ?_
    refine lv_iadd hx hb (zD_g DX6_undo 23 rfl) ?_
    refine lv_topi (fun x3 ex3 => ?_)
    replace hf := zl_s hf x3 ex3
    refine lv_istore_n (lv' := [(1, .int x3), (0, .ref (q 0))]) hx hb (zD_g DX6_undo 24 rfl) rfl hl (by decide) rfl (fun ls hl => ?_)
    refine lv_iconst (v := (0 : Int32)) hx hb (zD_g DX6_undo 25 rfl) (by decide) ?_
    refine lv_istore_n (lv' := [(2, .int (0 : Int32)), (1, .int x3), (0, .ref (q 0))]) hx hb (zD_g DX6_undo 26 rfl) rfl hl (by decide) rfl (fun ls hl => ?_)
    have hL6 : ∀ (k6 : (Nat → Int32) → Option (Int32 × (Nat → Int32) × (Nat → Int32))) (hk6 : ∀ (book_11 : Nat → Int32), k6 book_11 = some (r, d_book, d_refused) → ∀ (H : Heap) (locs : List Loc), va_P D vwCl (cMod cI cZ q quiet mabove mbelow typed mat mstart mtoken mvalue many book_11 images mkept aside refused text items drawn row best) H → va_D A (cMod cI cZ q quiet mabove mbelow typed mat mstart mtoken mvalue many book_11 images mkept aside refused text items drawn row best) → va_S A s.heap H locs → ∀ (ls : Array Slot), lv_has ls 3 [(0, .ref (q 0)), (1, .int x3)] → W p l e rm6_undo s m args below meth c H locs 0 0 Q (F0 m 68 ls [])) (n6 : Nat) (y4 : Int32) (book_5 : Nat → Int32), L6_undo_39 k6 x3 n6 y4 book_5 = some (r, d_book, d_refused) → ∀ (H : Heap) (locs : List Loc), va_P D vwCl (cMod cI cZ q quiet mabove mbelow typed mat mstart mtoken mvalue many book_5 images mkept aside refused text items drawn row best) H → va_D A (cMod cI cZ q quiet mabove mbelow typed mat mstart mtoken mvalue many book_5 images mkept aside refused text items drawn row best) → va_S A s.heap H locs → ∀ (ls : Array Slot), lv_has ls 3 [(0, .ref (q 0)), (1, .int x3), (2, .int y4)] → W p l e rm6_undo s m args below meth c H locs 0 0 Q (F0 m 39 ls []) := by
      intro k6 hk6 n6
      induction n6 with
      | zero =>
        intro y4 book_5 hf
        cases hf
      | succ n6 ih6 =>
        intro y4 book_5 hf H locs hP hD hS ls hl
        rw [L6_undo_39] at hf
        refine lv_iload_n hx hb (zD_g DX6_undo 27 rfl) rfl (lv_at hl 2 rfl) ?_
        refine lv_bipush (v := (8 : Int32)) hx hb (zD_g DX6_undo 28 rfl) (by decide) ?_
        refine lv_icmp_ge (tgt := 68) hx hb (zD_g DX6_undo 29 rfl) (by decide) (fun c7 => ?_) (fun c7 => ?_)
        · replace hf := z_t c7 hf
          exact hk6 _ hf _ _ hP hD hS ls (lv_sub hl [0, 1] rfl)
        · replace hf := z_f c7 hf
          refine lv_aload_n hx hb (zD_g DX6_undo 30 rfl) rfl (lv_at hl 0 rfl) ?_
          refine va_get (D := D) (ci := 5) (v := .ref (q 1)) (C := RX6) (T := TX6) (N := 19) hx hb hts in6_undo_6 hown hK.1 hP 0 rfl rfl 0 (by decide) (hts _ (List.mem_of_getElem? (i := 1) rfl)) (fun _ h9 => h9) rfl (zD_g DX6_undo 31 rfl) ?_
          refine lv_bipush (v := (36 : Int32)) hx hb (zD_g DX6_undo 32 rfl) (by decide) ?_
          refine lv_iload_n hx hb (zD_g DX6_undo 33 rfl) rfl (lv_at hl 2 rfl) ?_
          refine lv_iadd hx hb (zD_g DX6_undo 34 rfl) ?_
          refine lv_aload_n hx hb (zD_g DX6_undo 35 rfl) rfl (lv_at hl 0 rfl) ?_
          refine va_get (D := D) (ci := 5) (v := .ref (q 1)) (C := RX6) (T := TX6) (N := 19) hx hb hts in6_undo_6 hown hK.1 hP 0 rfl rfl 0 (by decide) (hts _ (List.mem_of_getElem? (i := 1) rfl)) (fun _ h9 => h9) rfl (zD_g DX6_undo 36 rfl) ?_
          refine lv_iload_n hx hb (zD_g DX6_undo 37 rfl) rfl (lv_at hl 1 rfl) ?_
          refine lv_iload_n hx hb (zD_g DX6_undo 38 rfl) rfl (lv_at hl 2 rfl) ?_
          refine lv_iadd hx hb (zD_g DX6_undo 39 rfl) ?_
          obtain ⟨h8, hf⟩ := zg_s hf
          refine z_iald (k := (x3 + y4).toNatClampNeg) hx hb hK.1 hP 1 0 rfl rfl h8 rfl (zD_g DX6_undo 40 rfl) ?_
          refine lv_topi (fun x9 ex9 => ?_)
          replace hf := zl_s hf x9 ex9
          obtain ⟨h10, hf⟩ := zg_s hf
          refine z_iast (k := ((36 : Int32) + y4).toNatClampNeg) (ws' := (cMod cI cZ q quiet mabove mbelow typed mat mstart mtoken mvalue many (upd book_5 (((36 : Int32) + y4).toNatClampNeg) x9) images mkept aside refused text items drawn row best)) hx hb hK.1 hP hD hS 1 0 rfl rfl h10 rfl rfl (zD_g DX6_undo 41 rfl) (fun H locs hP hD hS => ?_)
          refine lv_iinc (v := y4 + 1) (lv' := [(2, .int (y4 + 1)), (0, .ref (q 0)), (1, .int x3)]) (k := 2) hx hb (zD_g DX6_undo 42 rfl) hl rfl rfl (by decide) rfl (fun ls hl => ?_)
          refine lv_goto (tgt := 39) hx hb (zD_g DX6_undo 43 rfl) (by decide) ?_
          exact ih6 _ _ hf _ _ hP hD hS ls (lv_sub hl [1, 2, 0] rfl)
    refine hL6 _ (fun book_11 hf H locs hP hD hS ls hl => ?_) _ _ _ hf _ _ hP hD hS ls (lv_sub hl [2, 1, 0] rfl)
    refine lv_iconst (v := (0 : Int32)) hx hb (zD_g DX6_undo 44 rfl) (by decide) ?_
    refine lv_istore_n (lv' := [(2, .int (0 : Int32)), (0, .ref (q 0)), (1, .int x3)]) hx hb (zD_g DX6_undo 45 rfl) rfl hl (by decide) rfl (fun ls hl => ?_)
    have hL14 : ∀ (k14 : (Nat → Int32) → Option (Int32 × (Nat → Int32) × (Nat → Int32))) (hk14 : ∀ (book_19 : Nat → Int32), k14 book_19 = some (r, d_book, d_refused) → ∀ (H : Heap) (locs : List Loc), va_P D vwCl (cMod cI cZ q quiet mabove mbelow typed mat mstart mtoken mvalue many book_19 images mkept aside refused text items drawn row best) H → va_D A (cMod cI cZ q quiet mabove mbelow typed mat mstart mtoken mvalue many book_19 images mkept aside refused text items drawn row best) → va_S A s.heap H locs → ∀ (ls : Array Slot), lv_has ls 3 [(0, .ref (q 0)), (1, .int x3)] → W p l e rm6_undo s m args below meth c H locs 0 0 Q (F0 m 102 ls [])) (n14 : Nat) (y12 : Int32) (book_13 : Nat → Int32), L6_undo_70 k14 x3 n14 y12 book_13 = some (r, d_book, d_refused) → ∀ (H : Heap) (locs : List Loc), va_P D vwCl (cMod cI cZ q quiet mabove mbelow typed mat mstart mtoken mvalue many book_13 images mkept aside refused text items drawn row best) H → va_D A (cMod cI cZ q quiet mabove mbelow typed mat mstart mtoken mvalue many book_13 images mkept aside refused text items drawn row best) → va_S A s.heap H locs → ∀ (ls : Array Slot), lv_has ls 3 [(0, .ref (q 0)), (1, .int x3), (2, .int y12)] → W p l e rm6_undo s m args below meth c H locs 0 0 Q (F0 m 70 ls []) := by
      intro k14 hk14 n14
      induction n14 with
      | zero =>
        intro y12 book_13 hf
        cases hf
      | succ n14 ih14 =>
        intro y12 book_13 hf H locs hP hD hS ls hl
        rw [L6_undo_70] at hf
        refine lv_iload_n hx hb (zD_g DX6_undo 46 rfl) rfl (lv_at hl 2 rfl) ?_
        refine lv_bipush (v := (6 : Int32)) hx hb (zD_g DX6_undo 47 rfl) (by decide) ?_
        refine lv_icmp_ge (tgt := 102) hx hb (zD_g DX6_undo 48 rfl) (by decide) (fun c15 => ?_) (fun c15 => ?_)
        · replace hf := z_t c15 hf
          exact hk14 _ hf _ _ hP hD hS ls (lv_sub hl [0, 1] rfl)
        · replace hf := z_f c15 hf
          refine lv_aload_n hx hb (zD_g DX6_undo 49 rfl) rfl (lv_at hl 0 rfl) ?_
          refine va_get (D := D) (ci := 5) (v := .ref (q 1)) (C := RX6) (T := TX6) (N := 19) hx hb hts in6_undo_6 hown hK.1 hP 0 rfl rfl 0 (by decide) (hts _ (List.mem_of_getElem? (i := 1) rfl)) (fun _ h9 => h9) rfl (zD_g DX6_undo 50 rfl) ?_
          refine lv_bipush (v := (68 : Int32)) hx hb (zD_g DX6_undo 51 rfl) (by decide) ?_
          refine lv_iload_n hx hb (zD_g DX6_undo 52 rfl) rfl (lv_at hl 2 rfl) ?_
          refine lv_iadd hx hb (zD_g DX6_undo 53 rfl) ?_
          refine lv_aload_n hx hb (zD_g DX6_undo 54 rfl) rfl (lv_at hl 0 rfl) ?_
          refine va_get (D := D) (ci := 5) (v := .ref (q 1)) (C := RX6) (T := TX6) (N := 19) hx hb hts in6_undo_6 hown hK.1 hP 0 rfl rfl 0 (by decide) (hts _ (List.mem_of_getElem? (i := 1) rfl)) (fun _ h9 => h9) rfl (zD_g DX6_undo 55 rfl) ?_
          refine lv_iload_n hx hb (zD_g DX6_undo 56 rfl) rfl (lv_at hl 1 rfl) ?_
          refine lv_bipush (v := (8 : Int32)) hx hb (zD_g DX6_undo 57 rfl) (by decide) ?_
          refine lv_iadd hx hb (zD_g DX6_undo 58 rfl) ?_
          refine lv_iload_n hx hb (zD_g DX6_undo 59 rfl) rfl (lv_at hl 2 rfl) ?_
          refine lv_iadd hx hb (zD_g DX6_undo 60 rfl) ?_
          obtain ⟨h16, hf⟩ := zg_s hf
          refine z_iald (k := ((x3 + (8 : Int32)) + y12).toNatClampNeg) hx hb hK.1 hP 1 0 rfl rfl h16 rfl (zD_g DX6_undo 61 rfl) ?_
          refine lv_topi (fun x17 ex17 => ?_)
          replace hf := zl_s hf x17 ex17
          obtain ⟨h18, hf⟩ := zg_s hf
          refine z_iast (k := ((68 : Int32) + y12).toNatClampNeg) (ws' := (cMod cI cZ q quiet mabove mbelow typed mat mstart mtoken mvalue many (upd book_13 (((68 : Int32) + y12).toNatClampNeg) x17) images mkept aside refused text items drawn row best)) hx hb hK.1 hP hD hS 1 0 rfl rfl h18 rfl rfl (zD_g DX6_undo 62 rfl) (fun H locs hP hD hS => ?_)
          refine lv_iinc (v := y12 + 1) (lv' := [(2, .int (y12 + 1)), (0, .ref (q 0)), (1, .int x3)]) (k := 2) hx hb (zD_g DX6_undo 63 rfl) hl rfl rfl (by decide) rfl (fun ls hl => ?_)
          refine lv_goto (tgt := 70) hx hb (zD_g DX6_undo 64 rfl) (by decide) ?_
          exact ih14 _ _ hf _ _ hP hD hS ls (lv_sub hl [1, 2, 0] rfl)
    refine hL14 _ (fun book_19 hf H locs hP hD hS ls hl => ?_) _ _ _ hf _ _ hP hD hS ls (lv_sub hl [1, 2, 0] rfl)
    refine lv_aload_n hx hb (zD_g DX6_undo 65 rfl) rfl (lv_at hl 0 rfl) ?_
    refine va_get (D := D) (ci := 5) (v := .ref (q 1)) (C := RX6) (T := TX6) (N := 19) hx hb hts in6_undo_6 hown hK.1 hP 0 rfl rfl 0 (by decide) (hts _ (List.mem_of_getElem? (i := 1) rfl)) (fun _ h9 => h9) rfl (zD_g DX6_undo 66 rfl) ?_
    refine lv_iconst (v := (2 : Int32)) hx hb (zD_g DX6_undo 67 rfl) (by decide) ?_
    refine lv_aload_n hx hb (zD_g DX6_undo 68 rfl) rfl (lv_at hl 0 rfl) ?_
    refine va_get (D := D) (ci := 5) (v := .ref (q 1)) (C := RX6) (T := TX6) (N := 19) hx hb hts in6_undo_6 hown hK.1 hP 0 rfl rfl 0 (by decide) (hts _ (List.mem_of_getElem? (i := 1) rfl)) (fun _ h9 => h9) rfl (zD_g DX6_undo 69 rfl) ?_
    refine lv_iload_n hx hb (zD_g DX6_undo 70 rfl) rfl (lv_at hl 1 rfl) ?_
    refine lv_bipush (v := (14 : Int32)) hx hb (zD_g DX6_undo 71 rfl) (by decide) ?_
    refine lv_iadd hx hb (zD_g DX6_undo 72 rfl) ?_
    obtain ⟨h20, hf⟩ := zg_s hf
    refine z_iald (k := (x3 + (14 : Int32)).toNatClampNeg) hx hb hK.1 hP 1 0 rfl rfl h20 rfl (zD_g DX6_undo 73 rfl) ?_
    refine lv_topi (fun x21 ex21 => ?_)
    replace hf := zl_s hf x21 ex21
    refine z_iast (k := 2) (ws' := (cMod cI cZ q quiet mabove mbelow typed mat mstart mtoken mvalue many (upd book_19 2 x21) images mkept aside refused text items drawn row best)) hx hb hK.1 hP hD hS 1 0 rfl rfl (by unfold vp_in; decide) rfl rfl (zD_g DX6_undo 74 rfl) (fun H locs hP hD hS => ?_)
    refine lv_aload_n hx hb (zD_g DX6_undo 75 rfl) rfl (lv_at hl 0 rfl) ?_
    refine va_get (D := D) (ci := 5) (v := .ref (q 1)) (C := RX6) (T := TX6) (N := 19) hx hb hts in6_undo_6 hown hK.1 hP 0 rfl rfl 0 (by decide) (hts _ (List.mem_of_getElem? (i := 1) rfl)) (fun _ h9 => h9) rfl (zD_g DX6_undo 76 rfl) ?_
    refine lv_bipush (v := (92 : Int32)) hx hb (zD_g DX6_undo 77 rfl) (by decide) ?_
    refine lv_aload_n hx hb (zD_g DX6_undo 78 rfl) rfl (lv_at hl 0 rfl) ?_
    refine va_get (D := D) (ci := 5) (v := .ref (q 1)) (C := RX6) (T := TX6) (N := 19) hx hb hts in6_undo_6 hown hK.1 hP 0 rfl rfl 0 (by decide) (hts _ (List.mem_of_getElem? (i := 1) rfl)) (fun _ h9 => h9) rfl (zD_g DX6_undo 79 rfl) ?_
    refine lv_iload_n hx hb (zD_g DX6_undo 80 rfl) rfl (lv_at hl 1 rfl) ?_
    refine lv_bipush (v := (15 : Int32)) hx hb (zD_g DX6_undo 81 rfl) (by decide) ?_
    refine lv_iadd hx hb (zD_g DX6_undo 82 rfl) ?_
    obtain ⟨h22, hf⟩ := zg_s hf
    refine z_iald (k := (x3 + (15 : Int32)).toNatClampNeg) hx hb hK.1 hP 1 0 rfl rfl h22 rfl (zD_g DX6_undo 83 rfl) ?_
    refine lv_topi (fun x23 ex23 => ?_)
    replace hf := zl_s hf x23 ex23
    refine z_iast (k := 92) (ws' := (cMod cI cZ q quiet mabove mbelow typed mat mstart mtoken mvalue many (upd (upd book_19 2 x21) 92 x23) images mkept aside refused text items drawn row best)) hx hb hK.1 hP hD hS 1 0 rfl rfl (by unfold vp_in; decide) rfl rfl (zD_g DX6_undo 84 rfl) (fun H locs hP hD hS => ?_)
    refine lv_aload_n hx hb (zD_g DX6_undo 85 rfl) rfl (lv_at hl 0 rfl) ?_
    refine va_get (D := D) (ci := 5) (v := .ref (q 1)) (C := RX6) (T := TX6) (N := 19) hx hb hts in6_undo_6 hown hK.1 hP 0 rfl rfl 0 (by decide) (hts _ (List.mem_of_getElem? (i := 1) rfl)) (fun _ h9 => h9) rfl (zD_g DX6_undo 86 rfl) ?_
    refine lv_bipush (v := (93 : Int32)) hx hb (zD_g DX6_undo 87 rfl) (by decide) ?_
    refine lv_aload_n hx hb (zD_g DX6_undo 88 rfl) rfl (lv_at hl 0 rfl) ?_
    refine va_get (D := D) (ci := 5) (v := .ref (q 1)) (C := RX6) (T := TX6) (N := 19) hx hb hts in6_undo_6 hown hK.1 hP 0 rfl rfl 0 (by decide) (hts _ (List.mem_of_getElem? (i := 1) rfl)) (fun _ h9 => h9) rfl (zD_g DX6_undo 89 rfl) ?_
    refine lv_iload_n hx hb (zD_g DX6_undo 90 rfl) rfl (lv_at hl 1 rfl) ?_
    refine lv_bipush (v := (16 : Int32)) hx hb (zD_g DX6_undo 91 rfl) (by decide) ?_
    refine lv_iadd hx hb (zD_g DX6_undo 92 rfl) ?_
    obtain ⟨h24, hf⟩ := zg_s hf
    refine z_iald (k := (x3 + (16 : Int32)).toNatClampNeg) hx hb hK.1 hP 1 0 rfl rfl h24 rfl (zD_g DX6_undo 93 rfl) ?_
    refine lv_topi (fun x25 ex25 => ?_)
    replace hf := zl_s hf x25 ex25
    refine z_iast (k := 93) (ws' := (cMod cI cZ q quiet mabove mbelow typed mat mstart mtoken mvalue many (upd (upd (upd book_19 2 x21) 92 x23) 93 x25) images mkept aside refused text items drawn row best)) hx hb hK.1 hP hD hS 1 0 rfl rfl (by unfold vp_in; decide) rfl rfl (zD_g DX6_undo 94 rfl) (fun H locs hP hD hS => ?_)
    refine lv_iconst (v := (1 : Int32)) hx hb (zD_g DX6_undo 95 rfl) (by decide) ?_
    cases hf
    exact hret _ _ _ _ hP hD hS (zD_g DX6_undo 96 rfl)
  · replace hf := z_t c1 hf
    refine lv_aload_n hx hb (zD_g DX6_undo 5 rfl) rfl (lv_at hl 0 rfl) ?_
    obtain ⟨r26, refused_27, hc28, hf⟩ := zb2_s hf
    refine z_Vm (As := []) (rest := []) (ws' := (cMod cI cZ q quiet mabove mbelow typed mat mstart mtoken mvalue many book images mkept aside refused_27 text items drawn row best)) ⟨hx, hb, hml, hown, hts⟩ hK (c6_no (quiet := quiet) (mabove := mabove) (mbelow := mbelow) (typed := typed) (mat := mat) (mstart := mstart) (mtoken := mtoken) (mvalue := mvalue) (many := many) (book := book) (images := images) (mkept := mkept) (aside := aside) (refused := refused) (text := text) (items := items) (drawn := drawn) (row := row) (best := best) (q := q) hc28) (cwV 0 hts gX6_undo_X6_no rfl rfl rfl hd6_no ⟨Nat.le_of_ble_eq_true rfl, Nat.le_of_ble_eq_true rfl⟩) hP hD hS hA 11 [0, 1, 2, 3, 4, 5, 6, 7, 8, 9, 10] [] [0, 1, 2, 3, 4, 5, 6, 7, 8, 9, 10] (by decide +kernel) rfl rfl rfl rfl rfl rfl rfl hl.1 rfl rfl (Nat.le_of_ble_eq_true rfl) (zD_g DX6_undo 6 rfl) ⟨Nat.zero_le _, Nat.zero_le _⟩ (fun H locs hP hD hS => ?_)
    cases hf
    exact hret _ _ _ _ hP hD hS (zD_g DX6_undo 7 rfl)
