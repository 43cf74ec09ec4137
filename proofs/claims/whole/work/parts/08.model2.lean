abbrev dlX6_belief : List (Nat × Instr × Nat) := [(0, .aload_n 0, 1), (1, .iload_n 1, 1), (2, .invokevirtual 84, 3), (5, .ifCond .eq 15, 3), (8, .iload_n 2, 1), (9, .i2l, 1), (10, .lconst 0, 1), (11, .ldc2_w 222, 3), (14, .invokestatic 56, 3), (17, .ifCond .ne 8, 3), (20, .aload_n 0, 1), (21, .invokevirtual 66, 3), (24, .ireturn, 1), (25, .aload_n 0, 1), (26, .iconst (-1), 1), (27, .invokevirtual 87, 3), (30, .aload_n 0, 1), (31, .iload_n 1, 1), (32, .invokevirtual 87, 3), (35, .ior, 1), (36, .istore 4, 2), (38, .lconst 0, 1), (39, .lstore 5, 2), (41, .lconst 0, 1), (42, .lstore 7, 2), (44, .iconst 0, 1), (45, .istore 9, 2), (47, .iload 9, 2), (49, .iconst 1, 1), (50, .aload_n 0, 1), (51, .getfield 7, 3), (54, .iconst 0, 1), (55, .iaload, 1), (56, .ishl, 1), (57, .if_icmp .ge 116, 3), (60, .iload 9, 2), (62, .iload 4, 2), (64, .iconst (-1), 1), (65, .ixor, 1), (66, .iand, 1), (67, .ifCond .ne 100, 3), (70, .aload_n 0, 1), (71, .iload_n 1, 1), (72, .iload 9, 2), (74, .invokevirtual 194, 3), (77, .iload_n 3, 1), (78, .if_icmp .ne 89, 3), (81, .lconst 1, 1), (82, .lstore 10, 2), (84, .iconst 0, 1), (85, .istore 12, 2), (87, .iload 12, 2), (89, .aload_n 0, 1), (90, .getfield 7, 3), (93, .iconst 0, 1), (94, .iaload, 1), (95, .if_icmp .ge 49, 3), (98, .lload 10, 2), (100, .iload 4, 2), (102, .iload 12, 2), (104, .ishr, 1), (105, .iconst 1, 1), (106, .iand, 1), (107, .ifCond .ne 7, 3), (110, .lconst 1, 1), (111, .goto 24, 3), (114, .iload 9, 2), (116, .iload 12, 2), (118, .ishr, 1), (119, .iconst 1, 1), (120, .iand, 1), (121, .iconst 1, 1), (122, .if_icmp .ne 8, 3), (125, .iload_n 2, 1), (126, .i2l, 1), (127, .goto 8, 3), (130, .bipush 10, 2), (132, .iload_n 2, 1), (133, .isub, 1), (134, .i2l, 1), (135, .lmul, 1), (136, .lstore 10, 2), (138, .iinc 12 1, 3), (141, .goto (-54), 3), (144, .lload 5, 2), (146, .lload 10, 2), (148, .ladd, 1), (149, .lstore 5, 2), (151, .lload 7, 2), (153, .iload 9, 2), (155, .ifCond .ne 8, 3), (158, .lload 10, 2), (160, .goto 4, 3), (163, .lconst 0, 1), (164, .ladd, 1), (165, .lstore 7, 2), (167, .iinc 9 1, 3), (170, .goto (-123), 3), (173, .lload 5, 2), (175, .lconst 0, 1), (176, .lcmp, 1), (177, .ifCond .ne 8, 3), (180, .aload_n 0, 1), (181, .invokevirtual 94, 3), (184, .ireturn, 1), (185, .lload 7, 2), (187, .lload 5, 2), (189, .invokestatic 224, 3), (192, .lstore 9, 2), (194, .aload_n 0, 1), (195, .lload 7, 2), (197, .lload 9, 2), (199, .ldiv, 1), (200, .putfield 228, 3), (203, .aload_n 0, 1), (204, .lload 5, 2), (206, .lload 9, 2), (208, .ldiv, 1), (209, .putfield 41, 3), (212, .iconst 1, 1), (213, .ireturn, 1)]
theorem DX6_belief : zD cX6_belief dlX6_belief = true := by decide +kernel
set_option maxRecDepth 20000 in
theorem ggX6_belief_X6_isGift : GoodIn wsX6_belief wsX6_isGift := goodIn_r _ [9, 2, 10, 11, 8, 12, 50, 51, 52, 53, 54, 55, 56, 57, 58, 59, 60, 61, 62, 63, 64, 65, 66, 67, 68] (by decide +kernel) (by decide +kernel)
set_option maxRecDepth 20000 in
theorem gX6_belief_X6_isGift : GoodIn wsX6_belief (wsV RX6 84 RX6 yX6_isGift wsX6_isGift) := goodIn_app (goodIn_of _ (by decide +kernel)) ggX6_belief_X6_isGift
set_option maxRecDepth 20000 in
theorem ggX6_belief_X6_in : GoodIn wsX6_belief wsX6_in := goodIn_r _ [12] (by decide +kernel) (by decide +kernel)
set_option maxRecDepth 20000 in
theorem gX6_belief_X6_in : GoodIn wsX6_belief (va_wsS RX6 56 yX6_in wsX6_in) := goodIn_app (goodIn_of _ (by decide +kernel)) ggX6_belief_X6_in
set_option maxRecDepth 20000 in
theorem ggX6_belief_X6_bad : GoodIn wsX6_belief wsX6_bad := goodIn_r _ [16, 17, 18, 19, 8, 20, 21, 22, 50, 51, 52, 53, 54, 55, 56, 57, 58, 59, 60, 61, 62, 63, 64, 65, 66, 67, 68] (by decide +kernel) (by decide +kernel)
set_option maxRecDepth 20000 in
theorem gX6_belief_X6_bad : GoodIn wsX6_belief (wsV RX6 66 RX6 yX6_bad wsX6_bad) := goodIn_app (goodIn_of _ (by decide +kernel)) ggX6_belief_X6_bad
set_option maxRecDepth 20000 in
theorem ggX6_belief_X6_thingsIn : GoodIn wsX6_belief wsX6_thingsIn := goodIn_r _ [26, 2, 50, 51, 52, 53, 54, 55, 56, 57, 58, 59, 60, 61, 62, 63, 64, 65, 66, 67, 68] (by decide +kernel) (by decide +kernel)
set_option maxRecDepth 20000 in
theorem gX6_belief_X6_thingsIn : GoodIn wsX6_belief (wsV RX6 87 RX6 yX6_thingsIn wsX6_thingsIn) := goodIn_app (goodIn_of _ (by decide +kernel)) ggX6_belief_X6_thingsIn
set_option maxRecDepth 20000 in
theorem ggX6_belief_X6_isHeard : GoodIn wsX6_belief wsX6_isHeard := goodIn_r _ [30, 2, 31, 32, 33, 8, 34, 35, 36, 37, 38, 39, 40, 41, 42, 50, 51, 52, 53, 54, 55, 56, 57, 58, 59, 60, 61, 62, 63, 64, 65, 66, 67, 68] (by decide +kernel) (by decide +kernel)
set_option maxRecDepth 20000 in
theorem gX6_belief_X6_isHeard : GoodIn wsX6_belief (wsV RX6 194 RX6 yX6_isHeard wsX6_isHeard) := goodIn_app (goodIn_of _ (by decide +kernel)) ggX6_belief_X6_isHeard
set_option maxRecDepth 20000 in
theorem ggX6_belief_X6_no : GoodIn wsX6_belief wsX6_no := goodIn_r _ [46, 17, 18, 19, 8, 20, 21, 22, 50, 51, 52, 53, 54, 55, 56, 57, 58, 59, 60, 61, 62, 63, 64, 65, 66, 67, 68] (by decide +kernel) (by decide +kernel)
set_option maxRecDepth 20000 in
theorem gX6_belief_X6_no : GoodIn wsX6_belief (wsV RX6 94 RX6 yX6_no wsX6_no) := goodIn_app (goodIn_of _ (by decide +kernel)) ggX6_belief_X6_no
set_option maxRecDepth 20000 in
theorem ggX6_belief_X6_divisor : GoodIn wsX6_belief wsX6_divisor := goodIn_r _ [49] (by decide +kernel) (by decide +kernel)
set_option maxRecDepth 20000 in
theorem gX6_belief_X6_divisor : GoodIn wsX6_belief (va_wsS RX6 224 yX6_divisor wsX6_divisor) := goodIn_app (goodIn_of _ (by decide +kernel)) ggX6_belief_X6_divisor
def L6_belief_87 (k26 : Int64 → Option (Int32 × Int64 × Int64 × (Nat → Int32)))  (book : Nat → Int32) (a_c : Int32) (x14 : Int32) (y17 : Int32) : Nat → Int64 → Int32 → Option (Int32 × Int64 × Int64 × (Nat → Int32))
  | 0, _, _ => none
  | n26 + 1, y24, y25 => if (book 0) ≤ y25 then k26 y24 else if ((x14 >>> (y25 &&& 31)) &&& (1 : Int32)) = 0 then zl ((y24 * (1 : Int64))) (fun x32 => L6_belief_87 k26 book a_c x14 y17 n26 x32 (y25 + 1)) else if ((y17 >>> (y25 &&& 31)) &&& (1 : Int32)) = (1 : Int32) then zl ((y24 * ((a_c).toInt64))) (fun x31 => L6_belief_87 k26 book a_c x14 y17 n26 x31 (y25 + 1)) else zl ((y24 * ((((10 : Int32) - a_c)).toInt64))) (fun x30 => L6_belief_87 k26 book a_c x14 y17 n26 x30 (y25 + 1))
def L6_belief_47 (k18 : Int64 → Int64 → Option (Int32 × Int64 × Int64 × (Nat → Int32)))  (book : Nat → Int32) (a_g : Int32) (a_c : Int32) (a_heard : Int32) (x14 : Int32) : Nat → Int64 → Int64 → Int32 → Option (Int32 × Int64 × Int64 × (Nat → Int32))
  | 0, _, _, _ => none
  | n18 + 1, y15, y16, y17 => if ((1 : Int32) <<< ((book 0) &&& 31)) ≤ y17 then k18 y15 y16 else if (y17 &&& (x14 ^^^ (-1 : Int32))) = 0 then zb1 (f6_isHeard book a_g y17) (fun r21 => if r21 = a_heard then L6_belief_87 (fun y33 => zl ((y15 + y33)) (fun x34 => if y17 = 0 then zl ((y16 + y33)) (fun x37 => L6_belief_47 k18 book a_g a_c a_heard x14 n18 x34 x37 (y17 + 1)) else zl ((y16 + (0 : Int64))) (fun x36 => L6_belief_47 k18 book a_g a_c a_heard x14 n18 x34 x36 (y17 + 1)))) book a_c x14 y17 FU (1 : Int64) (0 : Int32) else L6_belief_47 k18 book a_g a_c a_heard x14 n18 y15 y16 (y17 + 1)) else L6_belief_47 k18 book a_g a_c a_heard x14 n18 y15 y16 (y17 + 1)
def f6_belief (quiet : Int32) (mabove : Int64) (mbelow : Int64) (book : Nat → Int32) (refused : Nat → Int32) (a_g : Int32) (a_c : Int32) (a_heard : Int32) : Option (Int32 × Int64 × Int64 × (Nat → Int32)) := zb1 (f6_isGift book a_g) (fun r1 => if r1 = 0 then zb2 (f6_bad quiet refused) (fun r4 refused_5 => some (r4, mabove, mbelow, refused_5)) else zb1 (f6_in ((a_c).toInt64) (0 : Int64) (10 : Int64)) (fun r7 => if r7 = 0 then zb2 (f6_bad quiet refused) (fun r50 refused_51 => some (r50, mabove, mbelow, refused_51)) else zb1 (f6_thingsIn book (-1 : Int32)) (fun r10 => zb1 (f6_thingsIn book a_g) (fun r12 => zl ((r10 ||| r12)) (fun x14 => L6_belief_47 (fun y38 y39 => if (lg_cmp y38 (0 : Int64)) = 0 then zb2 (f6_no quiet refused) (fun r47 refused_48 => some (r47, mabove, mbelow, refused_48)) else zb1 (f6_divisor y39 y38) (fun r41 => zdl r41 (zl ((y39 / r41)) (fun x44 => zdl r41 (zl ((y38 / r41)) (fun x46 => some ((1 : Int32), x44, x46, refused))))))) book a_g a_c a_heard x14 FU (0 : Int64) (0 : Int64) (0 : Int32))))))
abbrev rm6_belief : Room := { frames := 3, cells := 0, slots := 0, locals := 71 }
theorem in6_belief_6 : ∀ w ∈ wsX60, w ∈ wsX6_belief := fun w h => List.mem_cons_of_mem _ (List.mem_append_right _ h)
set_option maxHeartbeats 4000000 in
set_option maxRecDepth 100000 in
theorem c6_belief {l : Launch} {D : va_G} {cI cZ cB : ClassId} {q : Nat → Nat} {sz : Nat} {quiet : Int32} {mabove : Int64} {mbelow : Int64} {typed : Int32} {mat : Int32} {mstart : Int32} {mtoken : Int32} {mvalue : Int32} {many : Int32} {book : Nat → Int32} {images : Nat → Int32} {mkept : Nat → Int32} {aside : Nat → Int32} {refused : Nat → Int32} {text : Nat → Int32} {items : Nat → Int32} {drawn : Nat → Int32} {row : Nat → Int32} {best : Nat → Int32} {a_g : Int32} {a_c : Int32} {a_heard : Int32} {r : Int32} {d_mabove : Int64} {d_mbelow : Int64} {d_refused : Nat → Int32} (hf : f6_belief quiet mabove mbelow book refused a_g a_c a_heard = some (r, d_mabove, d_mbelow, d_refused)) : Met l yX6_belief wsX6_belief rm6_belief (zPm D cI cZ cB [.ref (q 0), .int a_g, .int a_c, .int a_heard] sz (cMod cI cZ q quiet mabove mbelow typed mat mstart mtoken mvalue many book images mkept aside refused text items drawn row best)) (zQm D (some (.int r)) (cMod cI cZ q quiet d_mabove d_mbelow typed mat mstart mtoken mvalue many book images mkept aside d_refused text items drawn row best) (va_A (cMod cI cZ q quiet mabove mbelow typed mat mstart mtoken mvalue many book images mkept aside refused text items drawn row best) sz)) 0 0 (va_A (cMod cI cZ q quiet mabove mbelow typed mat mstart mtoken mvalue many book images mkept aside refused text items drawn row best) sz) := by
  unfold f6_belief at hf
  refine z_mutI RX6 (by decide +kernel) rfl rfl (Nat.le_of_ble_eq_true rfl) ?_
  intro p e s m args below meth c Q A ls hx hb hml hown hts hK hP hD hS hA hret hl
  have hl : lv_has ls 13 [(0, .ref (q 0)), (1, .int a_g), (2, .int a_c), (3, .int a_heard)] := hl
  refine lv_aload_n hx hb (zD_g DX6_belief 0 rfl) rfl (lv_at hl 0 rfl) ?_
  refine lv_iload_n hx hb (zD_g DX6_belief 1 rfl) rfl (lv_at hl 1 rfl) ?_
  obtain ⟨r1, hc2, hf⟩ := zb1_s hf
  refine z_Vp (As := [.int a_g]) (rest := []) ⟨hx, hb, hml, hown, hts⟩ hK (c6_isGift (quiet := quiet) (mabove := mabove) (mbelow := mbelow) (typed := typed) (mat := mat) (mstart := mstart) (mtoken := mtoken) (mvalue := mvalue) (many := many) (book := book) (images := images) (mkept := mkept) (aside := aside) (refused := refused) (text := text) (items := items) (drawn := drawn) (row := row) (best := best) (q := q) hc2) (cwV 1 hts gX6_belief_X6_isGift rfl rfl rfl hd6_isGift ⟨Nat.le_of_ble_eq_true rfl, Nat.le_of_ble_eq_true rfl⟩) hP rfl rfl rfl rfl hl.1 rfl rfl (Nat.le_of_ble_eq_true rfl) (zD_g DX6_belief 2 rfl) ⟨Nat.zero_le _, Nat.zero_le _⟩ ?_
  refine lv_if_eq (tgt := 20) hx hb (zD_g DX6_belief 3 rfl) (by decide) (fun c3 => ?_) (fun c3 => ?_)
  · replace hf := z_t c3 hf
    refine lv_aload_n hx hb (zD_g DX6_belief 10 rfl) rfl (lv_at hl 0 rfl) ?_
    obtain ⟨r4, refused_5, hc6, hf⟩ := zb2_s hf
    refine z_Vm (As := []) (rest := []) (ws' := (cMod cI cZ q quiet mabove mbelow typed mat mstart mtoken mvalue many book images mkept aside refused_5 text items drawn row best)) ⟨hx, hb, hml, hown, hts⟩ hK (c6_bad (quiet := quiet) (mabove := mabove) (mbelow := mbelow) (typed := typed) (mat := mat) (mstart := mstart) (mtoken := mtoken) (mvalue := mvalue) (many := many) (book := book) (images := images) (mkept := mkept) (aside := aside) (refused := refused) (text := text) (items := items) (drawn := drawn) (row := row) (best := best) (q := q) hc6) (cwV 0 hts gX6_belief_X6_bad rfl rfl rfl hd6_bad ⟨Nat.le_of_ble_eq_true rfl, Nat.le_of_ble_eq_true rfl⟩) hP hD hS hA 11 [0, 1, 2, 3, 4, 5, 6, 7, 8, 9, 10] [] [0, 1, 2, 3, 4, 5, 6, 7, 8, 9, 10] (by decide +kernel) rfl rfl rfl rfl rfl rfl rfl hl.1 rfl rfl (Nat.le_of_ble_eq_true rfl) (zD_g DX6_belief 11 rfl) ⟨Nat.zero_le _, Nat.zero_le _⟩ (fun H locs hP hD hS => ?_)
    cases hf
    exact hret _ _ _ _ hP hD hS (zD_g DX6_belief 12 rfl)
  · replace hf := z_f c3 hf
    refine lv_iload_n hx hb (zD_g DX6_belief 4 rfl) rfl (lv_at hl 2 rfl) ?_
    refine lv_i2l (v := (a_c).toInt64) hx hb (zD_g DX6_belief 5 rfl) rfl ?_
    refine lv_lconst (v := (0 : Int64)) hx hb (zD_g DX6_belief 6 rfl) (by decide) ?_
    refine lv_ldc2 (v := (10 : Int64)) hx hb hown (hts _ (List.mem_of_getElem? (i := 1) rfl)) (zD_g DX6_belief 7 rfl) ?_
    obtain ⟨r7, hc8, hf⟩ := zb1_s hf
    refine z_Sp (As := [.long ((a_c).toInt64), .long (0 : Int64), .long (10 : Int64)]) (rest := []) ⟨hx, hb, hml, hown, hts⟩ hK (c6_in  hc8) (va_cwS 3 hts gX6_belief_X6_in rfl rfl rfl hd6_in ⟨Nat.le_of_ble_eq_true rfl, Nat.le_of_ble_eq_true rfl⟩) (hP.sub [] rfl) rfl hl.1 rfl rfl (Nat.le_of_ble_eq_true rfl) (zD_g DX6_belief 8 rfl) ⟨Nat.zero_le _, Nat.zero_le _⟩ ?_
    refine lv_if_ne (tgt := 25) hx hb (zD_g DX6_belief 9 rfl) (by decide) (fun c9 => ?_) (fun c9 => ?_)
    · replace hf := z_f c9 hf
      refine lv_aload_n hx hb (zD_g DX6_belief 13 rfl) rfl (lv_at hl 0 rfl) ?_
      refine lv_iconst (v := (-1 : Int32)) hx hb (zD_g DX6_belief 14 rfl) (by decide) ?_
      obtain ⟨r10, hc11, hf⟩ := zb1_s hf
      refine z_Vp (As := [.int (-1 : Int32)]) (rest := []) ⟨hx, hb, hml, hown, hts⟩ hK (c6_thingsIn (quiet := quiet) (mabove := mabove) (mbelow := mbelow) (typed := typed) (mat := mat) (mstart := mstart) (mtoken := mtoken) (mvalue := mvalue) (many := many) (book := book) (images := images) (mkept := mkept) (aside := aside) (refused := refused) (text := text) (items := items) (drawn := drawn) (row := row) (best := best) (q := q) hc11) (cwV 1 hts gX6_belief_X6_thingsIn rfl rfl rfl hd6_thingsIn ⟨Nat.le_of_ble_eq_true rfl, Nat.le_of_ble_eq_true rfl⟩) hP rfl rfl rfl rfl hl.1 rfl rfl (Nat.le_of_ble_eq_true rfl) (zD_g DX6_belief 15 rfl) ⟨Nat.zero_le _, Nat.zero_le _⟩ ?_
      refine lv_aload_n hx hb (zD_g DX6_belief 16 rfl) rfl (lv_at hl 0 rfl) ?_
      refine lv_iload_n hx hb (zD_g DX6_belief 17 rfl) rfl (lv_at hl 1 rfl) ?_
      obtain ⟨r12, hc13, hf⟩ := zb1_s hf
      refine z_Vp (As := [.int a_g]) (rest := [.int r10]) ⟨hx, hb, hml, hown, hts⟩ hK (c6_thingsIn (quiet := quiet) (mabove := mabove) (mbelow := mbelow) (typed := typed) (mat := mat) (mstart := mstart) (mtoken := mtoken) (mvalue := mvalue) (many := many) (book := book) (images := images) (mkept := mkept) (aside := aside) (refused := refused) (text := text) (items := items) (drawn := drawn) (row := row) (best := best) (q := q) hc13) (cwV 1 hts gX6_belief_X6_thingsIn rfl rfl rfl hd6_thingsIn ⟨Nat.le_of_ble_eq_true rfl, Nat.le_of_ble_eq_true rfl⟩) hP rfl rfl rfl rfl hl.1 rfl rfl (Nat.le_of_ble_eq_true rfl) (zD_g DX6_belief 18 rfl) ⟨Nat.zero_le _, Nat.zero_le _⟩ ?_
      refine lv_ior hx hb (zD_g DX6_belief 19 rfl) ?_
      refine lv_topi (fun x14 ex14 => ?_)
      replace hf := zl_s hf x14 ex14
      refine lv_istore (lv' := [(4, .int x14), (0, .ref (q 0)), (1, .int a_g), (2, .int a_c), (3, .int a_heard)]) hx hb (zD_g DX6_belief 20 rfl) hl (by decide) rfl (fun ls hl => ?_)
      refine lv_lconst (v := (0 : Int64)) hx hb (zD_g DX6_belief 21 rfl) (by decide) ?_
      refine lv_lstore (lv' := [(5, .long (0 : Int64)), (4, .int x14), (0, .ref (q 0)), (1, .int a_g), (2, .int a_c), (3, .int a_heard)]) hx hb (zD_g DX6_belief 22 rfl) hl (by decide) rfl (fun ls hl => ?_)
      refine lv_lconst (v := (0 : Int64)) hx hb (zD_g DX6_belief 23 rfl) (by decide) ?_
      refine lv_lstore (lv' := [(7, .long (0 : Int64)), (5, .long (0 : Int64)), (4, .int x14), (0, .ref (q 0)), (1, .int a_g), (2, .int a_c), (3, .int a_heard)]) hx hb (zD_g DX6_belief 24 rfl) hl (by decide) rfl (fun ls hl => ?_)
      refine lv_iconst (v := (0 : Int32)) hx hb (zD_g DX6_belief 25 rfl) (by decide) ?_
      refine lv_istore (lv' := [(9, .int (0 : Int32)), (7, .long (0 : Int64)), (5, .long (0 : Int64)), (4, .int x14), (0, .ref (q 0)), (1, .int a_g), (2, .int a_c), (3, .int a_heard)]) hx hb (zD_g DX6_belief 26 rfl) hl (by decide) rfl (fun ls hl => ?_)
      have hL18 : ∀ (k18 : Int64 → Int64 → Option (Int32 × Int64 × Int64 × (Nat → Int32))) (hk18 : ∀ (y38 : Int64) (y39 : Int64), k18 y38 y39 = some (r, d_mabove, d_mbelow, d_refused) → ∀ (H : Heap) (locs : List Loc), va_P D vwCl (cMod cI cZ q quiet mabove mbelow typed mat mstart mtoken mvalue many book images mkept aside refused text items drawn row best) H → va_D A (cMod cI cZ q quiet mabove mbelow typed mat mstart mtoken mvalue many book images mkept aside refused text items drawn row best) → va_S A s.heap H locs → ∀ (ls : Array Slot), lv_has ls 13 [(0, .ref (q 0)), (5, .long y38), (7, .long y39)] → W p l e rm6_belief s m args below meth c H locs 0 0 Q (F0 m 173 ls [])) (n18 : Nat) (y15 : Int64) (y16 : Int64) (y17 : Int32), L6_belief_47 k18 book a_g a_c a_heard x14 n18 y15 y16 y17 = some (r, d_mabove, d_mbelow, d_refused) → ∀ (H : Heap) (locs : List Loc), va_P D vwCl (cMod cI cZ q quiet mabove mbelow typed mat mstart mtoken mvalue many book images mkept aside refused text items drawn row best) H → va_D A (cMod cI cZ q quiet mabove mbelow typed mat mstart mtoken mvalue many book images mkept aside refused text items drawn row best) → va_S A s.heap H locs → ∀ (ls : Array Slot), lv_has ls 13 [(0, .ref (q 0)), (1, .int a_g), (2, .int a_c), (3, .int a_heard), (4, .int x14), (5, .long y15), (7, .long y16), (9, .int y17)] → W p l e rm6_belief s m args below meth c H locs 0 0 Q (F0 m 47 ls []) := by
        intro k18 hk18 n18
        induction n18 with
        | zero =>
          intro y15 y16 y17 hf
          cases hf
        | succ n18 ih18 =>
          intro y15 y16 y17 hf H locs hP hD hS ls hl
          rw [L6_belief_47] at hf
          refine lv_iload hx hb (zD_g DX6_belief 27 rfl) (lv_at hl 7 rfl) ?_
          refine lv_iconst (v := (1 : Int32)) hx hb (zD_g DX6_belief 28 rfl) (by decide) ?_
          refine lv_aload_n hx hb (zD_g DX6_belief 29 rfl) rfl (lv_at hl 0 rfl) ?_
          refine va_get (D := D) (ci := 5) (v := .ref (q 1)) (C := RX6) (T := TX6) (N := 19) hx hb hts in6_belief_6 hown hK.1 hP 0 rfl rfl 0 (by decide) (hts _ (List.mem_of_getElem? (i := 2) rfl)) (fun _ h9 => h9) rfl (zD_g DX6_belief 30 rfl) ?_
          refine lv_iconst (v := (0 : Int32)) hx hb (zD_g DX6_belief 31 rfl) (by decide) ?_
          refine z_iald (k := 0) hx hb hK.1 hP 1 0 rfl rfl (by decide) rfl (zD_g DX6_belief 32 rfl) ?_
          refine lv_ishl hx hb (zD_g DX6_belief 33 rfl) ?_
          refine lv_icmp_ge (tgt := 173) hx hb (zD_g DX6_belief 34 rfl) (by decide) (fun c19 => ?_) (fun c19 => ?_)
          · replace hf := z_t c19 hf
            exact hk18 _ _ hf _ _ hP hD hS ls (lv_sub hl [0, 5, 6] rfl)
          · replace hf := z_f c19 hf
            refine lv_iload hx hb (zD_g DX6_belief 35 rfl) (lv_at hl 7 rfl) ?_
            refine lv_iload hx hb (zD_g DX6_belief 36 rfl) (lv_at hl 4 rfl) ?_
            refine lv_iconst (v := (-1 : Int32)) hx hb (zD_g DX6_belief 37 rfl) (by decide) ?_
            refine lv_ixor hx hb (zD_g DX6_belief 38 rfl) ?_
            refine lv_iand hx hb (zD_g DX6_belief 39 rfl) ?_
            refine lv_if_ne (tgt := 167) hx hb (zD_g DX6_belief 40 rfl) (by decide) (fun c20 => ?_) (fun c20 => ?_)
            · replace hf := z_f c20 hf
              refine lv_iinc (v := y17 + 1) (lv' := [(9, .int (y17 + 1)), (0, .ref (q 0)), (1, .int a_g), (2, .int a_c), (3, .int a_heard), (4, .int x14), (5, .long y15), (7, .long y16)]) (k := 7) hx hb (zD_g DX6_belief 96 rfl) hl rfl rfl (by decide) rfl (fun ls hl => ?_)
              refine lv_goto (tgt := 47) hx hb (zD_g DX6_belief 97 rfl) (by decide) ?_
              exact ih18 _ _ _ hf _ _ hP hD hS ls (lv_sub hl [1, 2, 3, 4, 5, 6, 7, 0] rfl)
            · replace hf := z_t c20 hf
              refine lv_aload_n hx hb (zD_g DX6_belief 41 rfl) rfl (lv_at hl 0 rfl) ?_
              refine lv_iload_n hx hb (zD_g DX6_belief 42 rfl) rfl (lv_at hl 1 rfl) ?_
              refine lv_iload hx hb (zD_g DX6_belief 43 rfl) (lv_at hl 7 rfl) ?_
              obtain ⟨r21, hc22, hf⟩ := zb1_s hf
              refine z_Vp (As := [.int a_g, .int y17]) (rest := []) ⟨hx, hb, hml, hown, hts⟩ hK (c6_isHeard (quiet := quiet) (mabove := mabove) (mbelow := mbelow) (typed := typed) (mat := mat) (mstart := mstart) (mtoken := mtoken) (mvalue := mvalue) (many := many) (book := book) (images := images) (mkept := mkept) (aside := aside) (refused := refused) (text := text) (items := items) (drawn := drawn) (row := row) (best := best) (q := q) hc22) (cwV 2 hts gX6_belief_X6_isHeard rfl rfl rfl hd6_isHeard ⟨Nat.le_of_ble_eq_true rfl, Nat.le_of_ble_eq_true rfl⟩) hP rfl rfl rfl rfl hl.1 rfl rfl (Nat.le_of_ble_eq_true rfl) (zD_g DX6_belief 44 rfl) ⟨Nat.zero_le _, Nat.zero_le _⟩ ?_
              refine lv_iload_n hx hb (zD_g DX6_belief 45 rfl) rfl (lv_at hl 3 rfl) ?_
              refine lv_icmp_ne (tgt := 167) hx hb (zD_g DX6_belief 46 rfl) (by decide) (fun c23 => ?_) (fun c23 => ?_)
              · replace hf := z_f c23 hf
                refine lv_iinc (v := y17 + 1) (lv' := [(9, .int (y17 + 1)), (0, .ref (q 0)), (1, .int a_g), (2, .int a_c), (3, .int a_heard), (4, .int x14), (5, .long y15), (7, .long y16)]) (k := 7) hx hb (zD_g DX6_belief 96 rfl) hl rfl rfl (by decide) rfl (fun ls hl => ?_)
                refine lv_goto (tgt := 47) hx hb (zD_g DX6_belief 97 rfl) (by decide) ?_
                exact ih18 _ _ _ hf _ _ hP hD hS ls (lv_sub hl [1, 2, 3, 4, 5, 6, 7, 0] rfl)
              · replace hf := z_t c23 hf
                refine lv_lconst (v := (1 : Int64)) hx hb (zD_g DX6_belief 47 rfl) (by decide) ?_
                refine lv_lstore (lv' := [(10, .long (1 : Int64)), (0, .ref (q 0)), (1, .int a_g), (2, .int a_c), (3, .int a_heard), (4, .int x14), (5, .long y15), (7, .long y16), (9, .int y17)]) hx hb (zD_g DX6_belief 48 rfl) hl (by decide) rfl (fun ls hl => ?_)
                refine lv_iconst (v := (0 : Int32)) hx hb (zD_g DX6_belief 49 rfl) (by decide) ?_
                refine lv_istore (lv' := [(12, .int (0 : Int32)), (10, .long (1 : Int64)), (0, .ref (q 0)), (1, .int a_g), (2, .int a_c), (3, .int a_heard), (4, .int x14), (5, .long y15), (7, .long y16), (9, .int y17)]) hx hb (zD_g DX6_belief 50 rfl) hl (by decide) rfl (fun ls hl => ?_)
                have hL26 : ∀ (k26 : Int64 → Option (Int32 × Int64 × Int64 × (Nat → Int32))) (hk26 : ∀ (y33 : Int64), k26 y33 = some (r, d_mabove, d_mbelow, d_refused) → ∀ (H : Heap) (locs : List Loc), va_P D vwCl (cMod cI cZ q quiet mabove mbelow typed mat mstart mtoken mvalue many book images mkept aside refused text items drawn row best) H → va_D A (cMod cI cZ q quiet mabove mbelow typed mat mstart mtoken mvalue many book images mkept aside refused text items drawn row best) → va_S A s.heap H locs → ∀ (ls : Array Slot), lv_has ls 13 [(0, .ref (q 0)), (1, .int a_g), (2, .int a_c), (3, .int a_heard), (4, .int x14), (5, .long y15), (7, .long y16), (9, .int y17), (10, .long y33)] → W p l e rm6_belief s m args below meth c H locs 0 0 Q (F0 m 144 ls [])) (n26 : Nat) (y24 : Int64) (y25 : Int32), L6_belief_87 k26 book a_c x14 y17 n26 y24 y25 = some (r, d_mabove, d_mbelow, d_refused) → ∀ (H : Heap) (locs : List Loc), va_P D vwCl (cMod cI cZ q quiet mabove mbelow typed mat mstart mtoken mvalue many book images mkept aside refused text items drawn row best) H → va_D A (cMod cI cZ q quiet mabove mbelow typed mat mstart mtoken mvalue many book images mkept aside refused text items drawn row best) → va_S A s.heap H locs → ∀ (ls : Array Slot), lv_has ls 13 [(0, .ref (q 0)), (1, .int a_g), (2, .int a_c), (3, .int a_heard), (4, .int x14), (5, .long y15), (7, .long y16), (9, .int y17), (10, .long y24), (12, .int y25)] → W p l e rm6_belief s m args below meth c H locs 0 0 Q (F0 m 87 ls []) := by
                  intro k26 hk26 n26
                  induction n26 with
                  | zero =>
                    intro y24 y25 hf
                    cases hf
                  | succ n26 ih26 =>
                    intro y24 y25 hf H locs hP hD hS ls hl
                    rw [L6_belief_87] at hf
                    refine lv_iload hx hb (zD_g DX6_belief 51 rfl) (lv_at hl 9 rfl) ?_
                    refine lv_aload_n hx hb (zD_g DX6_belief 52 rfl) rfl (lv_at hl 0 rfl) ?_
                    refine va_get (D := D) (ci := 5) (v := .ref (q 1)) (C := RX6) (T := TX6) (N := 19) hx hb hts in6_belief_6 hown hK.1 hP 0 rfl rfl 0 (by decide) (hts _ (List.mem_of_getElem? (i := 2) rfl)) (fun _ h9 => h9) rfl (zD_g DX6_belief 53 rfl) ?_
                    refine lv_iconst (v := (0 : Int32)) hx hb (zD_g DX6_belief 54 rfl) (by decide) ?_
                    refine z_iald (k := 0) hx hb hK.1 hP 1 0 rfl rfl (by decide) rfl (zD_g DX6_belief 55 rfl) ?_
                    refine lv_icmp_ge (tgt := 144) hx hb (zD_g DX6_belief 56 rfl) (by decide) (fun c27 => ?_) (fun c27 => ?_)
                    · replace hf := z_t c27 hf
                      exact hk26 _ hf _ _ hP hD hS ls (lv_sub hl [0, 1, 2, 3, 4, 5, 6, 7, 8] rfl)
                    · replace hf := z_f c27 hf
                      refine lv_lload hx hb (zD_g DX6_belief 57 rfl) (lv_at hl 8 rfl) ?_
                      refine lv_iload hx hb (zD_g DX6_belief 58 rfl) (lv_at hl 4 rfl) ?_
                      refine lv_iload hx hb (zD_g DX6_belief 59 rfl) (lv_at hl 9 rfl) ?_
                      refine lv_ishr hx hb (zD_g DX6_belief 60 rfl) ?_
                      refine lv_iconst (v := (1 : Int32)) hx hb (zD_g DX6_belief 61 rfl) (by decide) ?_
                      refine lv_iand hx hb (zD_g DX6_belief 62 rfl) ?_
                      refine lv_if_ne (tgt := 114) hx hb (zD_g DX6_belief 63 rfl) (by decide) (fun c28 => ?_) (fun c28 => ?_)
                      · replace hf := z_f c28 hf
                        refine lv_iload hx hb (zD_g DX6_belief 66 rfl) (lv_at hl 7 rfl) ?_
                        refine lv_iload hx hb (zD_g DX6_belief 67 rfl) (lv_at hl 9 rfl) ?_
                        refine lv_ishr hx hb (zD_g DX6_belief 68 rfl) ?_
                        refine lv_iconst (v := (1 : Int32)) hx hb (zD_g DX6_belief 69 rfl) (by decide) ?_
                        refine lv_iand hx hb (zD_g DX6_belief 70 rfl) ?_
                        refine lv_iconst (v := (1 : Int32)) hx hb (zD_g DX6_belief 71 rfl) (by decide) ?_
                        refine lv_icmp_ne (tgt := 130) hx hb (zD_g DX6_belief 72 rfl) (by decide) (fun c29 => ?_) (fun c29 => ?_)
                        · replace hf := z_f c29 hf
                          refine lv_bipush (v := (10 : Int32)) hx hb (zD_g DX6_belief 76 rfl) (by decide) ?_
                          refine lv_iload_n hx hb (zD_g DX6_belief 77 rfl) rfl (lv_at hl 2 rfl) ?_
                          refine lv_isub hx hb (zD_g DX6_belief 78 rfl) ?_
                          refine lv_i2l (v := (((10 : Int32) - a_c)).toInt64) hx hb (zD_g DX6_belief 79 rfl) rfl ?_
                          refine lv_lmul hx hb (zD_g DX6_belief 80 rfl) ?_
                          refine lv_topl (fun x30 ex30 => ?_)
                          replace hf := zl_s hf x30 ex30
                          refine lv_lstore (lv' := [(10, .long x30), (0, .ref (q 0)), (1, .int a_g), (2, .int a_c), (3, .int a_heard), (4, .int x14), (5, .long y15), (7, .long y16), (9, .int y17), (12, .int y25)]) hx hb (zD_g DX6_belief 81 rfl) hl (by decide) rfl (fun ls hl => ?_)
                          refine lv_iinc (v := y25 + 1) (lv' := [(12, .int (y25 + 1)), (10, .long x30), (0, .ref (q 0)), (1, .int a_g), (2, .int a_c), (3, .int a_heard), (4, .int x14), (5, .long y15), (7, .long y16), (9, .int y17)]) (k := 9) hx hb (zD_g DX6_belief 82 rfl) hl rfl rfl (by decide) rfl (fun ls hl => ?_)
                          refine lv_goto (tgt := 87) hx hb (zD_g DX6_belief 83 rfl) (by decide) ?_
                          exact ih26 _ _ hf _ _ hP hD hS ls (lv_sub hl [2, 3, 4, 5, 6, 7, 8, 9, 1, 0] rfl)
                        · replace hf := z_t c29 hf
                          refine lv_iload_n hx hb (zD_g DX6_belief 73 rfl) rfl (lv_at hl 2 rfl) ?_
                          refine lv_i2l (v := (a_c).toInt64) hx hb (zD_g DX6_belief 74 rfl) rfl ?_
                          refine lv_goto (tgt := 135) hx hb (zD_g DX6_belief 75 rfl) (by decide) ?_
                          refine lv_lmul hx hb (zD_g DX6_belief 80 rfl) ?_
                          refine lv_topl (fun x31 ex31 => ?_)
                          replace hf := zl_s hf x31 ex31
                          refine lv_lstore (lv' := [(10, .long x31), (0, .ref (q 0)), (1, .int a_g), (2, .int a_c), (3, .int a_heard), (4, .int x14), (5, .long y15), (7, .long y16), (9, .int y17), (12, .int y25)]) hx hb (zD_g DX6_belief 81 rfl) hl (by decide) rfl (fun ls hl => ?_)
                          refine lv_iinc (v := y25 + 1) (lv' := [(12, .int (y25 + 1)), (10, .long x31), (0, .ref (q 0)), (1, .int a_g), (2, .int a_c), (3, .int a_heard), (4, .int x14), (5, .long y15), (7, .long y16), (9, .int y17)]) (k := 9) hx hb (zD_g DX6_belief 82 rfl) hl rfl rfl (by decide) rfl (fun ls hl => ?_)
                          refine lv_goto (tgt := 87) hx hb (zD_g DX6_belief 83 rfl) (by decide) ?_
                          exact ih26 _ _ hf _ _ hP hD hS ls (lv_sub hl [2, 3, 4, 5, 6, 7, 8, 9, 1, 0] rfl)
                      · replace hf := z_t c28 hf
                        refine lv_lconst (v := (1 : Int64)) hx hb (zD_g DX6_belief 64 rfl) (by decide) ?_
                        refine lv_goto (tgt := 135) hx hb (zD_g DX6_belief 65 rfl) (by decide) ?_
                        refine lv_lmul hx hb (zD_g DX6_belief 80 rfl) ?_
                        refine lv_topl (fun x32 ex32 => ?_)
                        replace hf := zl_s hf x32 ex32
                        refine lv_lstore (lv' := [(10, .long x32), (0, .ref (q 0)), (1, .int a_g), (2, .int a_c), (3, .int a_heard), (4, .int x14), (5, .long y15), (7, .long y16), (9, .int y17), (12, .int y25)]) hx hb (zD_g DX6_belief 81 rfl) hl (by decide) rfl (fun ls hl => ?_)
                        refine lv_iinc (v := y25 + 1) (lv' := [(12, .int (y25 + 1)), (10, .long x32), (0, .ref (q 0)), (1, .int a_g), (2, .int a_c), (3, .int a_heard), (4, .int x14), (5, .long y15), (7, .long y16), (9, .int y17)]) (k := 9) hx hb (zD_g DX6_belief 82 rfl) hl rfl rfl (by decide) rfl (fun ls hl => ?_)
                        refine lv_goto (tgt := 87) hx hb (zD_g DX6_belief 83 rfl) (by decide) ?_
                        exact ih26 _ _ hf _ _ hP hD hS ls (lv_sub hl [2, 3, 4, 5, 6, 7, 8, 9, 1, 0] rfl)
                refine hL26 _ (fun y33 hf H locs hP hD hS ls hl => ?_) _ _ _ hf _ _ hP hD hS ls (lv_sub hl [2, 3, 4, 5, 6, 7, 8, 9, 1, 0] rfl)
                refine lv_lload hx hb (zD_g DX6_belief 84 rfl) (lv_at hl 5 rfl) ?_
                refine lv_lload hx hb (zD_g DX6_belief 85 rfl) (lv_at hl 8 rfl) ?_
                refine lv_ladd hx hb (zD_g DX6_belief 86 rfl) ?_
                refine lv_topl (fun x34 ex34 => ?_)
                replace hf := zl_s hf x34 ex34
                refine lv_lstore (lv' := [(5, .long x34), (0, .ref (q 0)), (1, .int a_g), (2, .int a_c), (3, .int a_heard), (4, .int x14), (7, .long y16), (9, .int y17), (10, .long y33)]) hx hb (zD_g DX6_belief 87 rfl) hl (by decide) rfl (fun ls hl => ?_)
                refine lv_lload hx hb (zD_g DX6_belief 88 rfl) (lv_at hl 6 rfl) ?_
                refine lv_iload hx hb (zD_g DX6_belief 89 rfl) (lv_at hl 7 rfl) ?_
                refine lv_if_ne (tgt := 163) hx hb (zD_g DX6_belief 90 rfl) (by decide) (fun c35 => ?_) (fun c35 => ?_)
                · replace hf := z_f c35 hf
                  refine lv_lconst (v := (0 : Int64)) hx hb (zD_g DX6_belief 93 rfl) (by decide) ?_
                  refine lv_ladd hx hb (zD_g DX6_belief 94 rfl) ?_
                  refine lv_topl (fun x36 ex36 => ?_)
                  replace hf := zl_s hf x36 ex36
                  refine lv_lstore (lv' := [(7, .long x36), (5, .long x34), (0, .ref (q 0)), (1, .int a_g), (2, .int a_c), (3, .int a_heard), (4, .int x14), (9, .int y17), (10, .long y33)]) hx hb (zD_g DX6_belief 95 rfl) hl (by decide) rfl (fun ls hl => ?_)
                  refine lv_iinc (v := y17 + 1) (lv' := [(9, .int (y17 + 1)), (7, .long x36), (5, .long x34), (0, .ref (q 0)), (1, .int a_g), (2, .int a_c), (3, .int a_heard), (4, .int x14), (10, .long y33)]) (k := 7) hx hb (zD_g DX6_belief 96 rfl) hl rfl rfl (by decide) rfl (fun ls hl => ?_)
                  refine lv_goto (tgt := 47) hx hb (zD_g DX6_belief 97 rfl) (by decide) ?_
                  exact ih18 _ _ _ hf _ _ hP hD hS ls (lv_sub hl [3, 4, 5, 6, 7, 2, 1, 0] rfl)
                · replace hf := z_t c35 hf
                  refine lv_lload hx hb (zD_g DX6_belief 91 rfl) (lv_at hl 8 rfl) ?_
                  refine lv_goto (tgt := 164) hx hb (zD_g DX6_belief 92 rfl) (by decide) ?_
                  refine lv_ladd hx hb (zD_g DX6_belief 94 rfl) ?_
                  refine lv_topl (fun x37 ex37 => ?_)
                  replace hf := zl_s hf x37 ex37
                  refine lv_lstore (lv' := [(7, .long x37), (5, .long x34), (0, .ref (q 0)), (1, .int a_g), (2, .int a_c), (3, .int a_heard), (4, .int x14), (9, .int y17), (10, .long y33)]) hx hb (zD_g DX6_belief 95 rfl) hl (by decide) rfl (fun ls hl => ?_)
                  refine lv_iinc (v := y17 + 1) (lv' := [(9, .int (y17 + 1)), (7, .long x37), (5, .long x34), (0, .ref (q 0)), (1, .int a_g), (2, .int a_c), (3, .int a_heard), (4, .int x14), (10, .long y33)]) (k := 7) hx hb (zD_g DX6_belief 96 rfl) hl rfl rfl (by decide) rfl (fun ls hl => ?_)
                  refine lv_goto (tgt := 47) hx hb (zD_g DX6_belief 97 rfl) (by decide) ?_
                  exact ih18 _ _ _ hf _ _ hP hD hS ls (lv_sub hl [3, 4, 5, 6, 7, 2, 1, 0] rfl)
      refine hL18 _ (fun y38 y39 hf H locs hP hD hS ls hl => ?_) _ _ _ _ hf _ _ hP hD hS ls (lv_sub hl [4, 5, 6, 7, 3, 2, 1, 0] rfl)
      refine lv_lload hx hb (zD_g DX6_belief 98 rfl) (lv_at hl 1 rfl) ?_
      refine lv_lconst (v := (0 : Int64)) hx hb (zD_g DX6_belief 99 rfl) (by decide) ?_
      refine W.lcmp hx hb (zD_g DX6_belief 100 rfl) ?_
      refine lv_if_ne (tgt := 185) hx hb (zD_g DX6_belief 101 rfl) (by decide) (fun c40 => ?_) (fun c40 => ?_)
      · replace hf := z_f c40 hf
        refine lv_lload hx hb (zD_g DX6_belief 105 rfl) (lv_at hl 2 rfl) ?_
        refine lv_lload hx hb (zD_g DX6_belief 106 rfl) (lv_at hl 1 rfl) ?_
        obtain ⟨r41, hc42, hf⟩ := zb1_s hf
        refine z_Sp (As := [.long y39, .long y38]) (rest := []) ⟨hx, hb, hml, hown, hts⟩ hK (c6_divisor  hc42) (va_cwS 2 hts gX6_belief_X6_divisor rfl rfl rfl hd6_divisor ⟨Nat.le_of_ble_eq_true rfl, Nat.le_of_ble_eq_true rfl⟩) (hP.sub [] rfl) rfl hl.1 rfl rfl (Nat.le_of_ble_eq_true rfl) (zD_g DX6_belief 107 rfl) ⟨Nat.zero_le _, Nat.zero_le _⟩ ?_
        refine lv_lstore (lv' := [(9, .long r41), (0, .ref (q 0)), (5, .long y38), (7, .long y39)]) hx hb (zD_g DX6_belief 108 rfl) hl (by decide) rfl (fun ls hl => ?_)
        refine lv_aload_n hx hb (zD_g DX6_belief 109 rfl) rfl (lv_at hl 1 rfl) ?_
        refine lv_lload hx hb (zD_g DX6_belief 110 rfl) (lv_at hl 3 rfl) ?_
        refine lv_lload hx hb (zD_g DX6_belief 111 rfl) (lv_at hl 0 rfl) ?_
        obtain ⟨h43, hf⟩ := zdl_s hf
        refine lv_ldiv hx hb (zD_g DX6_belief 112 rfl) h43 ?_
        refine lv_topl (fun x44 ex44 => ?_)
        replace hf := zl_s hf x44 ex44
        refine z_put (D := D) (ci := 5) (v := .long x44) (ty := .long) (C := RX6) (T := TX6) (N := 19) (ws' := (cMod cI cZ q quiet x44 mbelow typed mat mstart mtoken mvalue many book images mkept aside refused text items drawn row best)) hx hb hts in6_belief_6 tyX6 tyX6_ok nmX6 hown hK.1 hP hD hS 0 rfl rfl 6 (by decide) (hts _ (List.mem_of_getElem? (i := 3) rfl)) (fun _ h9 => h9) rfl (tyX6_ok 6 (by decide)) rfl rfl (Nat.le_of_ble_eq_true rfl) rfl (zD_g DX6_belief 113 rfl) (fun H locs hP hD hS => ?_)
        refine lv_aload_n hx hb (zD_g DX6_belief 114 rfl) rfl (lv_at hl 1 rfl) ?_
        refine lv_lload hx hb (zD_g DX6_belief 115 rfl) (lv_at hl 2 rfl) ?_
        refine lv_lload hx hb (zD_g DX6_belief 116 rfl) (lv_at hl 0 rfl) ?_
        obtain ⟨h45, hf⟩ := zdl_s hf
        refine lv_ldiv hx hb (zD_g DX6_belief 117 rfl) h45 ?_
        refine lv_topl (fun x46 ex46 => ?_)
        replace hf := zl_s hf x46 ex46
        refine z_put (D := D) (ci := 5) (v := .long x46) (ty := .long) (C := RX6) (T := TX6) (N := 19) (ws' := (cMod cI cZ q quiet x44 x46 typed mat mstart mtoken mvalue many book images mkept aside refused text items drawn row best)) hx hb hts in6_belief_6 tyX6 tyX6_ok nmX6 hown hK.1 hP hD hS 0 rfl rfl 7 (by decide) (hts _ (List.mem_of_getElem? (i := 4) rfl)) (fun _ h9 => h9) rfl (tyX6_ok 7 (by decide)) rfl rfl (Nat.le_of_ble_eq_true rfl) rfl (zD_g DX6_belief 118 rfl) (fun H locs hP hD hS => ?_)
        refine lv_iconst (v := (1 : Int32)) hx hb (zD_g DX6_belief 119 rfl) (by decide) ?_
        cases hf
        exact hret _ _ _ _ hP hD hS (zD_g DX6_belief 120 rfl)
      · replace hf := z_t c40 hf
        refine lv_aload_n hx hb (zD_g DX6_belief 102 rfl) rfl (lv_at hl 0 rfl) ?_
        obtain ⟨r47, refused_48, hc49, hf⟩ := zb2_s hf
        refine z_Vm (As := []) (rest := []) (ws' := (cMod cI cZ q quiet mabove mbelow typed mat mstart mtoken mvalue many book images mkept aside refused_48 text items drawn row best)) ⟨hx, hb, hml, hown, hts⟩ hK (c6_no (quiet := quiet) (mabove := mabove) (mbelow := mbelow) (typed := typed) (mat := mat) (mstart := mstart) (mtoken := mtoken) (mvalue := mvalue) (many := many) (book := book) (images := images) (mkept := mkept) (aside := aside) (refused := refused) (text := text) (items := items) (drawn := drawn) (row := row) (best := best) (q := q) hc49) (cwV 0 hts gX6_belief_X6_no rfl rfl rfl hd6_no ⟨Nat.le_of_ble_eq_true rfl, Nat.le_of_ble_eq_true rfl⟩) hP hD hS hA 11 [0, 1, 2, 3, 4, 5, 6, 7, 8, 9, 10] [] [0, 1, 2, 3, 4, 5, 6, 7, 8, 9, 10] (by decide +kernel) rfl rfl rfl rfl rfl rfl rfl hl.1 rfl rfl (Nat.le_of_ble_eq_true rfl) (zD_g DX6_belief 103 rfl) ⟨Nat.zero_le _, Nat.zero_le _⟩ (fun H locs hP hD hS => ?_)
        cases hf
        exact hret _ _ _ _ hP hD hS (zD_g DX6_belief 104 rfl)
    · replace hf := z_t c9 hf
      refine lv_aload_n hx hb (zD_g DX6_belief 10 rfl) rfl (lv_at hl 0 rfl) ?_
      obtain ⟨r50, refused_51, hc52, hf⟩ := zb2_s hf
      refine z_Vm (As := []) (rest := []) (ws' := (cMod cI cZ q quiet mabove mbelow typed mat mstart mtoken mvalue many book images mkept aside refused_51 text items drawn row best)) ⟨hx, hb, hml, hown, hts⟩ hK (c6_bad (quiet := quiet) (mabove := mabove) (mbelow := mbelow) (typed := typed) (mat := mat) (mstart := mstart) (mtoken := mtoken) (mvalue := mvalue) (many := many) (book := book) (images := images) (mkept := mkept) (aside := aside) (refused := refused) (text := text) (items := items) (drawn := drawn) (row := row) (best := best) (q := q) hc52) (cwV 0 hts gX6_belief_X6_bad rfl rfl rfl hd6_bad ⟨Nat.le_of_ble_eq_true rfl, Nat.le_of_ble_eq_true rfl⟩) hP hD hS hA 11 [0, 1, 2, 3, 4, 5, 6, 7, 8, 9, 10] [] [0, 1, 2, 3, 4, 5, 6, 7, 8, 9, 10] (by decide +kernel) rfl rfl rfl rfl rfl rfl rfl hl.1 rfl rfl (Nat.le_of_ble_eq_true rfl) (zD_g DX6_belief 11 rfl) ⟨Nat.zero_le _, Nat.zero_le _⟩ (fun H locs hP hD hS => ?_)
      cases hf
      exact hret _ _ _ _ hP hD hS (zD_g DX6_belief 12 rfl)
theorem hd6_belief : yX6_belief.cls = RX6 ∧ yX6_belief.cls ≠ "java/lang/invoke/MethodHandle" ∧ yX6_belief.cls ≠ "java/lang/invoke/VarHandle" ∧ (parseMethodDescriptor yX6_belief.desc).map (fun d => d.parameters.length) = some 3 := by decide +kernel
abbrev dlX6_areThings : List (Nat × Instr × Nat) := [(0, .iload_n 1, 1), (1, .i2l, 1), (2, .lconst 0, 1), (3, .iconst 1, 1), (4, .aload_n 0, 1), (5, .getfield 7, 3), (8, .iconst 0, 1), (9, .iaload, 1), (10, .ishl, 1), (11, .iconst 1, 1), (12, .isub, 1), (13, .i2l, 1), (14, .invokestatic 56, 3), (17, .ireturn, 1)]
theorem DX6_areThings : zD cX6_areThings dlX6_areThings = true := by decide +kernel
set_option maxRecDepth 20000 in
theorem ggX6_areThings_X6_in : GoodIn wsX6_areThings wsX6_in := goodIn_r _ [5] (by decide +kernel) (by decide +kernel)
set_option maxRecDepth 20000 in
theorem gX6_areThings_X6_in : GoodIn wsX6_areThings (va_wsS RX6 56 yX6_in wsX6_in) := goodIn_app (goodIn_of _ (by decide +kernel)) ggX6_areThings_X6_in
def f6_areThings (book : Nat → Int32) (a_set : Int32) : Option (Int32) := zb1 (f6_in ((a_set).toInt64) (0 : Int64) (((((1 : Int32) <<< ((book 0) &&& 31)) - (1 : Int32))).toInt64)) (fun r1 => zgb r1 (some r1))
abbrev rm6_areThings : Room := { frames := 1, cells := 0, slots := 0, locals := 25 }
theorem in6_areThings_6 : ∀ w ∈ wsX60, w ∈ wsX6_areThings := fun w h => List.mem_cons_of_mem _ (List.mem_append_right _ h)
set_option maxHeartbeats 4000000 in
set_option maxRecDepth 100000 in
theorem c6_areThings {l : Launch} {D : va_G} {cI cZ cB : ClassId} {q : Nat → Nat} {quiet : Int32} {mabove : Int64} {mbelow : Int64} {typed : Int32} {mat : Int32} {mstart : Int32} {mtoken : Int32} {mvalue : Int32} {many : Int32} {book : Nat → Int32} {images : Nat → Int32} {mkept : Nat → Int32} {aside : Nat → Int32} {refused : Nat → Int32} {text : Nat → Int32} {items : Nat → Int32} {drawn : Nat → Int32} {row : Nat → Int32} {best : Nat → Int32} {a_set : Int32} {r : Int32}  (hf : f6_areThings book a_set = some r) : Met l yX6_areThings wsX6_areThings rm6_areThings (zPp D cI cZ cB [.ref (q 0), .int a_set] (cMod cI cZ q quiet mabove mbelow typed mat mstart mtoken mvalue many book images mkept aside refused text items drawn row best)) (zQp (some (.int r))) 0 0 (fun _ => False) := by
  unfold f6_areThings at hf
  refine z_pureZ RX6 (by decide +kernel) rfl rfl (Nat.le_of_ble_eq_true rfl) ?_
  intro p e s m args below meth c Q ls hx hb hml hown hts hK hP hret hl
  have hl : lv_has ls 2 [(0, .ref (q 0)), (1, .int a_set)] := hl
  refine lv_iload_n hx hb (zD_g DX6_areThings 0 rfl) rfl (lv_at hl 1 rfl) ?_
  refine lv_i2l (v := (a_set).toInt64) hx hb (zD_g DX6_areThings 1 rfl) rfl ?_
  refine lv_lconst (v := (0 : Int64)) hx hb (zD_g DX6_areThings 2 rfl) (by decide) ?_
  refine lv_iconst (v := (1 : Int32)) hx hb (zD_g DX6_areThings 3 rfl) (by decide) ?_
  refine lv_aload_n hx hb (zD_g DX6_areThings 4 rfl) rfl (lv_at hl 0 rfl) ?_
  refine va_get (D := D) (ci := 5) (v := .ref (q 1)) (C := RX6) (T := TX6) (N := 19) hx hb hts in6_areThings_6 hown hK.1 hP 0 rfl rfl 0 (by decide) (hts _ (List.mem_of_getElem? (i := 1) rfl)) (fun _ h9 => h9) rfl (zD_g DX6_areThings 5 rfl) ?_
  refine lv_iconst (v := (0 : Int32)) hx hb (zD_g DX6_areThings 6 rfl) (by decide) ?_
  refine z_iald (k := 0) hx hb hK.1 hP 1 0 rfl rfl (by decide) rfl (zD_g DX6_areThings 7 rfl) ?_
  refine lv_ishl hx hb (zD_g DX6_areThings 8 rfl) ?_
  refine lv_iconst (v := (1 : Int32)) hx hb (zD_g DX6_areThings 9 rfl) (by decide) ?_
  refine lv_isub hx hb (zD_g DX6_areThings 10 rfl) ?_
  refine lv_i2l (v := ((((1 : Int32) <<< ((book 0) &&& 31)) - (1 : Int32))).toInt64) hx hb (zD_g DX6_areThings 11 rfl) rfl ?_
  obtain ⟨r1, hc2, hf⟩ := zb1_s hf
  refine z_Sp (As := [.long ((a_set).toInt64), .long (0 : Int64), .long (((((1 : Int32) <<< ((book 0) &&& 31)) - (1 : Int32))).toInt64)]) (rest := []) ⟨hx, hb, hml, hown, hts⟩ hK (c6_in  hc2) (va_cwS 3 hts gX6_areThings_X6_in rfl rfl rfl hd6_in ⟨Nat.le_of_ble_eq_true rfl, Nat.le_of_ble_eq_true rfl⟩) (hP.sub [] rfl) rfl hl.1 rfl rfl (Nat.le_of_ble_eq_true rfl) (zD_g DX6_areThings 12 rfl) ⟨Nat.zero_le _, Nat.zero_le _⟩ ?_
  obtain ⟨hz3, hf⟩ := zgb_s hf
  cases hf
  exact hret _ _ hz3 (zD_g DX6_areThings 13 rfl)
theorem hd6_areThings : yX6_areThings.cls = RX6 ∧ yX6_areThings.cls ≠ "java/lang/invoke/MethodHandle" ∧ yX6_areThings.cls ≠ "java/lang/invoke/VarHandle" ∧ (parseMethodDescriptor yX6_areThings.desc).map (fun d => d.parameters.length) = some 1 := by decide +kernel
abbrev dlX6_knocks : List (Nat × Instr × Nat) := [(0, .aload_n 0, 1), (1, .iload_n 1, 1), (2, .invokevirtual 84, 3), (5, .ifCond .eq 19, 3), (8, .aload_n 0, 1), (9, .iload_n 2, 1), (10, .invokevirtual 231, 3), (13, .ifCond .eq 11, 3), (16, .aload_n 0, 1), (17, .iload_n 3, 1), (18, .invokevirtual 231, 3), (21, .ifCond .ne 8, 3), (24, .aload_n 0, 1), (25, .invokevirtual 66, 3), (28, .ireturn, 1), (29, .aload_n 0, 1), (30, .iload_n 1, 1), (31, .iload_n 2, 1), (32, .invokevirtual 194, 3), (35, .aload_n 0, 1), (36, .iload_n 1, 1), (37, .iload_n 3, 1), (38, .invokevirtual 194, 3), (41, .if_icmp .ne 7, 3), (44, .iconst 0, 1), (45, .goto 4, 3), (48, .iconst 1, 1), (49, .aload_n 0, 1), (50, .iload_n 1, 1), (51, .iload_n 2, 1), (52, .invokevirtual 197, 3), (55, .aload_n 0, 1), (56, .iload_n 1, 1), (57, .iload_n 3, 1), (58, .invokevirtual 197, 3), (61, .if_icmp .ne 7, 3), (64, .iconst 0, 1), (65, .goto 4, 3), (68, .iconst 2, 1), (69, .iadd, 1), (70, .ireturn, 1)]
theorem DX6_knocks : zD cX6_knocks dlX6_knocks = true := by decide +kernel
set_option maxRecDepth 20000 in
theorem ggX6_knocks_X6_isGift : GoodIn wsX6_knocks wsX6_isGift := goodIn_r _ [5, 6, 7, 8, 4, 9, 48, 49, 50, 51, 52, 53, 54, 55, 56, 57, 58, 59, 60, 61, 62, 63, 64, 65, 66] (by decide +kernel) (by decide +kernel)
set_option maxRecDepth 20000 in
theorem gX6_knocks_X6_isGift : GoodIn wsX6_knocks (wsV RX6 84 RX6 yX6_isGift wsX6_isGift) := goodIn_app (goodIn_of _ (by decide +kernel)) ggX6_knocks_X6_isGift
set_option maxRecDepth 20000 in
theorem ggX6_knocks_X6_areThings : GoodIn wsX6_knocks wsX6_areThings := goodIn_r _ [13, 6, 7, 8, 4, 9, 48, 49, 50, 51, 52, 53, 54, 55, 56, 57, 58, 59, 60, 61, 62, 63, 64, 65, 66] (by decide +kernel) (by decide +kernel)
set_option maxRecDepth 20000 in
theorem gX6_knocks_X6_areThings : GoodIn wsX6_knocks (wsV RX6 231 RX6 yX6_areThings wsX6_areThings) := goodIn_app (goodIn_of _ (by decide +kernel)) ggX6_knocks_X6_areThings
set_option maxRecDepth 20000 in
theorem ggX6_knocks_X6_bad : GoodIn wsX6_knocks wsX6_bad := goodIn_r _ [17, 18, 19, 20, 4, 21, 22, 23, 48, 49, 50, 51, 52, 53, 54, 55, 56, 57, 58, 59, 60, 61, 62, 63, 64, 65, 66] (by decide +kernel) (by decide +kernel)
set_option maxRecDepth 20000 in
theorem gX6_knocks_X6_bad : GoodIn wsX6_knocks (wsV RX6 66 RX6 yX6_bad wsX6_bad) := goodIn_app (goodIn_of _ (by decide +kernel)) ggX6_knocks_X6_bad
set_option maxRecDepth 20000 in
theorem ggX6_knocks_X6_isHeard : GoodIn wsX6_knocks wsX6_isHeard := goodIn_r _ [27, 6, 28, 29, 30, 4, 31, 32, 33, 34, 35, 36, 37, 38, 39, 48, 49, 50, 51, 52, 53, 54, 55, 56, 57, 58, 59, 60, 61, 62, 63, 64, 65, 66] (by decide +kernel) (by decide +kernel)
set_option maxRecDepth 20000 in
theorem gX6_knocks_X6_isHeard : GoodIn wsX6_knocks (wsV RX6 194 RX6 yX6_isHeard wsX6_isHeard) := goodIn_app (goodIn_of _ (by decide +kernel)) ggX6_knocks_X6_isHeard
set_option maxRecDepth 20000 in
theorem ggX6_knocks_X6_isHeavy : GoodIn wsX6_knocks wsX6_isHeavy := goodIn_r _ [43, 6, 44, 45, 46, 4, 47, 32, 33, 34, 35, 36, 37, 38, 39, 48, 49, 50, 51, 52, 53, 54, 55, 56, 57, 58, 59, 60, 61, 62, 63, 64, 65, 66] (by decide +kernel) (by decide +kernel)
set_option maxRecDepth 20000 in
theorem gX6_knocks_X6_isHeavy : GoodIn wsX6_knocks (wsV RX6 197 RX6 yX6_isHeavy wsX6_isHeavy) := goodIn_app (goodIn_of _ (by decide +kernel)) ggX6_knocks_X6_isHeavy
def f6_knocks (quiet : Int32) (book : Nat → Int32) (refused : Nat → Int32) (a_g : Int32) (a_one : Int32) (a_two : Int32) : Option (Int32 × (Nat → Int32)) := zb1 (f6_isGift book a_g) (fun r1 => if r1 = 0 then zb2 (f6_bad quiet refused) (fun r4 refused_5 => some (r4, refused_5)) else zb1 (f6_areThings book a_one) (fun r7 => if r7 = 0 then zb2 (f6_bad quiet refused) (fun r10 refused_11 => some (r10, refused_11)) else zb1 (f6_areThings book a_two) (fun r13 => if r13 = 0 then zb2 (f6_bad quiet refused) (fun r28 refused_29 => some (r28, refused_29)) else zb1 (f6_isHeard book a_g a_one) (fun r16 => zb1 (f6_isHeard book a_g a_two) (fun r18 => zb1 (if r16 = r18 then some (0 : Int32) else some (1 : Int32)) (fun v21 => zb1 (f6_isHeavy book a_g a_one) (fun r22 => zb1 (f6_isHeavy book a_g a_two) (fun r24 => if r22 = r24 then some ((v21 + (0 : Int32)), refused) else some ((v21 + (2 : Int32)), refused)))))))))
abbrev rm6_knocks : Room := { frames := 3, cells := 0, slots := 0, locals := 71 }
set_option maxHeartbeats 4000000 in
set_option maxRecDepth 100000 in
theorem c6_knocks {l : Launch} {D : va_G} {cI cZ cB : ClassId} {q : Nat → Nat} {sz : Nat} {quiet : Int32} {mabove : Int64} {mbelow : Int64} {typed : Int32} {mat : Int32} {mstart : Int32} {mtoken : Int32} {mvalue : Int32} {many : Int32} {book : Nat → Int32} {images : Nat → Int32} {mkept : Nat → Int32} {aside : Nat → Int32} {refused : Nat → Int32} {text : Nat → Int32} {items : Nat → Int32} {drawn : Nat → Int32} {row : Nat → Int32} {best : Nat → Int32} {a_g : Int32} {a_one : Int32} {a_two : Int32} {r : Int32} {d_refused : Nat → Int32} (hf : f6_knocks quiet book refused a_g a_one a_two = some (r, d_refused)) : Met l yX6_knocks wsX6_knocks rm6_knocks (zPm D cI cZ cB [.ref (q 0), .int a_g, .int a_one, .int a_two] sz (cMod cI cZ q quiet mabove mbelow typed mat mstart mtoken mvalue many book images mkept aside refused text items drawn row best)) (zQm D (some (.int r)) (cMod cI cZ q quiet mabove mbelow typed mat mstart mtoken mvalue many book images mkept aside d_refused text items drawn row best) (va_A (cMod cI cZ q quiet mabove mbelow typed mat mstart mtoken mvalue many book images mkept aside refused text items drawn row best) sz)) 0 0 (va_A (cMod cI cZ q quiet mabove mbelow typed mat mstart mtoken mvalue many book images mkept aside refused text items drawn row best) sz) := by
  unfold f6_knocks at hf
  refine z_mutI RX6 (by decide +kernel) rfl rfl (Nat.le_of_ble_eq_true rfl) ?_
  intro p e s m args below meth c Q A ls hx hb hml hown hts hK hP hD hS hA hret hl
  have hl : lv_has ls 4 [(0, .ref (q 0)), (1, .int a_g), (2, .int a_one), (3, .int a_two)] := hl
  refine lv_aload_n hx hb (zD_g DX6_knocks 0 rfl) rfl (lv_at hl 0 rfl) ?_
  refine lv_iload_n hx hb (zD_g DX6_knocks 1 rfl) rfl (lv_at hl 1 rfl) ?_
  obtain ⟨r1, hc2, hf⟩ := zb1_s hf
  refine z_Vp (As := [.int a_g]) (rest := []) ⟨hx, hb, hml, hown, hts⟩ hK (c6_isGift (quiet := quiet) (mabove := mabove) (mbelow := mbelow) (typed := typed) (mat := mat) (mstart := mstart) (mtoken := mtoken) (mvalue := mvalue) (many := many) (book := book) (images := images) (mkept := mkept) (aside := aside) (refused := refused) (text := text) (items := items) (drawn := drawn) (row := row) (best := best) (q := q) hc2) (cwV 1 hts gX6_knocks_X6_isGift rfl rfl rfl hd6_isGift ⟨Nat.le_of_ble_eq_true rfl, Nat.le_of_ble_eq_true rfl⟩) hP rfl rfl rfl rfl hl.1 rfl rfl (Nat.le_of_ble_eq_true rfl) (zD_g DX6_knocks 2 rfl) ⟨Nat.zero_le _, Nat.zero_le _⟩ ?_
  refine lv_if_eq (tgt := 24) hx hb (zD_g DX6_knocks 3 rfl) (by decide) (fun c3 => ?_) (fun c3 => ?_)
  · replace hf := z_t c3 hf
    refine lv_aload_n hx hb (zD_g DX6_knocks 12 rfl) rfl (lv_at hl 0 rfl) ?_
    obtain ⟨r4, refused_5, hc6, hf⟩ := zb2_s hf
    refine z_Vm (As := []) (rest := []) (ws' := (cMod cI cZ q quiet mabove mbelow typed mat mstart mtoken mvalue many book images mkept aside refused_5 text items drawn row best)) ⟨hx, hb, hml, hown, hts⟩ hK (c6_bad (quiet := quiet) (mabove := mabove) (mbelow := mbelow) (typed := typed) (mat := mat) (mstart := mstart) (mtoken := mtoken) (mvalue := mvalue) (many := many) (book := book) (images := images) (mkept := mkept) (aside := aside) (refused := refused) (text := text) (items := items) (drawn := drawn) (row := row) (best := best) (q := q) hc6) (cwV 0 hts gX6_knocks_X6_bad rfl rfl rfl hd6_bad ⟨Nat.le_of_ble_eq_true rfl, Nat.le_of_ble_eq_true rfl⟩) hP hD hS hA 11 [0, 1, 2, 3, 4, 5, 6, 7, 8, 9, 10] [] [0, 1, 2, 3, 4, 5, 6, 7, 8, 9, 10] (by decide +kernel) rfl rfl rfl rfl rfl rfl rfl hl.1 rfl rfl (Nat.le_of_ble_eq_true rfl) (zD_g DX6_knocks 13 rfl) ⟨Nat.zero_le _, Nat.zero_le _⟩ (fun H locs hP hD hS => ?_)
    cases hf
    exact hret _ _ _ _ hP hD hS (zD_g DX6_knocks 14 rfl)
  · replace hf := z_f c3 hf
    refine lv_aload_n hx hb (zD_g DX6_knocks 4 rfl) rfl (lv_at hl 0 rfl) ?_
    refine lv_iload_n hx hb (zD_g DX6_knocks 5 rfl) rfl (lv_at hl 2 rfl) ?_
    obtain ⟨r7, hc8, hf⟩ := zb1_s hf
    refine z_Vp (As := [.int a_one]) (rest := []) ⟨hx, hb, hml, hown, hts⟩ hK (c6_areThings (quiet := quiet) (mabove := mabove) (mbelow := mbelow) (typed := typed) (mat := mat) (mstart := mstart) (mtoken := mtoken) (mvalue := mvalue) (many := many) (book := book) (images := images) (mkept := mkept) (aside := aside) (refused := refused) (text := text) (items := items) (drawn := drawn) (row := row) (best := best) (q := q) hc8) (cwV 1 hts gX6_knocks_X6_areThings rfl rfl rfl hd6_areThings ⟨Nat.le_of_ble_eq_true rfl, Nat.le_of_ble_eq_true rfl⟩) hP rfl rfl rfl rfl hl.1 rfl rfl (Nat.le_of_ble_eq_true rfl) (zD_g DX6_knocks 6 rfl) ⟨Nat.zero_le _, Nat.zero_le _⟩ ?_
    refine lv_if_eq (tgt := 24) hx hb (zD_g DX6_knocks 7 rfl) (by decide) (fun c9 => ?_) (fun c9 => ?_)
    · replace hf := z_t c9 hf
      refine lv_aload_n hx hb (zD_g DX6_knocks 12 rfl) rfl (lv_at hl 0 rfl) ?_
      obtain ⟨r10, refused_11, hc12, hf⟩ := zb2_s hf
      refine z_Vm (As := []) (rest := []) (ws' := (cMod cI cZ q quiet mabove mbelow typed mat mstart mtoken mvalue many book images mkept aside refused_11 text items drawn row best)) ⟨hx, hb, hml, hown, hts⟩ hK (c6_bad (quiet := quiet) (mabove := mabove) (mbelow := mbelow) (typed := typed) (mat := mat) (mstart := mstart) (mtoken := mtoken) (mvalue := mvalue) (many := many) (book := book) (images := images) (mkept := mkept) (aside := aside) (refused := refused) (text := text) (items := items) (drawn := drawn) (row := row) (best := best) (q := q) hc12) (cwV 0 hts gX6_knocks_X6_bad rfl rfl rfl hd6_bad ⟨Nat.le_of_ble_eq_true rfl, Nat.le_of_ble_eq_true rfl⟩) hP hD hS hA 11 [0, 1, 2, 3, 4, 5, 6, 7, 8, 9, 10] [] [0, 1, 2, 3, 4, 5, 6, 7, 8, 9, 10] (by decide +kernel) rfl rfl rfl rfl rfl rfl rfl hl.1 rfl rfl (Nat.le_of_ble_eq_true rfl) (zD_g DX6_knocks 13 rfl) ⟨Nat.zero_le _, Nat.zero_le _⟩ (fun H locs hP hD hS => ?_)
      cases hf
      exact hret _ _ _ _ hP hD hS (zD_g DX6_knocks 14 rfl)
    · replace hf := z_f c9 hf
      refine lv_aload_n hx hb (zD_g DX6_knocks 8 rfl) rfl (lv_at hl 0 rfl) ?_
      refine lv_iload_n hx hb (zD_g DX6_knocks 9 rfl) rfl (lv_at hl 3 rfl) ?_
      obtain ⟨r13, hc14, hf⟩ := zb1_s hf
      refine z_Vp (As := [.int a_two]) (rest := []) ⟨hx, hb, hml, hown, hts⟩ hK (c6_areThings (quiet := quiet) (mabove := mabove) (mbelow := mbelow) (typed := typed) (mat := mat) (mstart := mstart) (mtoken := mtoken) (mvalue := mvalue) (many := many) (book := book) (images := images) (mkept := mkept) (aside := aside) (refused := refused) (text := text) (items := items) (drawn := drawn) (row := row) (best := best) (q := q) hc14) (cwV 1 hts gX6_knocks_X6_areThings rfl rfl rfl hd6_areThings ⟨Nat.le_of_ble_eq_true rfl, Nat.le_of_ble_eq_true rfl⟩) hP rfl rfl rfl rfl hl.1 rfl rfl (Nat.le_of_ble_eq_true rfl) (zD_g DX6_knocks 10 rfl) ⟨Nat.zero_le _, Nat.zero_le _⟩ ?_
      refine lv_if_ne (tgt := 29) hx hb (zD_g DX6_knocks 11 rfl) (by decide) (fun c15 => ?_) (fun c15 => ?_)
      · replace hf := z_f c15 hf
        refine lv_aload_n hx hb (zD_g DX6_knocks 15 rfl) rfl (lv_at hl 0 rfl) ?_
        refine lv_iload_n hx hb (zD_g DX6_knocks 16 rfl) rfl (lv_at hl 1 rfl) ?_
        refine lv_iload_n hx hb (zD_g DX6_knocks 17 rfl) rfl (lv_at hl 2 rfl) ?_
        obtain ⟨r16, hc17, hf⟩ := zb1_s hf
        refine z_Vp (As := [.int a_g, .int a_one]) (rest := []) ⟨hx, hb, hml, hown, hts⟩ hK (c6_isHeard (quiet := quiet) (mabove := mabove) (mbelow := mbelow) (typed := typed) (mat := mat) (mstart := mstart) (mtoken := mtoken) (mvalue := mvalue) (many := many) (book := book) (images := images) (mkept := mkept) (aside := aside) (refused := refused) (text := text) (items := items) (drawn := drawn) (row := row) (best := best) (q := q) hc17) (cwV 2 hts gX6_knocks_X6_isHeard rfl rfl rfl hd6_isHeard ⟨Nat.le_of_ble_eq_true rfl, Nat.le_of_ble_eq_true rfl⟩) hP rfl rfl rfl rfl hl.1 rfl rfl (Nat.le_of_ble_eq_true rfl) (zD_g DX6_knocks 18 rfl) ⟨Nat.zero_le _, Nat.zero_le _⟩ ?_
        refine lv_aload_n hx hb (zD_g DX6_knocks 19 rfl) rfl (lv_at hl 0 rfl) ?_
        refine lv_iload_n hx hb (zD_g DX6_knocks 20 rfl) rfl (lv_at hl 1 rfl) ?_
        refine lv_iload_n hx hb (zD_g DX6_knocks 21 rfl) rfl (lv_at hl 3 rfl) ?_
        obtain ⟨r18, hc19, hf⟩ := zb1_s hf
        refine z_Vp (As := [.int a_g, .int a_two]) (rest := [.int r16]) ⟨hx, hb, hml, hown, hts⟩ hK (c6_isHeard (quiet := quiet) (mabove := mabove) (mbelow := mbelow) (typed := typed) (mat := mat) (mstart := mstart) (mtoken := mtoken) (mvalue := mvalue) (many := many) (book := book) (images := images) (mkept := mkept) (aside := aside) (refused := refused) (text := text) (items := items) (drawn := drawn) (row := row) (best := best) (q := q) hc19) (cwV 2 hts gX6_knocks_X6_isHeard rfl rfl rfl hd6_isHeard ⟨Nat.le_of_ble_eq_true rfl, Nat.le_of_ble_eq_true rfl⟩) hP rfl rfl rfl rfl hl.1 rfl rfl (Nat.le_of_ble_eq_true rfl) (zD_g DX6_knocks 22 rfl) ⟨Nat.zero_le _, Nat.zero_le _⟩ ?_
        obtain ⟨v21, hr27, hf⟩ := zb1_s hf
        have hJ27 : ∀ (H : Heap) (locs : List Loc), va_P D vwCl (cMod cI cZ q quiet mabove mbelow typed mat mstart mtoken mvalue many book images mkept aside refused text items drawn row best) H → va_D A (cMod cI cZ q quiet mabove mbelow typed mat mstart mtoken mvalue many book images mkept aside refused text items drawn row best) → va_S A s.heap H locs → ∀ (ls : Array Slot), lv_has ls 4 [(0, .ref (q 0)), (1, .int a_g), (2, .int a_one), (3, .int a_two)] → W p l e rm6_knocks s m args below meth c H locs 0 0 Q (F0 m 49 ls [.int v21]) := by
          intro H locs hP hD hS ls hl
          refine lv_aload_n hx hb (zD_g DX6_knocks 27 rfl) rfl (lv_at hl 0 rfl) ?_
          refine lv_iload_n hx hb (zD_g DX6_knocks 28 rfl) rfl (lv_at hl 1 rfl) ?_
          refine lv_iload_n hx hb (zD_g DX6_knocks 29 rfl) rfl (lv_at hl 2 rfl) ?_
          obtain ⟨r22, hc23, hf⟩ := zb1_s hf
          refine z_Vp (As := [.int a_g, .int a_one]) (rest := [.int v21]) ⟨hx, hb, hml, hown, hts⟩ hK (c6_isHeavy (quiet := quiet) (mabove := mabove) (mbelow := mbelow) (typed := typed) (mat := mat) (mstart := mstart) (mtoken := mtoken) (mvalue := mvalue) (many := many) (book := book) (images := images) (mkept := mkept) (aside := aside) (refused := refused) (text := text) (items := items) (drawn := drawn) (row := row) (best := best) (q := q) hc23) (cwV 2 hts gX6_knocks_X6_isHeavy rfl rfl rfl hd6_isHeavy ⟨Nat.le_of_ble_eq_true rfl, Nat.le_of_ble_eq_true rfl⟩) hP rfl rfl rfl rfl hl.1 rfl rfl (Nat.le_of_ble_eq_true rfl) (zD_g DX6_knocks 30 rfl) ⟨Nat.zero_le _, Nat.zero_le _⟩ ?_
          refine lv_aload_n hx hb (zD_g DX6_knocks 31 rfl) rfl (lv_at hl 0 rfl) ?_
          refine lv_iload_n hx hb (zD_g DX6_knocks 32 rfl) rfl (lv_at hl 1 rfl) ?_
          refine lv_iload_n hx hb (zD_g DX6_knocks 33 rfl) rfl (lv_at hl 3 rfl) ?_
          obtain ⟨r24, hc25, hf⟩ := zb1_s hf
          refine z_Vp (As := [.int a_g, .int a_two]) (rest := [.int r22, .int v21]) ⟨hx, hb, hml, hown, hts⟩ hK (c6_isHeavy (quiet := quiet) (mabove := mabove) (mbelow := mbelow) (typed := typed) (mat := mat) (mstart := mstart) (mtoken := mtoken) (mvalue := mvalue) (many := many) (book := book) (images := images) (mkept := mkept) (aside := aside) (refused := refused) (text := text) (items := items) (drawn := drawn) (row := row) (best := best) (q := q) hc25) (cwV 2 hts gX6_knocks_X6_isHeavy rfl rfl rfl hd6_isHeavy ⟨Nat.le_of_ble_eq_true rfl, Nat.le_of_ble_eq_true rfl⟩) hP rfl rfl rfl rfl hl.1 rfl rfl (Nat.le_of_ble_eq_true rfl) (zD_g DX6_knocks 34 rfl) ⟨Nat.zero_le _, Nat.zero_le _⟩ ?_
          refine lv_icmp_ne (tgt := 68) hx hb (zD_g DX6_knocks 35 rfl) (by decide) (fun c26 => ?_) (fun c26 => ?_)
          · replace hf := z_f c26 hf
            refine lv_iconst (v := (2 : Int32)) hx hb (zD_g DX6_knocks 38 rfl) (by decide) ?_
            refine lv_iadd hx hb (zD_g DX6_knocks 39 rfl) ?_
            cases hf
            exact hret _ _ _ _ hP hD hS (zD_g DX6_knocks 40 rfl)
          · replace hf := z_t c26 hf
            refine lv_iconst (v := (0 : Int32)) hx hb (zD_g DX6_knocks 36 rfl) (by decide) ?_
            refine lv_goto (tgt := 69) hx hb (zD_g DX6_knocks 37 rfl) (by decide) ?_
            refine lv_iadd hx hb (zD_g DX6_knocks 39 rfl) ?_
            cases hf
            exact hret _ _ _ _ hP hD hS (zD_g DX6_knocks 40 rfl)
        clear hf
        refine lv_icmp_ne (tgt := 48) hx hb (zD_g DX6_knocks 23 rfl) (by decide) (fun c20 => ?_) (fun c20 => ?_)
        · have hf := z_f c20 hr27
          refine lv_iconst (v := (1 : Int32)) hx hb (zD_g DX6_knocks 26 rfl) (by decide) ?_
          cases hf
          exact hJ27 _ _ hP hD hS ls (lv_sub hl [0, 1, 2, 3] rfl)
        · have hf := z_t c20 hr27
          refine lv_iconst (v := (0 : Int32)) hx hb (zD_g DX6_knocks 24 rfl) (by decide) ?_
          refine lv_goto (tgt := 49) hx hb (zD_g DX6_knocks 25 rfl) (by decide) ?_
          cases hf
          exact hJ27 _ _ hP hD hS ls (lv_sub hl [0, 1, 2, 3] rfl)
      · replace hf := z_t c15 hf
        refine lv_aload_n hx hb (zD_g DX6_knocks 12 rfl) rfl (lv_at hl 0 rfl) ?_
        obtain ⟨r28, refused_29, hc30, hf⟩ := zb2_s hf
        refine z_Vm (As := []) (rest := []) (ws' := (cMod cI cZ q quiet mabove mbelow typed mat mstart mtoken mvalue many book images mkept aside refused_29 text items drawn row best)) ⟨hx, hb, hml, hown, hts⟩ hK (c6_bad (quiet := quiet) (mabove := mabove) (mbelow := mbelow) (typed := typed) (mat := mat) (mstart := mstart) (mtoken := mtoken) (mvalue := mvalue) (many := many) (book := book) (images := images) (mkept := mkept) (aside := aside) (refused := refused) (text := text) (items := items) (drawn := drawn) (row := row) (best := best) (q := q) hc30) (cwV 0 hts gX6_knocks_X6_bad rfl rfl rfl hd6_bad ⟨Nat.le_of_ble_eq_true rfl, Nat.le_of_ble_eq_true rfl⟩) hP hD hS hA 11 [0, 1, 2, 3, 4, 5, 6, 7, 8, 9, 10] [] [0, 1, 2, 3, 4, 5, 6, 7, 8, 9, 10] (by decide +kernel) rfl rfl rfl rfl rfl rfl rfl hl.1 rfl rfl (Nat.le_of_ble_eq_true rfl) (zD_g DX6_knocks 13 rfl) ⟨Nat.zero_le _, Nat.zero_le _⟩ (fun H locs hP hD hS => ?_)
        cases hf
        exact hret _ _ _ _ hP hD hS (zD_g DX6_knocks 14 rfl)
theorem hd6_knocks : yX6_knocks.cls = RX6 ∧ yX6_knocks.cls ≠ "java/lang/invoke/MethodHandle" ∧ yX6_knocks.cls ≠ "java/lang/invoke/VarHandle" ∧ (parseMethodDescriptor yX6_knocks.desc).map (fun d => d.parameters.length) = some 3 := by decide +kernel
abbrev dlX6_senderLoses : List (Nat × Instr × Nat) := [(0, .iload_n 1, 1), (1, .iconst 1, 1), (2, .if_icmp .ne 7, 3), (5, .iconst 2, 1), (6, .goto 17, 3), (9, .iload_n 1, 1), (10, .iconst 2, 1), (11, .if_icmp .ne 11, 3), (14, .iload_n 0, 1), (15, .ifCond .eq 7, 3), (18, .iconst 4, 1), (19, .goto 4, 3), (22, .iconst 0, 1), (23, .ireturn, 1)]
theorem DX6_senderLoses : zD cX6_senderLoses dlX6_senderLoses = true := by decide +kernel
def f6_senderLoses (a_full : Int32) (a_y : Int32) : Option (Int32) := if a_y = (1 : Int32) then some (2 : Int32) else if a_y = (2 : Int32) then if a_full = 0 then some (0 : Int32) else some (4 : Int32) else some (0 : Int32)
abbrev rm6_senderLoses : Room := { frames := 0, cells := 0, slots := 0, locals := 0 }
set_option maxHeartbeats 4000000 in
set_option maxRecDepth 100000 in
theorem c6_senderLoses {l : Launch} {D : va_G} {cI cZ cB : ClassId}   {a_full : Int32} {a_y : Int32} {r : Int32}  (hf : f6_senderLoses a_full a_y = some r) : Met l yX6_senderLoses wsX6_senderLoses rm6_senderLoses (zPp D cI cZ cB [.int a_full, .int a_y] ([] : va_W)) (zQp (some (.int r))) 0 0 (fun _ => False) := by
  unfold f6_senderLoses at hf
  refine z_pureI RX6 (by decide +kernel) rfl rfl (Nat.le_of_ble_eq_true rfl) ?_
  intro p e s m args below meth c Q ls hx hb hml hown hts hK hP hret hl
  have hl : lv_has ls 2 [(0, .int a_full), (1, .int a_y)] := hl
  refine lv_iload_n hx hb (zD_g DX6_senderLoses 0 rfl) rfl (lv_at hl 1 rfl) ?_
  refine lv_iconst (v := (1 : Int32)) hx hb (zD_g DX6_senderLoses 1 rfl) (by decide) ?_
  refine lv_icmp_ne (tgt := 9) hx hb (zD_g DX6_senderLoses 2 rfl) (by decide) (fun c1 => ?_) (fun c1 => ?_)
  · replace hf := z_f c1 hf
    refine lv_iload_n hx hb (zD_g DX6_senderLoses 5 rfl) rfl (lv_at hl 1 rfl) ?_
    refine lv_iconst (v := (2 : Int32)) hx hb (zD_g DX6_senderLoses 6 rfl) (by decide) ?_
    refine lv_icmp_ne (tgt := 22) hx hb (zD_g DX6_senderLoses 7 rfl) (by decide) (fun c2 => ?_) (fun c2 => ?_)
    · replace hf := z_f c2 hf
      refine lv_iconst (v := (0 : Int32)) hx hb (zD_g DX6_senderLoses 12 rfl) (by decide) ?_
      cases hf
      exact hret _ _ (zD_g DX6_senderLoses 13 rfl)
    · replace hf := z_t c2 hf
      refine lv_iload_n hx hb (zD_g DX6_senderLoses 8 rfl) rfl (lv_at hl 0 rfl) ?_
      refine lv_if_eq (tgt := 22) hx hb (zD_g DX6_senderLoses 9 rfl) (by decide) (fun c3 => ?_) (fun c3 => ?_)
      · replace hf := z_t c3 hf
        refine lv_iconst (v := (0 : Int32)) hx hb (zD_g DX6_senderLoses 12 rfl) (by decide) ?_
        cases hf
        exact hret _ _ (zD_g DX6_senderLoses 13 rfl)
      · replace hf := z_f c3 hf
        refine lv_iconst (v := (4 : Int32)) hx hb (zD_g DX6_senderLoses 10 rfl) (by decide) ?_
        refine lv_goto (tgt := 23) hx hb (zD_g DX6_senderLoses 11 rfl) (by decide) ?_
        cases hf
        exact hret _ _ (zD_g DX6_senderLoses 13 rfl)
  · replace hf := z_t c1 hf
    refine lv_iconst (v := (2 : Int32)) hx hb (zD_g DX6_senderLoses 3 rfl) (by decide) ?_
    refine lv_goto (tgt := 23) hx hb (zD_g DX6_senderLoses 4 rfl) (by decide) ?_
    cases hf
    exact hret _ _ (zD_g DX6_senderLoses 13 rfl)
theorem hd6_senderLoses : yX6_senderLoses.cls ≠ "java/lang/invoke/MethodHandle" ∧ yX6_senderLoses.cls ≠ "java/lang/invoke/VarHandle" ∧ (parseMethodDescriptor yX6_senderLoses.desc).map (fun d => d.parameters.length) = some 2 := by decide +kernel
abbrev dlX6_takerLoses : List (Nat × Instr × Nat) := [(0, .iload_n 3, 1), (1, .ifCond .ne 11, 3), (4, .aload_n 0, 1), (5, .iload_n 1, 1), (6, .invokevirtual 87, 3), (9, .goto 4, 3), (12, .iconst 0, 1), (13, .istore 5, 2), (15, .iload 4, 2), (17, .ifCond .ne 14, 3), (20, .aload_n 0, 1), (21, .iload_n 1, 1), (22, .iload 5, 2), (24, .iload_n 2, 1), (25, .invokevirtual 206, 3), (28, .goto 24, 3), (31, .iload 4, 2), (33, .iconst 1, 1), (34, .if_icmp .ne 7, 3), (37, .iconst 1, 1), (38, .goto 14, 3), (41, .iload 5, 2), (43, .ifCond .ne 8, 3), (46, .bipush 6, 2), (48, .goto 4, 3), (51, .iconst 3, 1), (52, .ireturn, 1)]
theorem DX6_takerLoses : zD cX6_takerLoses dlX6_takerLoses = true := by decide +kernel
set_option maxRecDepth 20000 in
theorem ggX6_takerLoses_X6_thingsIn : GoodIn wsX6_takerLoses wsX6_thingsIn := goodIn_r _ [5, 6, 23, 24, 25, 26, 27, 28, 29, 30, 31, 32, 33, 34, 35, 36, 37, 38, 39, 40, 41] (by decide +kernel) (by decide +kernel)
set_option maxRecDepth 20000 in
theorem gX6_takerLoses_X6_thingsIn : GoodIn wsX6_takerLoses (wsV RX6 87 RX6 yX6_thingsIn wsX6_thingsIn) := goodIn_app (goodIn_of _ (by decide +kernel)) ggX6_takerLoses_X6_thingsIn
set_option maxRecDepth 20000 in
theorem ggX6_takerLoses_X6_loses : GoodIn wsX6_takerLoses wsX6_loses := goodIn_r _ [10, 6, 11, 12, 13, 4, 14, 15, 16, 17, 18, 19, 20, 21, 22, 23, 24, 25, 26, 27, 28, 29, 30, 31, 32, 33, 34, 35, 36, 37, 38, 39, 40, 41] (by decide +kernel) (by decide +kernel)
set_option maxRecDepth 20000 in
theorem gX6_takerLoses_X6_loses : GoodIn wsX6_takerLoses (wsV RX6 206 RX6 yX6_loses wsX6_loses) := goodIn_app (goodIn_of _ (by decide +kernel)) ggX6_takerLoses_X6_loses
def f6_takerLoses (book : Nat → Int32) (a_g : Int32) (a_hour : Int32) (a_x : Int32) (a_y : Int32) : Option (Int32) := zb1 (if a_x = 0 then zb1 (f6_thingsIn book a_g) (fun r9 => some r9) else some (0 : Int32)) (fun v2 => if a_y = 0 then zb1 (f6_loses book a_g v2 a_hour) (fun r6 => some r6) else if a_y = (1 : Int32) then some (1 : Int32) else if v2 = 0 then some (6 : Int32) else some (3 : Int32))
abbrev rm6_takerLoses : Room := { frames := 3, cells := 0, slots := 0, locals := 73 }
set_option maxHeartbeats 4000000 in
set_option maxRecDepth 100000 in
theorem c6_takerLoses {l : Launch} {D : va_G} {cI cZ cB : ClassId} {q : Nat → Nat} {quiet : Int32} {mabove : Int64} {mbelow : Int64} {typed : Int32} {mat : Int32} {mstart : Int32} {mtoken : Int32} {mvalue : Int32} {many : Int32} {book : Nat → Int32} {images : Nat → Int32} {mkept : Nat → Int32} {aside : Nat → Int32} {refused : Nat → Int32} {text : Nat → Int32} {items : Nat → Int32} {drawn : Nat → Int32} {row : Nat → Int32} {best : Nat → Int32} {a_g : Int32} {a_hour : Int32} {a_x : Int32} {a_y : Int32} {r : Int32}  (hf : f6_takerLoses book a_g a_hour a_x a_y = some r) : Met l yX6_takerLoses wsX6_takerLoses rm6_takerLoses (zPp D cI cZ cB [.ref (q 0), .int a_g, .int a_hour, .int a_x, .int a_y] (cMod cI cZ q quiet mabove mbelow typed mat mstart mtoken mvalue many book images mkept aside refused text items drawn row best)) (zQp (some (.int r))) 0 0 (fun _ => False) := by
  unfold f6_takerLoses at hf
  refine z_pureI RX6 (by decide +kernel) rfl rfl (Nat.le_of_ble_eq_true rfl) ?_
  intro p e s m args below meth c Q ls hx hb hml hown hts hK hP hret hl
  have hl : lv_has ls 6 [(0, .ref (q 0)), (1, .int a_g), (2, .int a_hour), (3, .int a_x), (4, .int a_y)] := hl
  refine lv_iload_n hx hb (zD_g DX6_takerLoses 0 rfl) rfl (lv_at hl 3 rfl) ?_
  obtain ⟨v2, hr8, hf⟩ := zb1_s hf
  have hJ8 : ∀ (ls : Array Slot), lv_has ls 6 [(0, .ref (q 0)), (1, .int a_g), (2, .int a_hour), (4, .int a_y)] → W p l e rm6_takerLoses s m args below meth c s.heap [] 0 0 Q (F0 m 13 ls [.int v2]) := by
    intro ls hl
    refine lv_istore (lv' := [(5, .int v2), (0, .ref (q 0)), (1, .int a_g), (2, .int a_hour), (4, .int a_y)]) hx hb (zD_g DX6_takerLoses 7 rfl) hl (by decide) rfl (fun ls hl => ?_)
    refine lv_iload hx hb (zD_g DX6_takerLoses 8 rfl) (lv_at hl 4 rfl) ?_
    refine lv_if_ne (tgt := 31) hx hb (zD_g DX6_takerLoses 9 rfl) (by decide) (fun c3 => ?_) (fun c3 => ?_)
    · replace hf := z_f c3 hf
      refine lv_iload hx hb (zD_g DX6_takerLoses 16 rfl) (lv_at hl 4 rfl) ?_
      refine lv_iconst (v := (1 : Int32)) hx hb (zD_g DX6_takerLoses 17 rfl) (by decide) ?_
      refine lv_icmp_ne (tgt := 41) hx hb (zD_g DX6_takerLoses 18 rfl) (by decide) (fun c4 => ?_) (fun c4 => ?_)
      · replace hf := z_f c4 hf
        refine lv_iload hx hb (zD_g DX6_takerLoses 21 rfl) (lv_at hl 0 rfl) ?_
        refine lv_if_ne (tgt := 51) hx hb (zD_g DX6_takerLoses 22 rfl) (by decide) (fun c5 => ?_) (fun c5 => ?_)
        · replace hf := z_f c5 hf
          refine lv_iconst (v := (3 : Int32)) hx hb (zD_g DX6_takerLoses 25 rfl) (by decide) ?_
          cases hf
          exact hret _ _ (zD_g DX6_takerLoses 26 rfl)
        · replace hf := z_t c5 hf
          refine lv_bipush (v := (6 : Int32)) hx hb (zD_g DX6_takerLoses 23 rfl) (by decide) ?_
          refine lv_goto (tgt := 52) hx hb (zD_g DX6_takerLoses 24 rfl) (by decide) ?_
          cases hf
          exact hret _ _ (zD_g DX6_takerLoses 26 rfl)
      · replace hf := z_t c4 hf
        refine lv_iconst (v := (1 : Int32)) hx hb (zD_g DX6_takerLoses 19 rfl) (by decide) ?_
        refine lv_goto (tgt := 52) hx hb (zD_g DX6_takerLoses 20 rfl) (by decide) ?_
        cases hf
        exact hret _ _ (zD_g DX6_takerLoses 26 rfl)
    · replace hf := z_t c3 hf
      refine lv_aload_n hx hb (zD_g DX6_takerLoses 10 rfl) rfl (lv_at hl 1 rfl) ?_
      refine lv_iload_n hx hb (zD_g DX6_takerLoses 11 rfl) rfl (lv_at hl 2 rfl) ?_
      refine lv_iload hx hb (zD_g DX6_takerLoses 12 rfl) (lv_at hl 0 rfl) ?_
      refine lv_iload_n hx hb (zD_g DX6_takerLoses 13 rfl) rfl (lv_at hl 3 rfl) ?_
      obtain ⟨r6, hc7, hf⟩ := zb1_s hf
      refine z_Vp (As := [.int a_g, .int v2, .int a_hour]) (rest := []) ⟨hx, hb, hml, hown, hts⟩ hK (c6_loses (quiet := quiet) (mabove := mabove) (mbelow := mbelow) (typed := typed) (mat := mat) (mstart := mstart) (mtoken := mtoken) (mvalue := mvalue) (many := many) (book := book) (images := images) (mkept := mkept) (aside := aside) (refused := refused) (text := text) (items := items) (drawn := drawn) (row := row) (best := best) (q := q) hc7) (cwV 3 hts gX6_takerLoses_X6_loses rfl rfl rfl hd6_loses ⟨Nat.le_of_ble_eq_true rfl, Nat.le_of_ble_eq_true rfl⟩) hP rfl rfl rfl rfl hl.1 rfl rfl (Nat.le_of_ble_eq_true rfl) (zD_g DX6_takerLoses 14 rfl) ⟨Nat.zero_le _, Nat.zero_le _⟩ ?_
      refine lv_goto (tgt := 52) hx hb (zD_g DX6_takerLoses 15 rfl) (by decide) ?_
      cases hf
      exact hret _ _ (zD_g DX6_takerLoses 26 rfl)
  clear hf
  refine lv_if_ne (tgt := 12) hx hb (zD_g DX6_takerLoses 1 rfl) (by decide) (fun c1 => ?_) (fun c1 => ?_)
  · have hf := z_f c1 hr8
    refine lv_iconst (v := (0 : Int32)) hx hb (zD_g DX6_takerLoses 6 rfl) (by decide) ?_
    cases hf
    exact hJ8 ls (lv_sub hl [0, 1, 2, 4] rfl)
  · have hf := z_t c1 hr8
    refine lv_aload_n hx hb (zD_g DX6_takerLoses 2 rfl) rfl (lv_at hl 0 rfl) ?_
    refine lv_iload_n hx hb (zD_g DX6_takerLoses 3 rfl) rfl (lv_at hl 1 rfl) ?_
    obtain ⟨r9, hc10, hf⟩ := zb1_s hf
    refine z_Vp (As := [.int a_g]) (rest := []) ⟨hx, hb, hml, hown, hts⟩ hK (c6_thingsIn (quiet := quiet) (mabove := mabove) (mbelow := mbelow) (typed := typed) (mat := mat) (mstart := mstart) (mtoken := mtoken) (mvalue := mvalue) (many := many) (book := book) (images := images) (mkept := mkept) (aside := aside) (refused := refused) (text := text) (items := items) (drawn := drawn) (row := row) (best := best) (q := q) hc10) (cwV 1 hts gX6_takerLoses_X6_thingsIn rfl rfl rfl hd6_thingsIn ⟨Nat.le_of_ble_eq_true rfl, Nat.le_of_ble_eq_true rfl⟩) hP rfl rfl rfl rfl hl.1 rfl rfl (Nat.le_of_ble_eq_true rfl) (zD_g DX6_takerLoses 4 rfl) ⟨Nat.zero_le _, Nat.zero_le _⟩ ?_
    refine lv_goto (tgt := 13) hx hb (zD_g DX6_takerLoses 5 rfl) (by decide) ?_
    cases hf
    exact hJ8 ls (lv_sub hl [0, 1, 2, 4] rfl)
theorem hd6_takerLoses : yX6_takerLoses.cls = RX6 ∧ yX6_takerLoses.cls ≠ "java/lang/invoke/MethodHandle" ∧ yX6_takerLoses.cls ≠ "java/lang/invoke/VarHandle" ∧ (parseMethodDescriptor yX6_takerLoses.desc).map (fun d => d.parameters.length) = some 4 := by decide +kernel
abbrev dlX6_game : List (Nat × Instr × Nat) := [(0, .aload_n 0, 1), (1, .iload_n 1, 1), (2, .invokevirtual 84, 3), (5, .ifCond .eq 20, 3), (8, .iload_n 2, 1), (9, .invokestatic 105, 3), (12, .ifCond .eq 13, 3), (15, .iload_n 3, 1), (16, .i2l, 1), (17, .lconst 0, 1), (18, .lconst 1, 1), (19, .invokestatic 56, 3), (22, .ifCond .ne 11, 3), (25, .aload_n 0, 1), (26, .iconst 0, 1), (27, .bipush (-10), 2), (29, .invokevirtual 52, 3), (32, .ireturn, 1), (33, .aload_n 0, 1), (34, .iload_n 1, 1), (35, .invokevirtual 87, 3), (38, .ifCond .eq 7, 3), (41, .iconst 1, 1), (42, .goto 4, 3), (45, .iconst 0, 1), (46, .istore 4, 2), (48, .iconst 0, 1), (49, .istore 5, 2), (51, .iconst (-1), 1), (52, .istore 6, 2), (54, .iconst 0, 1), (55, .istore 7, 2), (57, .iload 7, 2), (59, .iconst 2, 1), (60, .if_icmp .ge 166, 3), (63, .iconst 0, 1), (64, .istore 8, 2), (66, .iload 8, 2), (68, .iconst 3, 1), (69, .if_icmp .ge 151, 3), (72, .iload 4, 2), (74, .ifCond .eq 12, 3), (77, .iload 7, 2), (79, .ifCond .ne 7, 3), (82, .iconst 1, 1), (83, .goto 4, 3), (86, .iconst 0, 1), (87, .iload 8, 2), (89, .invokestatic 234, 3), (92, .iload 4, 2), (94, .ifCond .eq 13, 3), (97, .iload 7, 2), (99, .iconst 1, 1), (100, .if_icmp .ne 7, 3), (103, .iconst 1, 1), (104, .goto 4, 3), (107, .iconst 0, 1), (108, .iload 8, 2), (110, .invokestatic 234, 3), (113, .if_icmp .gt 7, 3), (116, .iconst 1, 1), (117, .goto 4, 3), (120, .iconst 0, 1), (121, .istore 9, 2), (123, .iconst 0, 1), (124, .istore 10, 2), (126, .iload 10, 2), (128, .iconst 3, 1), (129, .if_icmp .ge 44, 3), (132, .iload 9, 2), (134, .ifCond .eq 30, 3), (137, .aload_n 0, 1), (138, .iload_n 1, 1), (139, .iload_n 2, 1), (140, .iload 7, 2), (142, .iload 8, 2), (144, .invokevirtual 238, 3), (147, .aload_n 0, 1), (148, .iload_n 1, 1), (149, .iload_n 2, 1), (150, .iload 7, 2), (152, .iload 10, 2), (154, .invokevirtual 238, 3), (157, .if_icmp .gt 7, 3), (160, .iconst 1, 1), (161, .goto 4, 3), (164, .iconst 0, 1), (165, .istore 9, 2), (167, .iinc 10 1, 3), (170, .goto (-44), 3), (173, .iload 5, 2), (175, .iload 9, 2), (177, .ifCond .eq 7, 3), (180, .iconst 1, 1), (181, .goto 4, 3), (184, .iconst 0, 1), (185, .iadd, 1), (186, .istore 5, 2), (188, .iload 9, 2), (190, .ifCond .eq 20, 3), (193, .iload 6, 2), (195, .iconst (-1), 1), (196, .if_icmp .ne 14, 3), (199, .bipush 10, 2), (201, .iload 7, 2), (203, .imul, 1), (204, .iload 8, 2), (206, .iadd, 1), (207, .goto 5, 3), (210, .iload 6, 2), (212, .istore 6, 2), (214, .iinc 8 1, 3), (217, .goto (-151), 3), (220, .iinc 7 1, 3), (223, .goto (-166), 3), (226, .iload_n 3, 1), (227, .ifCond .ne 8, 3), (230, .iload 5, 2), (232, .goto 5, 3), (235, .iload 6, 2), (237, .ireturn, 1)]
theorem DX6_game : zD cX6_game dlX6_game = true := by decide +kernel
set_option maxRecDepth 20000 in
theorem ggX6_game_X6_isGift : GoodIn wsX6_game wsX6_isGift := goodIn_r _ [5, 6, 7, 8, 4, 9, 47, 48, 49, 50, 51, 52, 53, 54, 55, 56, 57, 58, 59, 60, 61, 62, 63, 64, 65] (by decide +kernel) (by decide +kernel)
set_option maxRecDepth 20000 in
theorem gX6_game_X6_isGift : GoodIn wsX6_game (wsV RX6 84 RX6 yX6_isGift wsX6_isGift) := goodIn_app (goodIn_of _ (by decide +kernel)) ggX6_game_X6_isGift
set_option maxRecDepth 20000 in
theorem ggX6_game_X6_isHour : GoodIn wsX6_game wsX6_isHour := goodIn_r _ [12, 13, 7, 8, 4, 9] (by decide +kernel) (by decide +kernel)
set_option maxRecDepth 20000 in
theorem gX6_game_X6_isHour : GoodIn wsX6_game (va_wsS RX6 105 yX6_isHour wsX6_isHour) := goodIn_app (goodIn_of _ (by decide +kernel)) ggX6_game_X6_isHour
set_option maxRecDepth 20000 in
theorem ggX6_game_X6_in : GoodIn wsX6_game wsX6_in := goodIn_r _ [9] (by decide +kernel) (by decide +kernel)
set_option maxRecDepth 20000 in
theorem gX6_game_X6_in : GoodIn wsX6_game (va_wsS RX6 56 yX6_in wsX6_in) := goodIn_app (goodIn_of _ (by decide +kernel)) ggX6_game_X6_in
set_option maxRecDepth 20000 in
theorem ggX6_game_X6_refuses : GoodIn wsX6_game wsX6_refuses := goodIn_r _ [17, 18, 19, 47, 48, 49, 50, 51, 52, 53, 54, 55, 56, 57, 58, 59, 60, 61, 62, 63, 64, 65] (by decide +kernel) (by decide +kernel)
set_option maxRecDepth 20000 in
theorem gX6_game_X6_refuses : GoodIn wsX6_game (wsV RX6 52 RX6 yX6_refuses wsX6_refuses) := goodIn_app (goodIn_of _ (by decide +kernel)) ggX6_game_X6_refuses
set_option maxRecDepth 20000 in
theorem ggX6_game_X6_thingsIn : GoodIn wsX6_game wsX6_thingsIn := goodIn_r _ [23, 6, 47, 48, 49, 50, 51, 52, 53, 54, 55, 56, 57, 58, 59, 60, 61, 62, 63, 64, 65] (by decide +kernel) (by decide +kernel)
set_option maxRecDepth 20000 in
theorem gX6_game_X6_thingsIn : GoodIn wsX6_game (wsV RX6 87 RX6 yX6_thingsIn wsX6_thingsIn) := goodIn_app (goodIn_of _ (by decide +kernel)) ggX6_game_X6_thingsIn
set_option maxRecDepth 20000 in
theorem ggX6_game_X6_senderLoses : GoodIn wsX6_game wsX6_senderLoses := goodIn_r _ [26] (by decide +kernel) (by decide +kernel)
set_option maxRecDepth 20000 in
theorem gX6_game_X6_senderLoses : GoodIn wsX6_game (va_wsS RX6 234 yX6_senderLoses wsX6_senderLoses) := goodIn_app (goodIn_of _ (by decide +kernel)) ggX6_game_X6_senderLoses
set_option maxRecDepth 20000 in
theorem ggX6_game_X6_takerLoses : GoodIn wsX6_game wsX6_takerLoses := goodIn_r _ [30, 20, 21, 22, 4, 23, 6, 31, 32, 33, 34, 35, 36, 37, 38, 39, 40, 41, 42, 43, 44, 45, 46, 47, 48, 49, 50, 51, 52, 53, 54, 55, 56, 57, 58, 59, 60, 61, 62, 63, 64, 65] (by decide +kernel) (by decide +kernel)
set_option maxRecDepth 20000 in
theorem gX6_game_X6_takerLoses : GoodIn wsX6_game (wsV RX6 238 RX6 yX6_takerLoses wsX6_takerLoses) := goodIn_app (goodIn_of _ (by decide +kernel)) ggX6_game_X6_takerLoses
def L6_game_126 (k42 : Int32 → Option (Int32 × (Nat → Int32)))  (book : Nat → Int32) (a_g : Int32) (a_hour : Int32) (y22 : Int32) (y27 : Int32) : Nat → Int32 → Int32 → Option (Int32 × (Nat → Int32))
  | 0, _, _ => none
  | n42 + 1, y40, y41 => if (3 : Int32) ≤ y41 then k42 y40 else if y40 = 0 then L6_game_126 k42 book a_g a_hour y22 y27 n42 (0 : Int32) (y41 + 1) else zb1 (f6_takerLoses book a_g a_hour y22 y27) (fun r45 => zb1 (f6_takerLoses book a_g a_hour y22 y41) (fun r47 => if r47 < r45 then L6_game_126 k42 book a_g a_hour y22 y27 n42 (0 : Int32) (y41 + 1) else L6_game_126 k42 book a_g a_hour y22 y27 n42 (1 : Int32) (y41 + 1)))
def L6_game_66 (k28 : Int32 → Int32 → Option (Int32 × (Nat → Int32)))  (book : Nat → Int32) (a_g : Int32) (a_hour : Int32) (v19 : Int32) (y22 : Int32) : Nat → Int32 → Int32 → Int32 → Option (Int32 × (Nat → Int32))
  | 0, _, _, _ => none
  | n28 + 1, y25, y26, y27 => if (3 : Int32) ≤ y27 then k28 y25 y26 else zb1 (if v19 = 0 then some (0 : Int32) else if y22 = 0 then some (1 : Int32) else some (0 : Int32)) (fun v31 => zb1 (f6_senderLoses v31 y27) (fun r32 => zb1 (if v19 = 0 then some (0 : Int32) else if y22 = (1 : Int32) then some (1 : Int32) else some (0 : Int32)) (fun v35 => zb1 (f6_senderLoses v35 y27) (fun r36 => zb1 (if r36 < r32 then some (0 : Int32) else some (1 : Int32)) (fun v39 => L6_game_126 (fun y50 => zb1 (if y50 = 0 then some (0 : Int32) else some (1 : Int32)) (fun v52 => zl ((y25 + v52)) (fun x53 => if y50 = 0 then L6_game_66 k28 book a_g a_hour v19 y22 n28 x53 y26 (y27 + 1) else if y26 = (-1 : Int32) then zl ((((10 : Int32) * y22) + y27)) (fun x56 => L6_game_66 k28 book a_g a_hour v19 y22 n28 x53 x56 (y27 + 1)) else L6_game_66 k28 book a_g a_hour v19 y22 n28 x53 y26 (y27 + 1)))) book a_g a_hour y22 y27 FU v39 (0 : Int32))))))
def L6_game_57 (k23 : Int32 → Int32 → Option (Int32 × (Nat → Int32)))  (book : Nat → Int32) (a_g : Int32) (a_hour : Int32) (v19 : Int32) : Nat → Int32 → Int32 → Int32 → Option (Int32 × (Nat → Int32))
  | 0, _, _, _ => none
  | n23 + 1, y20, y21, y22 => if (2 : Int32) ≤ y22 then k23 y20 y21 else L6_game_66 (fun y63 y64 => L6_game_57 k23 book a_g a_hour v19 n23 y63 y64 (y22 + 1)) book a_g a_hour v19 y22 FU y20 y21 (0 : Int32)
def f6_game (quiet : Int32) (book : Nat → Int32) (refused : Nat → Int32) (a_g : Int32) (a_hour : Int32) (a_what : Int32) : Option (Int32 × (Nat → Int32)) := zb1 (f6_isGift book a_g) (fun r1 => if r1 = 0 then zb2 (f6_refuses quiet refused (0 : Int32) (-10 : Int32)) (fun r4 refused_5 => some (r4, refused_5)) else zb1 (f6_isHour a_hour) (fun r7 => if r7 = 0 then zb2 (f6_refuses quiet refused (0 : Int32) (-10 : Int32)) (fun r10 refused_11 => some (r10, refused_11)) else zb1 (f6_in ((a_what).toInt64) (0 : Int64) (1 : Int64)) (fun r13 => if r13 = 0 then zb2 (f6_refuses quiet refused (0 : Int32) (-10 : Int32)) (fun r69 refused_70 => some (r69, refused_70)) else zb1 (f6_thingsIn book a_g) (fun r16 => zb1 (if r16 = 0 then some (0 : Int32) else some (1 : Int32)) (fun v19 => L6_game_57 (fun y65 y66 => if a_what = 0 then some (y65, refused) else some (y66, refused)) book a_g a_hour v19 FU (0 : Int32) (-1 : Int32) (0 : Int32))))))
abbrev rm6_game : Room := { frames := 4, cells := 0, slots := 0, locals := 98 }
set_option maxHeartbeats 4000000 in
set_option maxRecDepth 100000 in
theorem c6_game {l : Launch} {D : va_G} {cI cZ cB : ClassId} {q : Nat → Nat} {sz : Nat} {quiet : Int32} {mabove : Int64} {mbelow : Int64} {typed : Int32} {mat : Int32} {mstart : Int32} {mtoken : Int32} {mvalue : Int32} {many : Int32} {book : Nat → Int32} {images : Nat → Int32} {mkept : Nat → Int32} {aside : Nat → Int32} {refused : Nat → Int32} {text : Nat → Int32} {items : Nat → Int32} {drawn : Nat → Int32} {row : Nat → Int32} {best : Nat → Int32} {a_g : Int32} {a_hour : Int32} {a_what : Int32} {r : Int32} {d_refused : Nat → Int32} (hf : f6_game quiet book refused a_g a_hour a_what = some (r, d_refused)) : Met l yX6_game wsX6_game rm6_game (zPm D cI cZ cB [.ref (q 0), .int a_g, .int a_hour, .int a_what] sz (cMod cI cZ q quiet mabove mbelow typed mat mstart mtoken mvalue many book images mkept aside refused text items drawn row best)) (zQm D (some (.int r)) (cMod cI cZ q quiet mabove mbelow typed mat mstart mtoken mvalue many book images mkept aside d_refused text items drawn row best) (va_A (cMod cI cZ q quiet mabove mbelow typed mat mstart mtoken mvalue many book images mkept aside refused text items drawn row best) sz)) 0 0 (va_A (cMod cI cZ q quiet mabove mbelow typed mat mstart mtoken mvalue many book images mkept aside refused text items drawn row best) sz) := by
  unfold f6_game at hf
  refine z_mutI RX6 (by decide +kernel) rfl rfl (Nat.le_of_ble_eq_true rfl) ?_
  intro p e s m args below meth c Q A ls hx hb hml hown hts hK hP hD hS hA hret hl
  have hl : lv_has ls 11 [(0, .ref (q 0)), (1, .int a_g), (2, .int a_hour), (3, .int a_what)] := hl
  refine lv_aload_n hx hb (zD_g DX6_game 0 rfl) rfl (lv_at hl 0 rfl) ?_
  refine lv_iload_n hx hb (zD_g DX6_game 1 rfl) rfl (lv_at hl 1 rfl) ?_
  obtain ⟨r1, hc2, hf⟩ := zb1_s hf
  refine z_Vp (As := [.int a_g]) (rest := []) ⟨hx, hb, hml, hown, hts⟩ hK (c6_isGift (quiet := quiet) (mabove := mabove) (mbelow := mbelow) (typed := typed) (mat := mat) (mstart := mstart) (mtoken := mtoken) (mvalue := mvalue) (many := many) (book := book) (images := images) (mkept := mkept) (aside := aside) (refused := refused) (text := text) (items := items) (drawn := drawn) (row := row) (best := best) (q := q) hc2) (cwV 1 hts gX6_game_X6_isGift rfl rfl rfl hd6_isGift ⟨Nat.le_of_ble_eq_true rfl, Nat.le_of_ble_eq_true rfl⟩) hP rfl rfl rfl rfl hl.1 rfl rfl (Nat.le_of_ble_eq_true rfl) (zD_g DX6_game 2 rfl) ⟨Nat.zero_le _, Nat.zero_le _⟩ ?_
  refine lv_if_eq (tgt := 25) hx hb (zD_g DX6_game 3 rfl) (by decide) (fun c3 => ?_) (fun c3 => ?_)
  · replace hf := z_t c3 hf
    refine lv_aload_n hx hb (zD_g DX6_game 13 rfl) rfl (lv_at hl 0 rfl) ?_
    refine lv_iconst (v := (0 : Int32)) hx hb (zD_g DX6_game 14 rfl) (by decide) ?_
    refine lv_bipush (v := (-10 : Int32)) hx hb (zD_g DX6_game 15 rfl) (by decide) ?_
    obtain ⟨r4, refused_5, hc6, hf⟩ := zb2_s hf
    refine z_Vm (As := [.int (0 : Int32), .int (-10 : Int32)]) (rest := []) (ws' := (cMod cI cZ q quiet mabove mbelow typed mat mstart mtoken mvalue many book images mkept aside refused_5 text items drawn row best)) ⟨hx, hb, hml, hown, hts⟩ hK (c6_refuses (quiet := quiet) (mabove := mabove) (mbelow := mbelow) (typed := typed) (mat := mat) (mstart := mstart) (mtoken := mtoken) (mvalue := mvalue) (many := many) (book := book) (images := images) (mkept := mkept) (aside := aside) (refused := refused) (text := text) (items := items) (drawn := drawn) (row := row) (best := best) (q := q) hc6) (cwV 2 hts gX6_game_X6_refuses rfl rfl rfl hd6_refuses ⟨Nat.le_of_ble_eq_true rfl, Nat.le_of_ble_eq_true rfl⟩) hP hD hS hA 11 [0, 1, 2, 3, 4, 5, 6, 7, 8, 9, 10] [] [0, 1, 2, 3, 4, 5, 6, 7, 8, 9, 10] (by decide +kernel) rfl rfl rfl rfl rfl rfl rfl hl.1 rfl rfl (Nat.le_of_ble_eq_true rfl) (zD_g DX6_game 16 rfl) ⟨Nat.zero_le _, Nat.zero_le _⟩ (fun H locs hP hD hS => ?_)
    cases hf
    exact hret _ _ _ _ hP hD hS (zD_g DX6_game 17 rfl)
  · replace hf := z_f c3 hf
    refine lv_iload_n hx hb (zD_g DX6_game 4 rfl) rfl (lv_at hl 2 rfl) ?_
    obtain ⟨r7, hc8, hf⟩ := zb1_s hf
    refine z_Sp (As := [.int a_hour]) (rest := []) ⟨hx, hb, hml, hown, hts⟩ hK (c6_isHour  hc8) (va_cwS 1 hts gX6_game_X6_isHour rfl rfl rfl hd6_isHour ⟨Nat.le_of_ble_eq_true rfl, Nat.le_of_ble_eq_true rfl⟩) (hP.sub [] rfl) rfl hl.1 rfl rfl (Nat.le_of_ble_eq_true rfl) (zD_g DX6_game 5 rfl) ⟨Nat.zero_le _, Nat.zero_le _⟩ ?_
    refine lv_if_eq (tgt := 25) hx hb (zD_g DX6_game 6 rfl) (by decide) (fun c9 => ?_) (fun c9 => ?_)
    · replace hf := z_t c9 hf
      refine lv_aload_n hx hb (zD_g DX6_game 13 rfl) rfl (lv_at hl 0 rfl) ?_
      refine lv_iconst (v := (0 : Int32)) hx hb (zD_g DX6_game 14 rfl) (by decide) ?_
      refine lv_bipush (v := (-10 : Int32)) hx hb (zD_g DX6_game 15 rfl) (by decide) ?_
      obtain ⟨r10, refused_11, hc12, hf⟩ := zb2_s hf
      refine z_Vm (As := [.int (0 : Int32), .int (-10 : Int32)]) (rest := []) (ws' := (cMod cI cZ q quiet mabove mbelow typed mat mstart mtoken mvalue many book images mkept aside refused_11 text items drawn row best)) ⟨hx, hb, hml, hown, hts⟩ hK (c6_refuses (quiet := quiet) (mabove := mabove) (mbelow := mbelow) (typed := typed) (mat := mat) (mstart := mstart) (mtoken := mtoken) (mvalue := mvalue) (many := many) (book := book) (images := images) (mkept := mkept) (aside := aside) (refused := refused) (text := text) (items := items) (drawn := drawn) (row := row) (best := best) (q := q) hc12) (cwV 2 hts gX6_game_X6_refuses rfl rfl rfl hd6_refuses ⟨Nat.le_of_ble_eq_true rfl, Nat.le_of_ble_eq_true rfl⟩) hP hD hS hA 11 [0, 1, 2, 3, 4, 5, 6, 7, 8, 9, 10] [] [0, 1, 2, 3, 4, 5, 6, 7, 8, 9, 10] (by decide +kernel) rfl rfl rfl rfl rfl rfl rfl hl.1 rfl rfl (Nat.le_of_ble_eq_true rfl) (zD_g DX6_game 16 rfl) ⟨Nat.zero_le _, Nat.zero_le _⟩ (fun H locs hP hD hS => ?_)
      cases hf
      exact hret _ _ _ _ hP hD hS (zD_g DX6_game 17 rfl)
    · replace hf := z_f c9 hf
      refine lv_iload_n hx hb (zD_g DX6_game 7 rfl) rfl (lv_at hl 3 rfl) ?_
      refine lv_i2l (v := (a_what).toInt64) hx hb (zD_g DX6_game 8 rfl) rfl ?_
      refine lv_lconst (v := (0 : Int64)) hx hb (zD_g DX6_game 9 rfl) (by decide) ?_
      refine lv_lconst (v := (1 : Int64)) hx hb (zD_g DX6_game 10 rfl) (by decide) ?_
      obtain ⟨r13, hc14, hf⟩ := zb1_s hf
      refine z_Sp (As := [.long ((a_what).toInt64), .long (0 : Int64), .long (1 : Int64)]) (rest := []) ⟨hx, hb, hml, hown, hts⟩ hK (c6_in  hc14) (va_cwS 3 hts gX6_game_X6_in rfl rfl rfl hd6_in ⟨Nat.le_of_ble_eq_true rfl, Nat.le_of_ble_eq_true rfl⟩) (hP.sub [] rfl) rfl hl.1 rfl rfl (Nat.le_of_ble_eq_true rfl) (zD_g DX6_game 11 rfl) ⟨Nat.zero_le _, Nat.zero_le _⟩ ?_
      refine lv_if_ne (tgt := 33) hx hb (zD_g DX6_game 12 rfl) (by decide) (fun c15 => ?_) (fun c15 => ?_)
      · replace hf := z_f c15 hf
        refine lv_aload_n hx hb (zD_g DX6_game 18 rfl) rfl (lv_at hl 0 rfl) ?_
        refine lv_iload_n hx hb (zD_g DX6_game 19 rfl) rfl (lv_at hl 1 rfl) ?_
        obtain ⟨r16, hc17, hf⟩ := zb1_s hf
        refine z_Vp (As := [.int a_g]) (rest := []) ⟨hx, hb, hml, hown, hts⟩ hK (c6_thingsIn (quiet := quiet) (mabove := mabove) (mbelow := mbelow) (typed := typed) (mat := mat) (mstart := mstart) (mtoken := mtoken) (mvalue := mvalue) (many := many) (book := book) (images := images) (mkept := mkept) (aside := aside) (refused := refused) (text := text) (items := items) (drawn := drawn) (row := row) (best := best) (q := q) hc17) (cwV 1 hts gX6_game_X6_thingsIn rfl rfl rfl hd6_thingsIn ⟨Nat.le_of_ble_eq_true rfl, Nat.le_of_ble_eq_true rfl⟩) hP rfl rfl rfl rfl hl.1 rfl rfl (Nat.le_of_ble_eq_true rfl) (zD_g DX6_game 20 rfl) ⟨Nat.zero_le _, Nat.zero_le _⟩ ?_
        obtain ⟨v19, hr68, hf⟩ := zb1_s hf
        have hJ68 : ∀ (H : Heap) (locs : List Loc), va_P D vwCl (cMod cI cZ q quiet mabove mbelow typed mat mstart mtoken mvalue many book images mkept aside refused text items drawn row best) H → va_D A (cMod cI cZ q quiet mabove mbelow typed mat mstart mtoken mvalue many book images mkept aside refused text items drawn row best) → va_S A s.heap H locs → ∀ (ls : Array Slot), lv_has ls 11 [(0, .ref (q 0)), (1, .int a_g), (2, .int a_hour), (3, .int a_what)] → W p l e rm6_game s m args below meth c H locs 0 0 Q (F0 m 46 ls [.int v19]) := by
          intro H locs hP hD hS ls hl
          refine lv_istore (lv' := [(4, .int v19), (0, .ref (q 0)), (1, .int a_g), (2, .int a_hour), (3, .int a_what)]) hx hb (zD_g DX6_game 25 rfl) hl (by decide) rfl (fun ls hl => ?_)
          refine lv_iconst (v := (0 : Int32)) hx hb (zD_g DX6_game 26 rfl) (by decide) ?_
          refine lv_istore (lv' := [(5, .int (0 : Int32)), (4, .int v19), (0, .ref (q 0)), (1, .int a_g), (2, .int a_hour), (3, .int a_what)]) hx hb (zD_g DX6_game 27 rfl) hl (by decide) rfl (fun ls hl => ?_)
          refine lv_iconst (v := (-1 : Int32)) hx hb (zD_g DX6_game 28 rfl) (by decide) ?_
          refine lv_istore (lv' := [(6, .int (-1 : Int32)), (5, .int (0 : Int32)), (4, .int v19), (0, .ref (q 0)), (1, .int a_g), (2, .int a_hour), (3, .int a_what)]) hx hb (zD_g DX6_game 29 rfl) hl (by decide) rfl (fun ls hl => ?_)
          refine lv_iconst (v := (0 : Int32)) hx hb (zD_g DX6_game 30 rfl) (by decide) ?_
          refine lv_istore (lv' := [(7, .int (0 : Int32)), (6, .int (-1 : Int32)), (5, .int (0 : Int32)), (4, .int v19), (0, .ref (q 0)), (1, .int a_g), (2, .int a_hour), (3, .int a_what)]) hx hb (zD_g DX6_game 31 rfl) hl (by decide) rfl (fun ls hl => ?_)
          have hL23 : ∀ (k23 : Int32 → Int32 → Option (Int32 × (Nat → Int32))) (hk23 : ∀ (y65 : Int32) (y66 : Int32), k23 y65 y66 = some (r, d_refused) → ∀ (H : Heap) (locs : List Loc), va_P D vwCl (cMod cI cZ q quiet mabove mbelow typed mat mstart mtoken mvalue many book images mkept aside refused text items drawn row best) H → va_D A (cMod cI cZ q quiet mabove mbelow typed mat mstart mtoken mvalue many book images mkept aside refused text items drawn row best) → va_S A s.heap H locs → ∀ (ls : Array Slot), lv_has ls 11 [(3, .int a_what), (5, .int y65), (6, .int y66)] → W p l e rm6_game s m args below meth c H locs 0 0 Q (F0 m 226 ls [])) (n23 : Nat) (y20 : Int32) (y21 : Int32) (y22 : Int32), L6_game_57 k23 book a_g a_hour v19 n23 y20 y21 y22 = some (r, d_refused) → ∀ (H : Heap) (locs : List Loc), va_P D vwCl (cMod cI cZ q quiet mabove mbelow typed mat mstart mtoken mvalue many book images mkept aside refused text items drawn row best) H → va_D A (cMod cI cZ q quiet mabove mbelow typed mat mstart mtoken mvalue many book images mkept aside refused text items drawn row best) → va_S A s.heap H locs → ∀ (ls : Array Slot), lv_has ls 11 [(0, .ref (q 0)), (1, .int a_g), (2, .int a_hour), (3, .int a_what), (4, .int v19), (5, .int y20), (6, .int y21), (7, .int y22)] → W p l e rm6_game s m args below meth c H locs 0 0 Q (F0 m 57 ls []) := by
            intro k23 hk23 n23
            induction n23 with
            | zero =>
              intro y20 y21 y22 hf
              cases hf
            | succ n23 ih23 =>
              intro y20 y21 y22 hf H locs hP hD hS ls hl
              rw [L6_game_57] at hf
              refine lv_iload hx hb (zD_g DX6_game 32 rfl) (lv_at hl 7 rfl) ?_
              refine lv_iconst (v := (2 : Int32)) hx hb (zD_g DX6_game 33 rfl) (by decide) ?_
              refine lv_icmp_ge (tgt := 226) hx hb (zD_g DX6_game 34 rfl) (by decide) (fun c24 => ?_) (fun c24 => ?_)
              · replace hf := z_t c24 hf
                exact hk23 _ _ hf _ _ hP hD hS ls (lv_sub hl [3, 5, 6] rfl)
              · replace hf := z_f c24 hf
                refine lv_iconst (v := (0 : Int32)) hx hb (zD_g DX6_game 35 rfl) (by decide) ?_
                refine lv_istore (lv' := [(8, .int (0 : Int32)), (0, .ref (q 0)), (1, .int a_g), (2, .int a_hour), (3, .int a_what), (4, .int v19), (5, .int y20), (6, .int y21), (7, .int y22)]) hx hb (zD_g DX6_game 36 rfl) hl (by decide) rfl (fun ls hl => ?_)
                have hL28 : ∀ (k28 : Int32 → Int32 → Option (Int32 × (Nat → Int32))) (hk28 : ∀ (y63 : Int32) (y64 : Int32), k28 y63 y64 = some (r, d_refused) → ∀ (H : Heap) (locs : List Loc), va_P D vwCl (cMod cI cZ q quiet mabove mbelow typed mat mstart mtoken mvalue many book images mkept aside refused text items drawn row best) H → va_D A (cMod cI cZ q quiet mabove mbelow typed mat mstart mtoken mvalue many book images mkept aside refused text items drawn row best) → va_S A s.heap H locs → ∀ (ls : Array Slot), lv_has ls 11 [(0, .ref (q 0)), (1, .int a_g), (2, .int a_hour), (3, .int a_what), (4, .int v19), (5, .int y63), (6, .int y64), (7, .int y22)] → W p l e rm6_game s m args below meth c H locs 0 0 Q (F0 m 220 ls [])) (n28 : Nat) (y25 : Int32) (y26 : Int32) (y27 : Int32), L6_game_66 k28 book a_g a_hour v19 y22 n28 y25 y26 y27 = some (r, d_refused) → ∀ (H : Heap) (locs : List Loc), va_P D vwCl (cMod cI cZ q quiet mabove mbelow typed mat mstart mtoken mvalue many book images mkept aside refused text items drawn row best) H → va_D A (cMod cI cZ q quiet mabove mbelow typed mat mstart mtoken mvalue many book images mkept aside refused text items drawn row best) → va_S A s.heap H locs → ∀ (ls : Array Slot), lv_has ls 11 [(0, .ref (q 0)), (1, .int a_g), (2, .int a_hour), (3, .int a_what), (4, .int v19), (5, .int y25), (6, .int y26), (7, .int y22), (8, .int y27)] → W p l e rm6_game s m args below meth c H locs 0 0 Q (F0 m 66 ls []) := by
                  intro k28 hk28 n28
                  induction n28 with
                  | zero =>
                    intro y25 y26 y27 hf
                    cases hf
                  | succ n28 ih28 =>
                    intro y25 y26 y27 hf H locs hP hD hS ls hl
                    rw [L6_game_66] at hf
                    refine lv_iload hx hb (zD_g DX6_game 37 rfl) (lv_at hl 8 rfl) ?_
                    refine lv_iconst (v := (3 : Int32)) hx hb (zD_g DX6_game 38 rfl) (by decide) ?_
                    refine lv_icmp_ge (tgt := 220) hx hb (zD_g DX6_game 39 rfl) (by decide) (fun c29 => ?_) (fun c29 => ?_)
                    · replace hf := z_t c29 hf
                      exact hk28 _ _ hf _ _ hP hD hS ls (lv_sub hl [0, 1, 2, 3, 4, 5, 6, 7] rfl)
                    · replace hf := z_f c29 hf
                      refine lv_iload hx hb (zD_g DX6_game 40 rfl) (lv_at hl 4 rfl) ?_
                      obtain ⟨v31, hr61, hf⟩ := zb1_s hf
                      have hJ61 : ∀ (H : Heap) (locs : List Loc), va_P D vwCl (cMod cI cZ q quiet mabove mbelow typed mat mstart mtoken mvalue many book images mkept aside refused text items drawn row best) H → va_D A (cMod cI cZ q quiet mabove mbelow typed mat mstart mtoken mvalue many book images mkept aside refused text items drawn row best) → va_S A s.heap H locs → ∀ (ls : Array Slot), lv_has ls 11 [(0, .ref (q 0)), (1, .int a_g), (2, .int a_hour), (3, .int a_what), (4, .int v19), (5, .int y25), (6, .int y26), (7, .int y22), (8, .int y27)] → W p l e rm6_game s m args below meth c H locs 0 0 Q (F0 m 87 ls [.int v31]) := by
                        intro H locs hP hD hS ls hl
                        refine lv_iload hx hb (zD_g DX6_game 47 rfl) (lv_at hl 8 rfl) ?_
                        obtain ⟨r32, hc33, hf⟩ := zb1_s hf
                        refine z_Sp (As := [.int v31, .int y27]) (rest := []) ⟨hx, hb, hml, hown, hts⟩ hK (c6_senderLoses  hc33) (va_cwS 2 hts gX6_game_X6_senderLoses rfl rfl rfl hd6_senderLoses ⟨Nat.le_of_ble_eq_true rfl, Nat.le_of_ble_eq_true rfl⟩) (hP.sub [] rfl) rfl hl.1 rfl rfl (Nat.le_of_ble_eq_true rfl) (zD_g DX6_game 48 rfl) ⟨Nat.zero_le _, Nat.zero_le _⟩ ?_
                        refine lv_iload hx hb (zD_g DX6_game 49 rfl) (lv_at hl 4 rfl) ?_
                        obtain ⟨v35, hr59, hf⟩ := zb1_s hf
                        have hJ59 : ∀ (H : Heap) (locs : List Loc), va_P D vwCl (cMod cI cZ q quiet mabove mbelow typed mat mstart mtoken mvalue many book images mkept aside refused text items drawn row best) H → va_D A (cMod cI cZ q quiet mabove mbelow typed mat mstart mtoken mvalue many book images mkept aside refused text items drawn row best) → va_S A s.heap H locs → ∀ (ls : Array Slot), lv_has ls 11 [(0, .ref (q 0)), (1, .int a_g), (2, .int a_hour), (3, .int a_what), (4, .int v19), (5, .int y25), (6, .int y26), (7, .int y22), (8, .int y27)] → W p l e rm6_game s m args below meth c H locs 0 0 Q (F0 m 108 ls [.int v35, .int r32]) := by
                          intro H locs hP hD hS ls hl
                          refine lv_iload hx hb (zD_g DX6_game 57 rfl) (lv_at hl 8 rfl) ?_
                          obtain ⟨r36, hc37, hf⟩ := zb1_s hf
                          refine z_Sp (As := [.int v35, .int y27]) (rest := [.int r32]) ⟨hx, hb, hml, hown, hts⟩ hK (c6_senderLoses  hc37) (va_cwS 2 hts gX6_game_X6_senderLoses rfl rfl rfl hd6_senderLoses ⟨Nat.le_of_ble_eq_true rfl, Nat.le_of_ble_eq_true rfl⟩) (hP.sub [] rfl) rfl hl.1 rfl rfl (Nat.le_of_ble_eq_true rfl) (zD_g DX6_game 58 rfl) ⟨Nat.zero_le _, Nat.zero_le _⟩ ?_
                          obtain ⟨v39, hr58, hf⟩ := zb1_s hf
                          have hJ58 : ∀ (H : Heap) (locs : List Loc), va_P D vwCl (cMod cI cZ q quiet mabove mbelow typed mat mstart mtoken mvalue many book images mkept aside refused text items drawn row best) H → va_D A (cMod cI cZ q quiet mabove mbelow typed mat mstart mtoken mvalue many book images mkept aside refused text items drawn row best) → va_S A s.heap H locs → ∀ (ls : Array Slot), lv_has ls 11 [(0, .ref (q 0)), (1, .int a_g), (2, .int a_hour), (3, .int a_what), (4, .int v19), (5, .int y25), (6, .int y26), (7, .int y22), (8, .int y27)] → W p l e rm6_game s m args below meth c H locs 0 0 Q (F0 m 121 ls [.int v39]) := by
                            intro H locs hP hD hS ls hl
                            refine lv_istore (lv' := [(9, .int v39), (0, .ref (q 0)), (1, .int a_g), (2, .int a_hour), (3, .int a_what), (4, .int v19), (5, .int y25), (6, .int y26), (7, .int y22), (8, .int y27)]) hx hb (zD_g DX6_game 63 rfl) hl (by decide) rfl (fun ls hl => ?_)
                            refine lv_iconst (v := (0 : Int32)) hx hb (zD_g DX6_game 64 rfl) (by decide) ?_
                            refine lv_istore (lv' := [(10, .int (0 : Int32)), (9, .int v39), (0, .ref (q 0)), (1, .int a_g), (2, .int a_hour), (3, .int a_what), (4, .int v19), (5, .int y25), (6, .int y26), (7, .int y22), (8, .int y27)]) hx hb (zD_g DX6_game 65 rfl) hl (by decide) rfl (fun ls hl => ?_)
                            have hL42 : ∀ (k42 : Int32 → Option (Int32 × (Nat → Int32))) (hk42 : ∀ (y50 : Int32), k42 y50 = some (r, d_refused) → ∀ (H : Heap) (locs : List Loc), va_P D vwCl (cMod cI cZ q quiet mabove mbelow typed mat mstart mtoken mvalue many book images mkept aside refused text items drawn row best) H → va_D A (cMod cI cZ q quiet mabove mbelow typed mat mstart mtoken mvalue many book images mkept aside refused text items drawn row best) → va_S A s.heap H locs → ∀ (ls : Array Slot), lv_has ls 11 [(0, .ref (q 0)), (1, .int a_g), (2, .int a_hour), (3, .int a_what), (4, .int v19), (5, .int y25), (6, .int y26), (7, .int y22), (8, .int y27), (9, .int y50)] → W p l e rm6_game s m args below meth c H locs 0 0 Q (F0 m 173 ls [])) (n42 : Nat) (y40 : Int32) (y41 : Int32), L6_game_126 k42 book a_g a_hour y22 y27 n42 y40 y41 = some (r, d_refused) → ∀ (H : Heap) (locs : List Loc), va_P D vwCl (cMod cI cZ q quiet mabove mbelow typed mat mstart mtoken mvalue many book images mkept aside refused text items drawn row best) H → va_D A (cMod cI cZ q quiet mabove mbelow typed mat mstart mtoken mvalue many book images mkept aside refused text items drawn row best) → va_S A s.heap H locs → ∀ (ls : Array Slot), lv_has ls 11 [(0, .ref (q 0)), (1, .int a_g), (2, .int a_hour), (3, .int a_what), (4, .int v19), (5, .int y25), (6, .int y26), (7, .int y22), (8, .int y27), (9, .int y40), (10, .int y41)] → W p l e rm6_game s m args below meth c H locs 0 0 Q (F0 m 126 ls []) := by
                              intro k42 hk42 n42
                              induction n42 with
                              | zero =>
                                intro y40 y41 hf
                                cases hf
                              | succ n42 ih42 =>
                                intro y40 y41 hf H locs hP hD hS ls hl
                                rw [L6_game_126] at hf
                                refine lv_iload hx hb (zD_g DX6_game 66 rfl) (lv_at hl 10 rfl) ?_
                                refine lv_iconst (v := (3 : Int32)) hx hb (zD_g DX6_game 67 rfl) (by decide) ?_
                                refine lv_icmp_ge (tgt := 173) hx hb (zD_g DX6_game 68 rfl) (by decide) (fun c43 => ?_) (fun c43 => ?_)
                                · replace hf := z_t c43 hf
                                  exact hk42 _ hf _ _ hP hD hS ls (lv_sub hl [0, 1, 2, 3, 4, 5, 6, 7, 8, 9] rfl)
                                · replace hf := z_f c43 hf
                                  refine lv_iload hx hb (zD_g DX6_game 69 rfl) (lv_at hl 9 rfl) ?_
                                  refine lv_if_eq (tgt := 164) hx hb (zD_g DX6_game 70 rfl) (by decide) (fun c44 => ?_) (fun c44 => ?_)
                                  · replace hf := z_t c44 hf
                                    refine lv_iconst (v := (0 : Int32)) hx hb (zD_g DX6_game 86 rfl) (by decide) ?_
                                    refine lv_istore (lv' := [(9, .int (0 : Int32)), (0, .ref (q 0)), (1, .int a_g), (2, .int a_hour), (3, .int a_what), (4, .int v19), (5, .int y25), (6, .int y26), (7, .int y22), (8, .int y27), (10, .int y41)]) hx hb (zD_g DX6_game 87 rfl) hl (by decide) rfl (fun ls hl => ?_)
                                    refine lv_iinc (v := y41 + 1) (lv' := [(10, .int (y41 + 1)), (9, .int (0 : Int32)), (0, .ref (q 0)), (1, .int a_g), (2, .int a_hour), (3, .int a_what), (4, .int v19), (5, .int y25), (6, .int y26), (7, .int y22), (8, .int y27)]) (k := 10) hx hb (zD_g DX6_game 88 rfl) hl rfl rfl (by decide) rfl (fun ls hl => ?_)
                                    refine lv_goto (tgt := 126) hx hb (zD_g DX6_game 89 rfl) (by decide) ?_
                                    exact ih42 _ _ hf _ _ hP hD hS ls (lv_sub hl [2, 3, 4, 5, 6, 7, 8, 9, 10, 1, 0] rfl)
                                  · replace hf := z_f c44 hf
                                    refine lv_aload_n hx hb (zD_g DX6_game 71 rfl) rfl (lv_at hl 0 rfl) ?_
                                    refine lv_iload_n hx hb (zD_g DX6_game 72 rfl) rfl (lv_at hl 1 rfl) ?_
                                    refine lv_iload_n hx hb (zD_g DX6_game 73 rfl) rfl (lv_at hl 2 rfl) ?_
                                    refine lv_iload hx hb (zD_g DX6_game 74 rfl) (lv_at hl 7 rfl) ?_
                                    refine lv_iload hx hb (zD_g DX6_game 75 rfl) (lv_at hl 8 rfl) ?_
                                    obtain ⟨r45, hc46, hf⟩ := zb1_s hf
                                    refine z_Vp (As := [.int a_g, .int a_hour, .int y22, .int y27]) (rest := []) ⟨hx, hb, hml, hown, hts⟩ hK (c6_takerLoses (quiet := quiet) (mabove := mabove) (mbelow := mbelow) (typed := typed) (mat := mat) (mstart := mstart) (mtoken := mtoken) (mvalue := mvalue) (many := many) (book := book) (images := images) (mkept := mkept) (aside := aside) (refused := refused) (text := text) (items := items) (drawn := drawn) (row := row) (best := best) (q := q) hc46) (cwV 4 hts gX6_game_X6_takerLoses rfl rfl rfl hd6_takerLoses ⟨Nat.le_of_ble_eq_true rfl, Nat.le_of_ble_eq_true rfl⟩) hP rfl rfl rfl rfl hl.1 rfl rfl (Nat.le_of_ble_eq_true rfl) (zD_g DX6_game 76 rfl) ⟨Nat.zero_le _, Nat.zero_le _⟩ ?_
                                    refine lv_aload_n hx hb (zD_g DX6_game 77 rfl) rfl (lv_at hl 0 rfl) ?_
                                    refine lv_iload_n hx hb (zD_g DX6_game 78 rfl) rfl (lv_at hl 1 rfl) ?_
                                    refine lv_iload_n hx hb (zD_g DX6_game 79 rfl) rfl (lv_at hl 2 rfl) ?_
                                    refine lv_iload hx hb (zD_g DX6_game 80 rfl) (lv_at hl 7 rfl) ?_
                                    refine lv_iload hx hb (zD_g DX6_game 81 rfl) (lv_at hl 10 rfl) ?_
                                    obtain ⟨r47, hc48, hf⟩ := zb1_s hf
                                    refine z_Vp (As := [.int a_g, .int a_hour, .int y22, .int y41]) (rest := [.int r45]) ⟨hx, hb, hml, hown, hts⟩ hK (c6_takerLoses (quiet := quiet) (mabove := mabove) (mbelow := mbelow) (typed := typed) (mat := mat) (mstart := mstart) (mtoken := mtoken) (mvalue := mvalue) (many := many) (book := book) (images := images) (mkept := mkept) (aside := aside) (refused := refused) (text := text) (items := items) (drawn := drawn) (row := row) (best := best) (q := q) hc48) (cwV 4 hts gX6_game_X6_takerLoses rfl rfl rfl hd6_takerLoses ⟨Nat.le_of_ble_eq_true rfl, Nat.le_of_ble_eq_true rfl⟩) hP rfl rfl rfl rfl hl.1 rfl rfl (Nat.le_of_ble_eq_true rfl) (zD_g DX6_game 82 rfl) ⟨Nat.zero_le _, Nat.zero_le _⟩ ?_
                                    refine lv_icmp_gt (tgt := 164) hx hb (zD_g DX6_game 83 rfl) (by decide) (fun c49 => ?_) (fun c49 => ?_)
                                    · replace hf := z_t c49 hf
                                      refine lv_iconst (v := (0 : Int32)) hx hb (zD_g DX6_game 86 rfl) (by decide) ?_
                                      refine lv_istore (lv' := [(9, .int (0 : Int32)), (0, .ref (q 0)), (1, .int a_g), (2, .int a_hour), (3, .int a_what), (4, .int v19), (5, .int y25), (6, .int y26), (7, .int y22), (8, .int y27), (10, .int y41)]) hx hb (zD_g DX6_game 87 rfl) hl (by decide) rfl (fun ls hl => ?_)
                                      refine lv_iinc (v := y41 + 1) (lv' := [(10, .int (y41 + 1)), (9, .int (0 : Int32)), (0, .ref (q 0)), (1, .int a_g), (2, .int a_hour), (3, .int a_what), (4, .int v19), (5, .int y25), (6, .int y26), (7, .int y22), (8, .int y27)]) (k := 10) hx hb (zD_g DX6_game 88 rfl) hl rfl rfl (by decide) rfl (fun ls hl => ?_)
                                      refine lv_goto (tgt := 126) hx hb (zD_g DX6_game 89 rfl) (by decide) ?_
                                      exact ih42 _ _ hf _ _ hP hD hS ls (lv_sub hl [2, 3, 4, 5, 6, 7, 8, 9, 10, 1, 0] rfl)
                                    · replace hf := z_f c49 hf
                                      refine lv_iconst (v := (1 : Int32)) hx hb (zD_g DX6_game 84 rfl) (by decide) ?_
                                      refine lv_goto (tgt := 165) hx hb (zD_g DX6_game 85 rfl) (by decide) ?_
                                      refine lv_istore (lv' := [(9, .int (1 : Int32)), (0, .ref (q 0)), (1, .int a_g), (2, .int a_hour), (3, .int a_what), (4, .int v19), (5, .int y25), (6, .int y26), (7, .int y22), (8, .int y27), (10, .int y41)]) hx hb (zD_g DX6_game 87 rfl) hl (by decide) rfl (fun ls hl => ?_)
                                      refine lv_iinc (v := y41 + 1) (lv' := [(10, .int (y41 + 1)), (9, .int (1 : Int32)), (0, .ref (q 0)), (1, .int a_g), (2, .int a_hour), (3, .int a_what), (4, .int v19), (5, .int y25), (6, .int y26), (7, .int y22), (8, .int y27)]) (k := 10) hx hb (zD_g DX6_game 88 rfl) hl rfl rfl (by decide) rfl (fun ls hl => ?_)
                                      refine lv_goto (tgt := 126) hx hb (zD_g DX6_game 89 rfl) (by decide) ?_
                                      exact ih42 _ _ hf _ _ hP hD hS ls (lv_sub hl [2, 3, 4, 5, 6, 7, 8, 9, 10, 1, 0] rfl)
                            refine hL42 _ (fun y50 hf H locs hP hD hS ls hl => ?_) _ _ _ hf _ _ hP hD hS ls (lv_sub hl [2, 3, 4, 5, 6, 7, 8, 9, 10, 1, 0] rfl)
                            refine lv_iload hx hb (zD_g DX6_game 90 rfl) (lv_at hl 5 rfl) ?_
                            refine lv_iload hx hb (zD_g DX6_game 91 rfl) (lv_at hl 9 rfl) ?_
                            obtain ⟨v52, hr57, hf⟩ := zb1_s hf
                            have hJ57 : ∀ (H : Heap) (locs : List Loc), va_P D vwCl (cMod cI cZ q quiet mabove mbelow typed mat mstart mtoken mvalue many book images mkept aside refused text items drawn row best) H → va_D A (cMod cI cZ q quiet mabove mbelow typed mat mstart mtoken mvalue many book images mkept aside refused text items drawn row best) → va_S A s.heap H locs → ∀ (ls : Array Slot), lv_has ls 11 [(0, .ref (q 0)), (1, .int a_g), (2, .int a_hour), (3, .int a_what), (4, .int v19), (6, .int y26), (7, .int y22), (8, .int y27), (9, .int y50)] → W p l e rm6_game s m args below meth c H locs 0 0 Q (F0 m 185 ls [.int v52, .int y25]) := by
                              intro H locs hP hD hS ls hl
                              refine lv_iadd hx hb (zD_g DX6_game 96 rfl) ?_
                              refine lv_topi (fun x53 ex53 => ?_)
                              replace hf := zl_s hf x53 ex53
                              refine lv_istore (lv' := [(5, .int x53), (0, .ref (q 0)), (1, .int a_g), (2, .int a_hour), (3, .int a_what), (4, .int v19), (6, .int y26), (7, .int y22), (8, .int y27), (9, .int y50)]) hx hb (zD_g DX6_game 97 rfl) hl (by decide) rfl (fun ls hl => ?_)
                              refine lv_iload hx hb (zD_g DX6_game 98 rfl) (lv_at hl 9 rfl) ?_
                              refine lv_if_eq (tgt := 210) hx hb (zD_g DX6_game 99 rfl) (by decide) (fun c54 => ?_) (fun c54 => ?_)
                              · replace hf := z_t c54 hf
                                refine lv_iload hx hb (zD_g DX6_game 109 rfl) (lv_at hl 6 rfl) ?_
                                refine lv_istore (lv' := [(6, .int y26), (5, .int x53), (0, .ref (q 0)), (1, .int a_g), (2, .int a_hour), (3, .int a_what), (4, .int v19), (7, .int y22), (8, .int y27), (9, .int y50)]) hx hb (zD_g DX6_game 110 rfl) hl (by decide) rfl (fun ls hl => ?_)
                                refine lv_iinc (v := y27 + 1) (lv' := [(8, .int (y27 + 1)), (6, .int y26), (5, .int x53), (0, .ref (q 0)), (1, .int a_g), (2, .int a_hour), (3, .int a_what), (4, .int v19), (7, .int y22), (9, .int y50)]) (k := 8) hx hb (zD_g DX6_game 111 rfl) hl rfl rfl (by decide) rfl (fun ls hl => ?_)
                                refine lv_goto (tgt := 66) hx hb (zD_g DX6_game 112 rfl) (by decide) ?_
                                exact ih28 _ _ _ hf _ _ hP hD hS ls (lv_sub hl [3, 4, 5, 6, 7, 2, 1, 8, 0] rfl)
                              · replace hf := z_f c54 hf
                                refine lv_iload hx hb (zD_g DX6_game 100 rfl) (lv_at hl 6 rfl) ?_
                                refine lv_iconst (v := (-1 : Int32)) hx hb (zD_g DX6_game 101 rfl) (by decide) ?_
                                refine lv_icmp_ne (tgt := 210) hx hb (zD_g DX6_game 102 rfl) (by decide) (fun c55 => ?_) (fun c55 => ?_)
                                · replace hf := z_f c55 hf
                                  refine lv_iload hx hb (zD_g DX6_game 109 rfl) (lv_at hl 6 rfl) ?_
                                  refine lv_istore (lv' := [(6, .int y26), (5, .int x53), (0, .ref (q 0)), (1, .int a_g), (2, .int a_hour), (3, .int a_what), (4, .int v19), (7, .int y22), (8, .int y27), (9, .int y50)]) hx hb (zD_g DX6_game 110 rfl) hl (by decide) rfl (fun ls hl => ?_)
                                  refine lv_iinc (v := y27 + 1) (lv' := [(8, .int (y27 + 1)), (6, .int y26), (5, .int x53), (0, .ref (q 0)), (1, .int a_g), (2, .int a_hour), (3, .int a_what), (4, .int v19), (7, .int y22), (9, .int y50)]) (k := 8) hx hb (zD_g DX6_game 111 rfl) hl rfl rfl (by decide) rfl (fun ls hl => ?_)
                                  refine lv_goto (tgt := 66) hx hb (zD_g DX6_game 112 rfl) (by decide) ?_
                                  exact ih28 _ _ _ hf _ _ hP hD hS ls (lv_sub hl [3, 4, 5, 6, 7, 2, 1, 8, 0] rfl)
                                · replace hf := z_t c55 hf
                                  refine lv_bipush (v := (10 : Int32)) hx hb (zD_g DX6_game 103 rfl) (by decide) ?_
                                  refine lv_iload hx hb (zD_g DX6_game 104 rfl) (lv_at hl 7 rfl) ?_
                                  refine lv_imul hx hb (zD_g DX6_game 105 rfl) ?_
                                  refine lv_iload hx hb (zD_g DX6_game 106 rfl) (lv_at hl 8 rfl) ?_
                                  refine lv_iadd hx hb (zD_g DX6_game 107 rfl) ?_
                                  refine lv_goto (tgt := 212) hx hb (zD_g DX6_game 108 rfl) (by decide) ?_
                                  refine lv_topi (fun x56 ex56 => ?_)
                                  replace hf := zl_s hf x56 ex56
                                  refine lv_istore (lv' := [(6, .int x56), (5, .int x53), (0, .ref (q 0)), (1, .int a_g), (2, .int a_hour), (3, .int a_what), (4, .int v19), (7, .int y22), (8, .int y27), (9, .int y50)]) hx hb (zD_g DX6_game 110 rfl) hl (by decide) rfl (fun ls hl => ?_)
                                  refine lv_iinc (v := y27 + 1) (lv' := [(8, .int (y27 + 1)), (6, .int x56), (5, .int x53), (0, .ref (q 0)), (1, .int a_g), (2, .int a_hour), (3, .int a_what), (4, .int v19), (7, .int y22), (9, .int y50)]) (k := 8) hx hb (zD_g DX6_game 111 rfl) hl rfl rfl (by decide) rfl (fun ls hl => ?_)
                                  refine lv_goto (tgt := 66) hx hb (zD_g DX6_game 112 rfl) (by decide) ?_
                                  exact ih28 _ _ _ hf _ _ hP hD hS ls (lv_sub hl [3, 4, 5, 6, 7, 2, 1, 8, 0] rfl)
                            clear hf
                            refine lv_if_eq (tgt := 184) hx hb (zD_g DX6_game 92 rfl) (by decide) (fun c51 => ?_) (fun c51 => ?_)
                            · have hf := z_t c51 hr57
                              refine lv_iconst (v := (0 : Int32)) hx hb (zD_g DX6_game 95 rfl) (by decide) ?_
                              cases hf
                              exact hJ57 _ _ hP hD hS ls (lv_sub hl [0, 1, 2, 3, 4, 6, 7, 8, 9] rfl)
                            · have hf := z_f c51 hr57
                              refine lv_iconst (v := (1 : Int32)) hx hb (zD_g DX6_game 93 rfl) (by decide) ?_
                              refine lv_goto (tgt := 185) hx hb (zD_g DX6_game 94 rfl) (by decide) ?_
                              cases hf
                              exact hJ57 _ _ hP hD hS ls (lv_sub hl [0, 1, 2, 3, 4, 6, 7, 8, 9] rfl)
                          clear hf
                          refine lv_icmp_gt (tgt := 120) hx hb (zD_g DX6_game 59 rfl) (by decide) (fun c38 => ?_) (fun c38 => ?_)
                          · have hf := z_t c38 hr58
                            refine lv_iconst (v := (0 : Int32)) hx hb (zD_g DX6_game 62 rfl) (by decide) ?_
                            cases hf
                            exact hJ58 _ _ hP hD hS ls (lv_sub hl [0, 1, 2, 3, 4, 5, 6, 7, 8] rfl)
                          · have hf := z_f c38 hr58
                            refine lv_iconst (v := (1 : Int32)) hx hb (zD_g DX6_game 60 rfl) (by decide) ?_
                            refine lv_goto (tgt := 121) hx hb (zD_g DX6_game 61 rfl) (by decide) ?_
                            cases hf
                            exact hJ58 _ _ hP hD hS ls (lv_sub hl [0, 1, 2, 3, 4, 5, 6, 7, 8] rfl)
                        clear hf
                        refine lv_if_eq (tgt := 107) hx hb (zD_g DX6_game 50 rfl) (by decide) (fun c34 => ?_) (fun c34 => ?_)
                        · have hf := z_t c34 hr59
                          refine lv_iconst (v := (0 : Int32)) hx hb (zD_g DX6_game 56 rfl) (by decide) ?_
                          cases hf
                          exact hJ59 _ _ hP hD hS ls (lv_sub hl [0, 1, 2, 3, 4, 5, 6, 7, 8] rfl)
                        · have hf := z_f c34 hr59
                          refine lv_iload hx hb (zD_g DX6_game 51 rfl) (lv_at hl 7 rfl) ?_
                          refine lv_iconst (v := (1 : Int32)) hx hb (zD_g DX6_game 52 rfl) (by decide) ?_
                          refine lv_icmp_ne (tgt := 107) hx hb (zD_g DX6_game 53 rfl) (by decide) (fun c60 => ?_) (fun c60 => ?_)
                          · replace hf := z_f c60 hf
                            refine lv_iconst (v := (0 : Int32)) hx hb (zD_g DX6_game 56 rfl) (by decide) ?_
                            cases hf
                            exact hJ59 _ _ hP hD hS ls (lv_sub hl [0, 1, 2, 3, 4, 5, 6, 7, 8] rfl)
                          · replace hf := z_t c60 hf
                            refine lv_iconst (v := (1 : Int32)) hx hb (zD_g DX6_game 54 rfl) (by decide) ?_
                            refine lv_goto (tgt := 108) hx hb (zD_g DX6_game 55 rfl) (by decide) ?_
                            cases hf
                            exact hJ59 _ _ hP hD hS ls (lv_sub hl [0, 1, 2, 3, 4, 5, 6, 7, 8] rfl)
                      clear hf
                      refine lv_if_eq (tgt := 86) hx hb (zD_g DX6_game 41 rfl) (by decide) (fun c30 => ?_) (fun c30 => ?_)
                      · have hf := z_t c30 hr61
                        refine lv_iconst (v := (0 : Int32)) hx hb (zD_g DX6_game 46 rfl) (by decide) ?_
                        cases hf
                        exact hJ61 _ _ hP hD hS ls (lv_sub hl [0, 1, 2, 3, 4, 5, 6, 7, 8] rfl)
                      · have hf := z_f c30 hr61
                        refine lv_iload hx hb (zD_g DX6_game 42 rfl) (lv_at hl 7 rfl) ?_
                        refine lv_if_ne (tgt := 86) hx hb (zD_g DX6_game 43 rfl) (by decide) (fun c62 => ?_) (fun c62 => ?_)
                        · replace hf := z_f c62 hf
                          refine lv_iconst (v := (0 : Int32)) hx hb (zD_g DX6_game 46 rfl) (by decide) ?_
                          cases hf
                          exact hJ61 _ _ hP hD hS ls (lv_sub hl [0, 1, 2, 3, 4, 5, 6, 7, 8] rfl)
                        · replace hf := z_t c62 hf
                          refine lv_iconst (v := (1 : Int32)) hx hb (zD_g DX6_game 44 rfl) (by decide) ?_
                          refine lv_goto (tgt := 87) hx hb (zD_g DX6_game 45 rfl) (by decide) ?_
                          cases hf
                          exact hJ61 _ _ hP hD hS ls (lv_sub hl [0, 1, 2, 3, 4, 5, 6, 7, 8] rfl)
                refine hL28 _ (fun y63 y64 hf H locs hP hD hS ls hl => ?_) _ _ _ _ hf _ _ hP hD hS ls (lv_sub hl [1, 2, 3, 4, 5, 6, 7, 8, 0] rfl)
                refine lv_iinc (v := y22 + 1) (lv' := [(7, .int (y22 + 1)), (0, .ref (q 0)), (1, .int a_g), (2, .int a_hour), (3, .int a_what), (4, .int v19), (5, .int y63), (6, .int y64)]) (k := 7) hx hb (zD_g DX6_game 113 rfl) hl rfl rfl (by decide) rfl (fun ls hl => ?_)
                refine lv_goto (tgt := 57) hx hb (zD_g DX6_game 114 rfl) (by decide) ?_
                exact ih23 _ _ _ hf _ _ hP hD hS ls (lv_sub hl [1, 2, 3, 4, 5, 6, 7, 0] rfl)
          refine hL23 _ (fun y65 y66 hf H locs hP hD hS ls hl => ?_) _ _ _ _ hf _ _ hP hD hS ls (lv_sub hl [4, 5, 6, 7, 3, 2, 1, 0] rfl)
          refine lv_iload_n hx hb (zD_g DX6_game 115 rfl) rfl (lv_at hl 0 rfl) ?_
          refine lv_if_ne (tgt := 235) hx hb (zD_g DX6_game 116 rfl) (by decide) (fun c67 => ?_) (fun c67 => ?_)
          · replace hf := z_f c67 hf
            refine lv_iload hx hb (zD_g DX6_game 119 rfl) (lv_at hl 2 rfl) ?_
            cases hf
            exact hret _ _ _ _ hP hD hS (zD_g DX6_game 120 rfl)
          · replace hf := z_t c67 hf
            refine lv_iload hx hb (zD_g DX6_game 117 rfl) (lv_at hl 1 rfl) ?_
            refine lv_goto (tgt := 237) hx hb (zD_g DX6_game 118 rfl) (by decide) ?_
            cases hf
            exact hret _ _ _ _ hP hD hS (zD_g DX6_game 120 rfl)
        clear hf
        refine lv_if_eq (tgt := 45) hx hb (zD_g DX6_game 21 rfl) (by decide) (fun c18 => ?_) (fun c18 => ?_)
        · have hf := z_t c18 hr68
          refine lv_iconst (v := (0 : Int32)) hx hb (zD_g DX6_game 24 rfl) (by decide) ?_
          cases hf
          exact hJ68 _ _ hP hD hS ls (lv_sub hl [0, 1, 2, 3] rfl)
        · have hf := z_f c18 hr68
          refine lv_iconst (v := (1 : Int32)) hx hb (zD_g DX6_game 22 rfl) (by decide) ?_
          refine lv_goto (tgt := 46) hx hb (zD_g DX6_game 23 rfl) (by decide) ?_
          cases hf
          exact hJ68 _ _ hP hD hS ls (lv_sub hl [0, 1, 2, 3] rfl)
      · replace hf := z_t c15 hf
        refine lv_aload_n hx hb (zD_g DX6_game 13 rfl) rfl (lv_at hl 0 rfl) ?_
        refine lv_iconst (v := (0 : Int32)) hx hb (zD_g DX6_game 14 rfl) (by decide) ?_
        refine lv_bipush (v := (-10 : Int32)) hx hb (zD_g DX6_game 15 rfl) (by decide) ?_
        obtain ⟨r69, refused_70, hc71, hf⟩ := zb2_s hf
        refine z_Vm (As := [.int (0 : Int32), .int (-10 : Int32)]) (rest := []) (ws' := (cMod cI cZ q quiet mabove mbelow typed mat mstart mtoken mvalue many book images mkept aside refused_70 text items drawn row best)) ⟨hx, hb, hml, hown, hts⟩ hK (c6_refuses (quiet := quiet) (mabove := mabove) (mbelow := mbelow) (typed := typed) (mat := mat) (mstart := mstart) (mtoken := mtoken) (mvalue := mvalue) (many := many) (book := book) (images := images) (mkept := mkept) (aside := aside) (refused := refused) (text := text) (items := items) (drawn := drawn) (row := row) (best := best) (q := q) hc71) (cwV 2 hts gX6_game_X6_refuses rfl rfl rfl hd6_refuses ⟨Nat.le_of_ble_eq_true rfl, Nat.le_of_ble_eq_true rfl⟩) hP hD hS hA 11 [0, 1, 2, 3, 4, 5, 6, 7, 8, 9, 10] [] [0, 1, 2, 3, 4, 5, 6, 7, 8, 9, 10] (by decide +kernel) rfl rfl rfl rfl rfl rfl rfl hl.1 rfl rfl (Nat.le_of_ble_eq_true rfl) (zD_g DX6_game 16 rfl) ⟨Nat.zero_le _, Nat.zero_le _⟩ (fun H locs hP hD hS => ?_)
        cases hf
        exact hret _ _ _ _ hP hD hS (zD_g DX6_game 17 rfl)
theorem hd6_game : yX6_game.cls = RX6 ∧ yX6_game.cls ≠ "java/lang/invoke/MethodHandle" ∧ yX6_game.cls ≠ "java/lang/invoke/VarHandle" ∧ (parseMethodDescriptor yX6_game.desc).map (fun d => d.parameters.length) = some 3 := by decide +kernel
abbrev dlX6_stand : List (Nat × Instr × Nat) := [(0, .aload_n 0, 1), (1, .iload_n 1, 1), (2, .invokevirtual 84, 3), (5, .ifCond .eq 13, 3), (8, .iload_n 2, 1), (9, .i2l, 1), (10, .lconst 0, 1), (11, .lconst 1, 1), (12, .invokestatic 56, 3), (15, .ifCond .ne 8, 3), (18, .aload_n 0, 1), (19, .invokevirtual 66, 3), (22, .ireturn, 1), (23, .aload_n 0, 1), (24, .iload_n 1, 1), (25, .invokevirtual 87, 3), (28, .istore_n 3, 1), (29, .iconst 0, 1), (30, .istore 4, 2), (32, .iconst 1, 1), (33, .istore 5, 2), (35, .iload 5, 2), (37, .bipush 6, 2), (39, .if_icmp .ge 37, 3), (42, .aload_n 0, 1), (43, .iload_n 1, 1), (44, .iload_n 3, 1), (45, .iload 5, 2), (47, .invokevirtual 206, 3), (50, .aload_n 0, 1), (51, .iload_n 1, 1), (52, .iload_n 3, 1), (53, .iload 4, 2), (55, .invokevirtual 206, 3), (58, .if_icmp .ge 8, 3), (61, .iload 5, 2), (63, .goto 5, 3), (66, .iload 4, 2), (68, .istore 4, 2), (70, .iinc 5 1, 3), (73, .goto (-38), 3), (76, .iload_n 2, 1), (77, .ifCond .ne 8, 3), (80, .iload 4, 2), (82, .goto 11, 3), (85, .aload_n 0, 1), (86, .iload_n 1, 1), (87, .iload_n 3, 1), (88, .iload 4, 2), (90, .invokevirtual 206, 3), (93, .ireturn, 1)]
theorem DX6_stand : zD cX6_stand dlX6_stand = true := by decide +kernel
set_option maxRecDepth 20000 in
theorem ggX6_stand_X6_isGift : GoodIn wsX6_stand wsX6_isGift := goodIn_r _ [5, 6, 7, 8, 4, 9, 40, 41, 42, 43, 44, 45, 46, 47, 48, 49, 50, 51, 52, 53, 54, 55, 56, 57, 58] (by decide +kernel) (by decide +kernel)
set_option maxRecDepth 20000 in
theorem gX6_stand_X6_isGift : GoodIn wsX6_stand (wsV RX6 84 RX6 yX6_isGift wsX6_isGift) := goodIn_app (goodIn_of _ (by decide +kernel)) ggX6_stand_X6_isGift
set_option maxRecDepth 20000 in
theorem ggX6_stand_X6_in : GoodIn wsX6_stand wsX6_in := goodIn_r _ [9] (by decide +kernel) (by decide +kernel)
set_option maxRecDepth 20000 in
theorem gX6_stand_X6_in : GoodIn wsX6_stand (va_wsS RX6 56 yX6_in wsX6_in) := goodIn_app (goodIn_of _ (by decide +kernel)) ggX6_stand_X6_in
set_option maxRecDepth 20000 in
theorem ggX6_stand_X6_bad : GoodIn wsX6_stand wsX6_bad := goodIn_r _ [13, 14, 15, 16, 4, 17, 18, 19, 40, 41, 42, 43, 44, 45, 46, 47, 48, 49, 50, 51, 52, 53, 54, 55, 56, 57, 58] (by decide +kernel) (by decide +kernel)
set_option maxRecDepth 20000 in
theorem gX6_stand_X6_bad : GoodIn wsX6_stand (wsV RX6 66 RX6 yX6_bad wsX6_bad) := goodIn_app (goodIn_of _ (by decide +kernel)) ggX6_stand_X6_bad
set_option maxRecDepth 20000 in
theorem ggX6_stand_X6_thingsIn : GoodIn wsX6_stand wsX6_thingsIn := goodIn_r _ [23, 6, 40, 41, 42, 43, 44, 45, 46, 47, 48, 49, 50, 51, 52, 53, 54, 55, 56, 57, 58] (by decide +kernel) (by decide +kernel)
set_option maxRecDepth 20000 in
theorem gX6_stand_X6_thingsIn : GoodIn wsX6_stand (wsV RX6 87 RX6 yX6_thingsIn wsX6_thingsIn) := goodIn_app (goodIn_of _ (by decide +kernel)) ggX6_stand_X6_thingsIn
set_option maxRecDepth 20000 in
theorem ggX6_stand_X6_loses : GoodIn wsX6_stand wsX6_loses := goodIn_r _ [27, 6, 28, 29, 30, 4, 31, 32, 33, 34, 35, 36, 37, 38, 39, 40, 41, 42, 43, 44, 45, 46, 47, 48, 49, 50, 51, 52, 53, 54, 55, 56, 57, 58] (by decide +kernel) (by decide +kernel)
set_option maxRecDepth 20000 in
theorem gX6_stand_X6_loses : GoodIn wsX6_stand (wsV RX6 206 RX6 yX6_loses wsX6_loses) := goodIn_app (goodIn_of _ (by decide +kernel)) ggX6_stand_X6_loses
def L6_stand_35 (k14 : Int32 → Option (Int32 × (Nat → Int32)))  (book : Nat → Int32) (a_g : Int32) (r10 : Int32) : Nat → Int32 → Int32 → Option (Int32 × (Nat → Int32))
  | 0, _, _ => none
  | n14 + 1, y12, y13 => if (6 : Int32) ≤ y13 then k14 y12 else zb1 (f6_loses book a_g r10 y13) (fun r16 => zb1 (f6_loses book a_g r10 y12) (fun r18 => if r18 ≤ r16 then L6_stand_35 k14 book a_g r10 n14 y12 (y13 + 1) else L6_stand_35 k14 book a_g r10 n14 y13 (y13 + 1)))
def f6_stand (quiet : Int32) (book : Nat → Int32) (refused : Nat → Int32) (a_g : Int32) (a_what : Int32) : Option (Int32 × (Nat → Int32)) := zb1 (f6_isGift book a_g) (fun r1 => if r1 = 0 then zb2 (f6_bad quiet refused) (fun r4 refused_5 => some (r4, refused_5)) else zb1 (f6_in ((a_what).toInt64) (0 : Int64) (1 : Int64)) (fun r7 => if r7 = 0 then zb2 (f6_bad quiet refused) (fun r25 refused_26 => some (r25, refused_26)) else zb1 (f6_thingsIn book a_g) (fun r10 => L6_stand_35 (fun y21 => if a_what = 0 then some (y21, refused) else zb1 (f6_loses book a_g r10 y21) (fun r23 => some (r23, refused))) book a_g r10 FU (0 : Int32) (1 : Int32))))
abbrev rm6_stand : Room := { frames := 3, cells := 0, slots := 0, locals := 73 }
set_option maxHeartbeats 4000000 in
set_option maxRecDepth 100000 in
theorem c6_stand {l : Launch} {D : va_G} {cI cZ cB : ClassId} {q : Nat → Nat} {sz : Nat} {quiet : Int32} {mabove : Int64} {mbelow : Int64} {typed : Int32} {mat : Int32} {mstart : Int32} {mtoken : Int32} {mvalue : Int32} {many : Int32} {book : Nat → Int32} {images : Nat → Int32} {mkept : Nat → Int32} {aside : Nat → Int32} {refused : Nat → Int32} {text : Nat → Int32} {items : Nat → Int32} {drawn : Nat → Int32} {row : Nat → Int32} {best : Nat → Int32} {a_g : Int32} {a_what : Int32} {r : Int32} {d_refused : Nat → Int32} (hf : f6_stand quiet book refused a_g a_what = some (r, d_refused)) : Met l yX6_stand wsX6_stand rm6_stand (zPm D cI cZ cB [.ref (q 0), .int a_g, .int a_what] sz (cMod cI cZ q quiet mabove mbelow typed mat mstart mtoken mvalue many book images mkept aside refused text items drawn row best)) (zQm D (some (.int r)) (cMod cI cZ q quiet mabove mbelow typed mat mstart mtoken mvalue many book images mkept aside d_refused text items drawn row best) (va_A (cMod cI cZ q quiet mabove mbelow typed mat mstart mtoken mvalue many book images mkept aside refused text items drawn row best) sz)) 0 0 (va_A (cMod cI cZ q quiet mabove mbelow typed mat mstart mtoken mvalue many book images mkept aside refused text items drawn row best) sz) := by
  unfold f6_stand at hf
  refine z_mutI RX6 (by decide +kernel) rfl rfl (Nat.le_of_ble_eq_true rfl) ?_
  intro p e s m args below meth c Q A ls hx hb hml hown hts hK hP hD hS hA hret hl
  have hl : lv_has ls 6 [(0, .ref (q 0)), (1, .int a_g), (2, .int a_what)] := hl
  refine lv_aload_n hx hb (zD_g DX6_stand 0 rfl) rfl (lv_at hl 0 rfl) ?_
  refine lv_iload_n hx hb (zD_g DX6_stand 1 rfl) rfl (lv_at hl 1 rfl) ?_
  obtain ⟨r1, hc2, hf⟩ := zb1_s hf
  refine z_Vp (As := [.int a_g]) (rest := []) ⟨hx, hb, hml, hown, hts⟩ hK (c6_isGift (quiet := quiet) (mabove := mabove) (mbelow := mbelow) (typed := typed) (mat := mat) (mstart := mstart) (mtoken := mtoken) (mvalue := mvalue) (many := many) (book := book) (images := images) (mkept := mkept) (aside := aside) (refused := refused) (text := text) (items := items) (drawn := drawn) (row := row) (best := best) (q := q) hc2) (cwV 1 hts gX6_stand_X6_isGift rfl rfl rfl hd6_isGift ⟨Nat.le_of_ble_eq_true rfl, Nat.le_of_ble_eq_true rfl⟩) hP rfl rfl rfl rfl hl.1 rfl rfl (Nat.le_of_ble_eq_true rfl) (zD_g DX6_stand 2 rfl) ⟨Nat.zero_le _, Nat.zero_le _⟩ ?_
  refine lv_if_eq (tgt := 18) hx hb (zD_g DX6_stand 3 rfl) (by decide) (fun c3 => ?_) (fun c3 => ?_)
  · replace hf := z_t c3 hf
    refine lv_aload_n hx hb (zD_g DX6_stand 10 rfl) rfl (lv_at hl 0 rfl) ?_
    obtain ⟨r4, refused_5, hc6, hf⟩ := zb2_s hf
    refine z_Vm (As := []) (rest := []) (ws' := (cMod cI cZ q quiet mabove mbelow typed mat mstart mtoken mvalue many book images mkept aside refused_5 text items drawn row best)) ⟨hx, hb, hml, hown, hts⟩ hK (c6_bad (quiet := quiet) (mabove := mabove) (mbelow := mbelow) (typed := typed) (mat := mat) (mstart := mstart) (mtoken := mtoken) (mvalue := mvalue) (many := many) (book := book) (images := images) (mkept := mkept) (aside := aside) (refused := refused) (text := text) (items := items) (drawn := drawn) (row := row) (best := best) (q := q) hc6) (cwV 0 hts gX6_stand_X6_bad rfl rfl rfl hd6_bad ⟨Nat.le_of_ble_eq_true rfl, Nat.le_of_ble_eq_true rfl⟩) hP hD hS hA 11 [0, 1, 2, 3, 4, 5, 6, 7, 8, 9, 10] [] [0, 1, 2, 3, 4, 5, 6, 7, 8, 9, 10] (by decide +kernel) rfl rfl rfl rfl rfl rfl rfl hl.1 rfl rfl (Nat.le_of_ble_eq_true rfl) (zD_g DX6_stand 11 rfl) ⟨Nat.zero_le _, Nat.zero_le _⟩ (fun H locs hP hD hS => ?_)
    cases hf
    exact hret _ _ _ _ hP hD hS (zD_g DX6_stand 12 rfl)
  · replace hf := z_f c3 hf
    refine lv_iload_n hx hb (zD_g DX6_stand 4 rfl) rfl (lv_at hl 2 rfl) ?_
    refine lv_i2l (v := (a_what).toInt64) hx hb (zD_g DX6_stand 5 rfl) rfl ?_
    refine lv_lconst (v := (0 : Int64)) hx hb (zD_g DX6_stand 6 rfl) (by decide) ?_
    refine lv_lconst (v := (1 : Int64)) hx hb (zD_g DX6_stand 7 rfl) (by decide) ?_
    obtain ⟨r7, hc8, hf⟩ := zb1_s hf
    refine z_Sp (As := [.long ((a_what).toInt64), .long (0 : Int64), .long (1 : Int64)]) (rest := []) ⟨hx, hb, hml, hown, hts⟩ hK (c6_in  hc8) (va_cwS 3 hts gX6_stand_X6_in rfl rfl rfl hd6_in ⟨Nat.le_of_ble_eq_true rfl, Nat.le_of_ble_eq_true rfl⟩) (hP.sub [] rfl) rfl hl.1 rfl rfl (Nat.le_of_ble_eq_true rfl) (zD_g DX6_stand 8 rfl) ⟨Nat.zero_le _, Nat.zero_le _⟩ ?_
    refine lv_if_ne (tgt := 23) hx hb (zD_g DX6_stand 9 rfl) (by decide) (fun c9 => ?_) (fun c9 => ?_)
    · replace hf := z_f c9 hf
      refine lv_aload_n hx hb (zD_g DX6_stand 13 rfl) rfl (lv_at hl 0 rfl) ?_
      refine lv_iload_n hx hb (zD_g DX6_stand 14 rfl) rfl (lv_at hl 1 rfl) ?_
      obtain ⟨r10, hc11, hf⟩ := zb1_s hf
      refine z_Vp (As := [.int a_g]) (rest := []) ⟨hx, hb, hml, hown, hts⟩ hK (c6_thingsIn (quiet := quiet) (mabove := mabove) (mbelow := mbelow) (typed := typed) (mat := mat) (mstart := mstart) (mtoken := mtoken) (mvalue := mvalue) (many := many) (book := book) (images := images) (mkept := mkept) (aside := aside) (refused := refused) (text := text) (items := items) (drawn := drawn) (row := row) (best := best) (q := q) hc11) (cwV 1 hts gX6_stand_X6_thingsIn rfl rfl rfl hd6_thingsIn ⟨Nat.le_of_ble_eq_true rfl, Nat.le_of_ble_eq_true rfl⟩) hP rfl rfl rfl rfl hl.1 rfl rfl (Nat.le_of_ble_eq_true rfl) (zD_g DX6_stand 15 rfl) ⟨Nat.zero_le _, Nat.zero_le _⟩ ?_
      refine lv_istore_n (lv' := [(3, .int r10), (0, .ref (q 0)), (1, .int a_g), (2, .int a_what)]) hx hb (zD_g DX6_stand 16 rfl) rfl hl (by decide) rfl (fun ls hl => ?_)
      refine lv_iconst (v := (0 : Int32)) hx hb (zD_g DX6_stand 17 rfl) (by decide) ?_
      refine lv_istore (lv' := [(4, .int (0 : Int32)), (3, .int r10), (0, .ref (q 0)), (1, .int a_g), (2, .int a_what)]) hx hb (zD_g DX6_stand 18 rfl) hl (by decide) rfl (fun ls hl => ?_)
      refine lv_iconst (v := (1 : Int32)) hx hb (zD_g DX6_stand 19 rfl) (by decide) ?_
      refine lv_istore (lv' := [(5, .int (1 : Int32)), (4, .int (0 : Int32)), (3, .int r10), (0, .ref (q 0)), (1, .int a_g), (2, .int a_what)]) hx hb (zD_g DX6_stand 20 rfl) hl (by decide) rfl (fun ls hl => ?_)
      have hL14 : ∀ (k14 : Int32 → Option (Int32 × (Nat → Int32))) (hk14 : ∀ (y21 : Int32), k14 y21 = some (r, d_refused) → ∀ (H : Heap) (locs : List Loc), va_P D vwCl (cMod cI cZ q quiet mabove mbelow typed mat mstart mtoken mvalue many book images mkept aside refused text items drawn row best) H → va_D A (cMod cI cZ q quiet mabove mbelow typed mat mstart mtoken mvalue many book images mkept aside refused text items drawn row best) → va_S A s.heap H locs → ∀ (ls : Array Slot), lv_has ls 6 [(0, .ref (q 0)), (1, .int a_g), (2, .int a_what), (3, .int r10), (4, .int y21)] → W p l e rm6_stand s m args below meth c H locs 0 0 Q (F0 m 76 ls [])) (n14 : Nat) (y12 : Int32) (y13 : Int32), L6_stand_35 k14 book a_g r10 n14 y12 y13 = some (r, d_refused) → ∀ (H : Heap) (locs : List Loc), va_P D vwCl (cMod cI cZ q quiet mabove mbelow typed mat mstart mtoken mvalue many book images mkept aside refused text items drawn row best) H → va_D A (cMod cI cZ q quiet mabove mbelow typed mat mstart mtoken mvalue many book images mkept aside refused text items drawn row best) → va_S A s.heap H locs → ∀ (ls : Array Slot), lv_has ls 6 [(0, .ref (q 0)), (1, .int a_g), (2, .int a_what), (3, .int r10), (4, .int y12), (5, .int y13)] → W p l e rm6_stand s m args below meth c H locs 0 0 Q (F0 m 35 ls []) := by
        intro k14 hk14 n14
        induction n14 with
        | zero =>
          intro y12 y13 hf
          cases hf
        | succ n14 ih14 =>
          intro y12 y13 hf H locs hP hD hS ls hl
          rw [L6_stand_35] at hf
          refine lv_iload hx hb (zD_g DX6_stand 21 rfl) (lv_at hl 5 rfl) ?_
          refine lv_bipush (v := (6 : Int32)) hx hb (zD_g DX6_stand 22 rfl) (by decide) ?_
          refine lv_icmp_ge (tgt := 76) hx hb (zD_g DX6_stand 23 rfl) (by decide) (fun c15 => ?_) (fun c15 => ?_)
          · replace hf := z_t c15 hf
            exact hk14 _ hf _ _ hP hD hS ls (lv_sub hl [0, 1, 2, 3, 4] rfl)
          · replace hf := z_f c15 hf
            refine lv_aload_n hx hb (zD_g DX6_stand 24 rfl) rfl (lv_at hl 0 rfl) ?_
            refine lv_iload_n hx hb (zD_g DX6_stand 25 rfl) rfl (lv_at hl 1 rfl) ?_
            refine lv_iload_n hx hb (zD_g DX6_stand 26 rfl) rfl (lv_at hl 3 rfl) ?_
            refine lv_iload hx hb (zD_g DX6_stand 27 rfl) (lv_at hl 5 rfl) ?_
            obtain ⟨r16, hc17, hf⟩ := zb1_s hf
            refine z_Vp (As := [.int a_g, .int r10, .int y13]) (rest := []) ⟨hx, hb, hml, hown, hts⟩ hK (c6_loses (quiet := quiet) (mabove := mabove) (mbelow := mbelow) (typed := typed) (mat := mat) (mstart := mstart) (mtoken := mtoken) (mvalue := mvalue) (many := many) (book := book) (images := images) (mkept := mkept) (aside := aside) (refused := refused) (text := text) (items := items) (drawn := drawn) (row := row) (best := best) (q := q) hc17) (cwV 3 hts gX6_stand_X6_loses rfl rfl rfl hd6_loses ⟨Nat.le_of_ble_eq_true rfl, Nat.le_of_ble_eq_true rfl⟩) hP rfl rfl rfl rfl hl.1 rfl rfl (Nat.le_of_ble_eq_true rfl) (zD_g DX6_stand 28 rfl) ⟨Nat.zero_le _, Nat.zero_le _⟩ ?_
            refine lv_aload_n hx hb (zD_g DX6_stand 29 rfl) rfl (lv_at hl 0 rfl) ?_
            refine lv_iload_n hx hb (zD_g DX6_stand 30 rfl) rfl (lv_at hl 1 rfl) ?_
            refine lv_iload_n hx hb (zD_g DX6_stand 31 rfl) rfl (lv_at hl 3 rfl) ?_
            refine lv_iload hx hb (zD_g DX6_stand 32 rfl) (lv_at hl 4 rfl) ?_
            obtain ⟨r18, hc19, hf⟩ := zb1_s hf
            refine z_Vp (As := [.int a_g, .int r10, .int y12]) (rest := [.int r16]) ⟨hx, hb, hml, hown, hts⟩ hK (c6_loses (quiet := quiet) (mabove := mabove) (mbelow := mbelow) (typed := typed) (mat := mat) (mstart := mstart) (mtoken := mtoken) (mvalue := mvalue) (many := many) (book := book) (images := images) (mkept := mkept) (aside := aside) (refused := refused) (text := text) (items := items) (drawn := drawn) (row := row) (best := best) (q := q) hc19) (cwV 3 hts gX6_stand_X6_loses rfl rfl rfl hd6_loses ⟨Nat.le_of_ble_eq_true rfl, Nat.le_of_ble_eq_true rfl⟩) hP rfl rfl rfl rfl hl.1 rfl rfl (Nat.le_of_ble_eq_true rfl) (zD_g DX6_stand 33 rfl) ⟨Nat.zero_le _, Nat.zero_le _⟩ ?_
            refine lv_icmp_ge (tgt := 66) hx hb (zD_g DX6_stand 34 rfl) (by decide) (fun c20 => ?_) (fun c20 => ?_)
            · replace hf := z_t c20 hf
              refine lv_iload hx hb (zD_g DX6_stand 37 rfl) (lv_at hl 4 rfl) ?_
              refine lv_istore (lv' := [(4, .int y12), (0, .ref (q 0)), (1, .int a_g), (2, .int a_what), (3, .int r10), (5, .int y13)]) hx hb (zD_g DX6_stand 38 rfl) hl (by decide) rfl (fun ls hl => ?_)
              refine lv_iinc (v := y13 + 1) (lv' := [(5, .int (y13 + 1)), (4, .int y12), (0, .ref (q 0)), (1, .int a_g), (2, .int a_what), (3, .int r10)]) (k := 5) hx hb (zD_g DX6_stand 39 rfl) hl rfl rfl (by decide) rfl (fun ls hl => ?_)
              refine lv_goto (tgt := 35) hx hb (zD_g DX6_stand 40 rfl) (by decide) ?_
              exact ih14 _ _ hf _ _ hP hD hS ls (lv_sub hl [2, 3, 4, 5, 1, 0] rfl)
            · replace hf := z_f c20 hf
              refine lv_iload hx hb (zD_g DX6_stand 35 rfl) (lv_at hl 5 rfl) ?_
              refine lv_goto (tgt := 68) hx hb (zD_g DX6_stand 36 rfl) (by decide) ?_
              refine lv_istore (lv' := [(4, .int y13), (0, .ref (q 0)), (1, .int a_g), (2, .int a_what), (3, .int r10), (5, .int y13)]) hx hb (zD_g DX6_stand 38 rfl) hl (by decide) rfl (fun ls hl => ?_)
              refine lv_iinc (v := y13 + 1) (lv' := [(5, .int (y13 + 1)), (4, .int y13), (0, .ref (q 0)), (1, .int a_g), (2, .int a_what), (3, .int r10)]) (k := 5) hx hb (zD_g DX6_stand 39 rfl) hl rfl rfl (by decide) rfl (fun ls hl => ?_)
              refine lv_goto (tgt := 35) hx hb (zD_g DX6_stand 40 rfl) (by decide) ?_
              exact ih14 _ _ hf _ _ hP hD hS ls (lv_sub hl [2, 3, 4, 5, 1, 0] rfl)
      refine hL14 _ (fun y21 hf H locs hP hD hS ls hl => ?_) _ _ _ hf _ _ hP hD hS ls (lv_sub hl [3, 4, 5, 2, 1, 0] rfl)
      refine lv_iload_n hx hb (zD_g DX6_stand 41 rfl) rfl (lv_at hl 2 rfl) ?_
      refine lv_if_ne (tgt := 85) hx hb (zD_g DX6_stand 42 rfl) (by decide) (fun c22 => ?_) (fun c22 => ?_)
      · replace hf := z_f c22 hf
        refine lv_aload_n hx hb (zD_g DX6_stand 45 rfl) rfl (lv_at hl 0 rfl) ?_
        refine lv_iload_n hx hb (zD_g DX6_stand 46 rfl) rfl (lv_at hl 1 rfl) ?_
        refine lv_iload_n hx hb (zD_g DX6_stand 47 rfl) rfl (lv_at hl 3 rfl) ?_
        refine lv_iload hx hb (zD_g DX6_stand 48 rfl) (lv_at hl 4 rfl) ?_
        obtain ⟨r23, hc24, hf⟩ := zb1_s hf
        refine z_Vp (As := [.int a_g, .int r10, .int y21]) (rest := []) ⟨hx, hb, hml, hown, hts⟩ hK (c6_loses (quiet := quiet) (mabove := mabove) (mbelow := mbelow) (typed := typed) (mat := mat) (mstart := mstart) (mtoken := mtoken) (mvalue := mvalue) (many := many) (book := book) (images := images) (mkept := mkept) (aside := aside) (refused := refused) (text := text) (items := items) (drawn := drawn) (row := row) (best := best) (q := q) hc24) (cwV 3 hts gX6_stand_X6_loses rfl rfl rfl hd6_loses ⟨Nat.le_of_ble_eq_true rfl, Nat.le_of_ble_eq_true rfl⟩) hP rfl rfl rfl rfl hl.1 rfl rfl (Nat.le_of_ble_eq_true rfl) (zD_g DX6_stand 49 rfl) ⟨Nat.zero_le _, Nat.zero_le _⟩ ?_
        cases hf
        exact hret _ _ _ _ hP hD hS (zD_g DX6_stand 50 rfl)
      · replace hf := z_t c22 hf
        refine lv_iload hx hb (zD_g DX6_stand 43 rfl) (lv_at hl 4 rfl) ?_
        refine lv_goto (tgt := 93) hx hb (zD_g DX6_stand 44 rfl) (by decide) ?_
        cases hf
        exact hret _ _ _ _ hP hD hS (zD_g DX6_stand 50 rfl)
    · replace hf := z_t c9 hf
      refine lv_aload_n hx hb (zD_g DX6_stand 10 rfl) rfl (lv_at hl 0 rfl) ?_
      obtain ⟨r25, refused_26, hc27, hf⟩ := zb2_s hf
      refine z_Vm (As := []) (rest := []) (ws' := (cMod cI cZ q quiet mabove mbelow typed mat mstart mtoken mvalue many book images mkept aside refused_26 text items drawn row best)) ⟨hx, hb, hml, hown, hts⟩ hK (c6_bad (quiet := quiet) (mabove := mabove) (mbelow := mbelow) (typed := typed) (mat := mat) (mstart := mstart) (mtoken := mtoken) (mvalue := mvalue) (many := many) (book := book) (images := images) (mkept := mkept) (aside := aside) (refused := refused) (text := text) (items := items) (drawn := drawn) (row := row) (best := best) (q := q) hc27) (cwV 0 hts gX6_stand_X6_bad rfl rfl rfl hd6_bad ⟨Nat.le_of_ble_eq_true rfl, Nat.le_of_ble_eq_true rfl⟩) hP hD hS hA 11 [0, 1, 2, 3, 4, 5, 6, 7, 8, 9, 10] [] [0, 1, 2, 3, 4, 5, 6, 7, 8, 9, 10] (by decide +kernel) rfl rfl rfl rfl rfl rfl rfl hl.1 rfl rfl (Nat.le_of_ble_eq_true rfl) (zD_g DX6_stand 11 rfl) ⟨Nat.zero_le _, Nat.zero_le _⟩ (fun H locs hP hD hS => ?_)
      cases hf
      exact hret _ _ _ _ hP hD hS (zD_g DX6_stand 12 rfl)
theorem hd6_stand : yX6_stand.cls = RX6 ∧ yX6_stand.cls ≠ "java/lang/invoke/MethodHandle" ∧ yX6_stand.cls ≠ "java/lang/invoke/VarHandle" ∧ (parseMethodDescriptor yX6_stand.desc).map (fun d => d.parameters.length) = some 2 := by decide +kernel
abbrev dlX6_tell : List (Nat × Instr × Nat) := [(0, .aload_n 0, 1), (1, .iload_n 1, 1), (2, .invokevirtual 84, 3), (5, .ifCond .eq 27, 3), (8, .iload_n 2, 1), (9, .i2l, 1), (10, .lconst 0, 1), (11, .ldc2_w 241, 3), (14, .invokestatic 56, 3), (17, .ifCond .eq 15, 3), (20, .aload_n 0, 1), (21, .bipush 62, 2), (23, .iload_n 1, 1), (24, .iadd, 1), (25, .iload_n 2, 1), (26, .invokevirtual 100, 3), (29, .goto 7, 3), (32, .aload_n 0, 1), (33, .invokevirtual 66, 3), (36, .ireturn, 1)]
theorem DX6_tell : zD cX6_tell dlX6_tell = true := by decide +kernel
set_option maxRecDepth 20000 in
theorem ggX6_tell_X6_isGift : GoodIn wsX6_tell wsX6_isGift := goodIn_r _ [6, 7, 8, 9, 5, 10, 25, 26, 27, 28, 29, 30, 31, 32, 33, 34, 35, 36, 37, 38, 39, 40, 41, 42, 43] (by decide +kernel) (by decide +kernel)
set_option maxRecDepth 20000 in
theorem gX6_tell_X6_isGift : GoodIn wsX6_tell (wsV RX6 84 RX6 yX6_isGift wsX6_isGift) := goodIn_app (goodIn_of _ (by decide +kernel)) ggX6_tell_X6_isGift
set_option maxRecDepth 20000 in
theorem ggX6_tell_X6_in : GoodIn wsX6_tell wsX6_in := goodIn_r _ [10] (by decide +kernel) (by decide +kernel)
set_option maxRecDepth 20000 in
theorem gX6_tell_X6_in : GoodIn wsX6_tell (va_wsS RX6 56 yX6_in wsX6_in) := goodIn_app (goodIn_of _ (by decide +kernel)) ggX6_tell_X6_in
set_option maxRecDepth 20000 in
theorem ggX6_tell_X6_puts : GoodIn wsX6_tell wsX6_puts := goodIn_r _ [14, 7, 25, 26, 27, 28, 29, 30, 31, 32, 33, 34, 35, 36, 37, 38, 39, 40, 41, 42, 43] (by decide +kernel) (by decide +kernel)
set_option maxRecDepth 20000 in
theorem gX6_tell_X6_puts : GoodIn wsX6_tell (wsV RX6 100 RX6 yX6_puts wsX6_puts) := goodIn_app (goodIn_of _ (by decide +kernel)) ggX6_tell_X6_puts
set_option maxRecDepth 20000 in
theorem ggX6_tell_X6_bad : GoodIn wsX6_tell wsX6_bad := goodIn_r _ [18, 19, 20, 21, 5, 22, 23, 24, 25, 26, 27, 28, 29, 30, 31, 32, 33, 34, 35, 36, 37, 38, 39, 40, 41, 42, 43] (by decide +kernel) (by decide +kernel)
set_option maxRecDepth 20000 in
theorem gX6_tell_X6_bad : GoodIn wsX6_tell (wsV RX6 66 RX6 yX6_bad wsX6_bad) := goodIn_app (goodIn_of _ (by decide +kernel)) ggX6_tell_X6_bad
def f6_tell (quiet : Int32) (book : Nat → Int32) (refused : Nat → Int32) (a_g : Int32) (a_n : Int32) : Option (Int32 × (Nat → Int32) × (Nat → Int32)) := zb1 (f6_isGift book a_g) (fun r1 => if r1 = 0 then zb2 (f6_bad quiet refused) (fun r4 refused_5 => some (r4, book, refused_5)) else zb1 (f6_in ((a_n).toInt64) (0 : Int64) (99 : Int64)) (fun r7 => if r7 = 0 then zb2 (f6_bad quiet refused) (fun r10 refused_11 => some (r10, book, refused_11)) else zb2 (f6_puts book ((62 : Int32) + a_g) a_n) (fun r13 book_14 => some (r13, book_14, refused))))
abbrev rm6_tell : Room := { frames := 2, cells := 0, slots := 0, locals := 46 }
set_option maxHeartbeats 4000000 in
set_option maxRecDepth 100000 in
theorem c6_tell {l : Launch} {D : va_G} {cI cZ cB : ClassId} {q : Nat → Nat} {sz : Nat} {quiet : Int32} {mabove : Int64} {mbelow : Int64} {typed : Int32} {mat : Int32} {mstart : Int32} {mtoken : Int32} {mvalue : Int32} {many : Int32} {book : Nat → Int32} {images : Nat → Int32} {mkept : Nat → Int32} {aside : Nat → Int32} {refused : Nat → Int32} {text : Nat → Int32} {items : Nat → Int32} {drawn : Nat → Int32} {row : Nat → Int32} {best : Nat → Int32} {a_g : Int32} {a_n : Int32} {r : Int32} {d_book : Nat → Int32} {d_refused : Nat → Int32} (hf : f6_tell quiet book refused a_g a_n = some (r, d_book, d_refused)) : Met l yX6_tell wsX6_tell rm6_tell (zPm D cI cZ cB [.ref (q 0), .int a_g, .int a_n] sz (cMod cI cZ q quiet mabove mbelow typed mat mstart mtoken mvalue many book images mkept aside refused text items drawn row best)) (zQm D (some (.int r)) (cMod cI cZ q quiet mabove mbelow typed mat mstart mtoken mvalue many d_book images mkept aside d_refused text items drawn row best) (va_A (cMod cI cZ q quiet mabove mbelow typed mat mstart mtoken mvalue many book images mkept aside refused text items drawn row best) sz)) 0 0 (va_A (cMod cI cZ q quiet mabove mbelow typed mat mstart mtoken mvalue many book images mkept aside refused text items drawn row best) sz) := by
  unfold f6_tell at hf
  refine z_mutI RX6 (by decide +kernel) rfl rfl (Nat.le_of_ble_eq_true rfl) ?_
  intro p e s m args below meth c Q A ls hx hb hml hown hts hK hP hD hS hA hret hl
  have hl : lv_has ls 3 [(0, .ref (q 0)), (1, .int a_g), (2, .int a_n)] := hl
  refine lv_aload_n hx hb (zD_g DX6_tell 0 rfl) rfl (lv_at hl 0 rfl) ?_
  refine lv_iload_n hx hb (zD_g DX6_tell 1 rfl) rfl (lv_at hl 1 rfl) ?_
  obtain ⟨r1, hc2, hf⟩ := zb1_s hf
  refine z_Vp (As := [.int a_g]) (rest := []) ⟨hx, hb, hml, hown, hts⟩ hK (c6_isGift (quiet := quiet) (mabove := mabove) (mbelow := mbelow) (typed := typed) (mat := mat) (mstart := mstart) (mtoken := mtoken) (mvalue := mvalue) (many := many) (book := book) (images := images) (mkept := mkept) (aside := aside) (refused := refused) (text := text) (items := items) (drawn := drawn) (row := row) (best := best) (q := q) hc2) (cwV 1 hts gX6_tell_X6_isGift rfl rfl rfl hd6_isGift ⟨Nat.le_of_ble_eq_true rfl, Nat.le_of_ble_eq_true rfl⟩) hP rfl rfl rfl rfl hl.1 rfl rfl (Nat.le_of_ble_eq_true rfl) (zD_g DX6_tell 2 rfl) ⟨Nat.zero_le _, Nat.zero_le _⟩ ?_
  refine lv_if_eq (tgt := 32) hx hb (zD_g DX6_tell 3 rfl) (by decide) (fun c3 => ?_) (fun c3 => ?_)
  · replace hf := z_t c3 hf
    refine lv_aload_n hx hb (zD_g DX6_tell 17 rfl) rfl (lv_at hl 0 rfl) ?_
    obtain ⟨r4, refused_5, hc6, hf⟩ := zb2_s hf
    refine z_Vm (As := []) (rest := []) (ws' := (cMod cI cZ q quiet mabove mbelow typed mat mstart mtoken mvalue many book images mkept aside refused_5 text items drawn row best)) ⟨hx, hb, hml, hown, hts⟩ hK (c6_bad (quiet := quiet) (mabove := mabove) (mbelow := mbelow) (typed := typed) (mat := mat) (mstart := mstart) (mtoken := mtoken) (mvalue := mvalue) (many := many) (book := book) (images := images) (mkept := mkept) (aside := aside) (refused := refused) (text := text) (items := items) (drawn := drawn) (row := row) (best := best) (q := q) hc6) (cwV 0 hts gX6_tell_X6_bad rfl rfl rfl hd6_bad ⟨Nat.le_of_ble_eq_true rfl, Nat.le_of_ble_eq_true rfl⟩) hP hD hS hA 11 [0, 1, 2, 3, 4, 5, 6, 7, 8, 9, 10] [] [0, 1, 2, 3, 4, 5, 6, 7, 8, 9, 10] (by decide +kernel) rfl rfl rfl rfl rfl rfl rfl hl.1 rfl rfl (Nat.le_of_ble_eq_true rfl) (zD_g DX6_tell 18 rfl) ⟨Nat.zero_le _, Nat.zero_le _⟩ (fun H locs hP hD hS => ?_)
    cases hf
    exact hret _ _ _ _ hP hD hS (zD_g DX6_tell 19 rfl)
  · replace hf := z_f c3 hf
    refine lv_iload_n hx hb (zD_g DX6_tell 4 rfl) rfl (lv_at hl 2 rfl) ?_
    refine lv_i2l (v := (a_n).toInt64) hx hb (zD_g DX6_tell 5 rfl) rfl ?_
    refine lv_lconst (v := (0 : Int64)) hx hb (zD_g DX6_tell 6 rfl) (by decide) ?_
    refine lv_ldc2 (v := (99 : Int64)) hx hb hown (hts _ (List.mem_of_getElem? (i := 1) rfl)) (zD_g DX6_tell 7 rfl) ?_
    obtain ⟨r7, hc8, hf⟩ := zb1_s hf
    refine z_Sp (As := [.long ((a_n).toInt64), .long (0 : Int64), .long (99 : Int64)]) (rest := []) ⟨hx, hb, hml, hown, hts⟩ hK (c6_in  hc8) (va_cwS 3 hts gX6_tell_X6_in rfl rfl rfl hd6_in ⟨Nat.le_of_ble_eq_true rfl, Nat.le_of_ble_eq_true rfl⟩) (hP.sub [] rfl) rfl hl.1 rfl rfl (Nat.le_of_ble_eq_true rfl) (zD_g DX6_tell 8 rfl) ⟨Nat.zero_le _, Nat.zero_le _⟩ ?_
    refine lv_if_eq (tgt := 32) hx hb (zD_g DX6_tell 9 rfl) (by decide) (fun c9 => ?_) (fun c9 => ?_)
    · replace hf := z_t c9 hf
      refine lv_aload_n hx hb (zD_g DX6_tell 17 rfl) rfl (lv_at hl 0 rfl) ?_
      obtain ⟨r10, refused_11, hc12, hf⟩ := zb2_s hf
      refine z_Vm (As := []) (rest := []) (ws' := (cMod cI cZ q quiet mabove mbelow typed mat mstart mtoken mvalue many book images mkept aside refused_11 text items drawn row best)) ⟨hx, hb, hml, hown, hts⟩ hK (c6_bad (quiet := quiet) (mabove := mabove) (mbelow := mbelow) (typed := typed) (mat := mat) (mstart := mstart) (mtoken := mtoken) (mvalue := mvalue) (many := many) (book := book) (images := images) (mkept := mkept) (aside := aside) (refused := refused) (text := text) (items := items) (drawn := drawn) (row := row) (best := best) (q := q) hc12) (cwV 0 hts gX6_tell_X6_bad rfl rfl rfl hd6_bad ⟨Nat.le_of_ble_eq_true rfl, Nat.le_of_ble_eq_true rfl⟩) hP hD hS hA 11 [0, 1, 2, 3, 4, 5, 6, 7, 8, 9, 10] [] [0, 1, 2, 3, 4, 5, 6, 7, 8, 9, 10] (by decide +kernel) rfl rfl rfl rfl rfl rfl rfl hl.1 rfl rfl (Nat.le_of_ble_eq_true rfl) (zD_g DX6_tell 18 rfl) ⟨Nat.zero_le _, Nat.zero_le _⟩ (fun H locs hP hD hS => ?_)
      cases hf
      exact hret _ _ _ _ hP hD hS (zD_g DX6_tell 19 rfl)
    · replace hf := z_f c9 hf
      refine lv_aload_n hx hb (zD_g DX6_tell 10 rfl) rfl (lv_at hl 0 rfl) ?_
      refine lv_bipush (v := (62 : Int32)) hx hb (zD_g DX6_tell 11 rfl) (by decide) ?_
      refine lv_iload_n hx hb (zD_g DX6_tell 12 rfl) rfl (lv_at hl 1 rfl) ?_
      refine lv_iadd hx hb (zD_g DX6_tell 13 rfl) ?_
      refine lv_iload_n hx hb (zD_g DX6_tell 14 rfl) rfl (lv_at hl 2 rfl) ?_
      obtain ⟨r13, book_14, hc15, hf⟩ := zb2_s hf
      refine z_Vm (As := [.int ((62 : Int32) + a_g), .int a_n]) (rest := []) (ws' := (cMod cI cZ q quiet mabove mbelow typed mat mstart mtoken mvalue many book_14 images mkept aside refused text items drawn row best)) ⟨hx, hb, hml, hown, hts⟩ hK (c6_puts (quiet := quiet) (mabove := mabove) (mbelow := mbelow) (typed := typed) (mat := mat) (mstart := mstart) (mtoken := mtoken) (mvalue := mvalue) (many := many) (book := book) (images := images) (mkept := mkept) (aside := aside) (refused := refused) (text := text) (items := items) (drawn := drawn) (row := row) (best := best) (q := q) hc15) (cwV 2 hts gX6_tell_X6_puts rfl rfl rfl hd6_puts ⟨Nat.le_of_ble_eq_true rfl, Nat.le_of_ble_eq_true rfl⟩) hP hD hS hA 11 [0, 1, 2, 3, 4, 5, 6, 7, 8, 9, 10] [] [0, 1, 2, 3, 4, 5, 6, 7, 8, 9, 10] (by decide +kernel) rfl rfl rfl rfl rfl rfl rfl hl.1 rfl rfl (Nat.le_of_ble_eq_true rfl) (zD_g DX6_tell 15 rfl) ⟨Nat.zero_le _, Nat.zero_le _⟩ (fun H locs hP hD hS => ?_)
      refine lv_goto (tgt := 36) hx hb (zD_g DX6_tell 16 rfl) (by decide) ?_
      cases hf
      exact hret _ _ _ _ hP hD hS (zD_g DX6_tell 19 rfl)
theorem hd6_tell : yX6_tell.cls = RX6 ∧ yX6_tell.cls ≠ "java/lang/invoke/MethodHandle" ∧ yX6_tell.cls ≠ "java/lang/invoke/VarHandle" ∧ (parseMethodDescriptor yX6_tell.desc).map (fun d => d.parameters.length) = some 2 := by decide +kernel
abbrev dlX6_sat : List (Nat × Instr × Nat) := [(0, .aload_n 0, 1), (1, .iload_n 1, 1), (2, .invokevirtual 81, 3), (5, .ifCond .eq 10, 3), (8, .iload_n 2, 1), (9, .invokestatic 105, 3), (12, .ifCond .ne 8, 3), (15, .aload_n 0, 1), (16, .invokevirtual 66, 3), (19, .ireturn, 1), (20, .aload_n 0, 1), (21, .getfield 7, 3), (24, .bipush 36, 2), (26, .iload_n 1, 1), (27, .iadd, 1), (28, .iaload, 1), (29, .iconst (-1), 1), (30, .if_icmp .eq 8, 3), (33, .aload_n 0, 1), (34, .invokevirtual 94, 3), (37, .ireturn, 1), (38, .iconst 0, 1), (39, .istore_n 3, 1), (40, .iconst 0, 1), (41, .istore 4, 2), (43, .iload 4, 2), (45, .aload_n 0, 1), (46, .getfield 7, 3), (49, .iconst 1, 1), (50, .iaload, 1), (51, .if_icmp .ge 105, 3), (54, .iconst 1, 1), (55, .istore 5, 2), (57, .iconst 0, 1), (58, .istore 6, 2), (60, .iload 6, 2), (62, .aload_n 0, 1), (63, .getfield 7, 3), (66, .iconst 1, 1), (67, .iaload, 1), (68, .if_icmp .ge 66, 3), (71, .aload_n 0, 1), (72, .iload 6, 2), (74, .invokevirtual 87, 3), (77, .iload 6, 2), (79, .iload 4, 2), (81, .if_icmp .ne 9, 3), (84, .iconst 1, 1), (85, .iload_n 1, 1), (86, .ishl, 1), (87, .goto 4, 3), (90, .iconst 0, 1), (91, .ior, 1), (92, .istore 7, 2), (94, .iload 5, 2), (96, .ifCond .eq 29, 3), (99, .aload_n 0, 1), (100, .iload 6, 2), (102, .iload 7, 2), (104, .iload_n 2, 1), (105, .invokevirtual 206, 3), (108, .aload_n 0, 1), (109, .getfield 7, 3), (112, .bipush 62, 2), (114, .iload 6, 2), (116, .iadd, 1), (117, .iaload, 1), (118, .if_icmp .ne 7, 3), (121, .iconst 1, 1), (122, .goto 4, 3), (125, .iconst 0, 1), (126, .istore 5, 2), (128, .iinc 6 1, 3), (131, .goto (-71), 3), (134, .iload_n 3, 1), (135, .iload 5, 2), (137, .ifCond .eq 10, 3), (140, .iconst 1, 1), (141, .iload 4, 2), (143, .ishl, 1), (144, .goto 4, 3), (147, .iconst 0, 1), (148, .ior, 1), (149, .istore_n 3, 1), (150, .iinc 4 1, 3), (153, .goto (-110), 3), (156, .iload_n 3, 1), (157, .ireturn, 1)]
theorem DX6_sat : zD cX6_sat dlX6_sat = true := by decide +kernel
set_option maxRecDepth 20000 in
theorem ggX6_sat_X6_isThing : GoodIn wsX6_sat wsX6_isThing := goodIn_r _ [6, 1, 7, 8, 5, 9, 48, 49, 50, 51, 52, 53, 54, 55, 56, 57, 58, 59, 60, 61, 62, 63, 64, 65, 66] (by decide +kernel) (by decide +kernel)
set_option maxRecDepth 20000 in
theorem gX6_sat_X6_isThing : GoodIn wsX6_sat (wsV RX6 81 RX6 yX6_isThing wsX6_isThing) := goodIn_app (goodIn_of _ (by decide +kernel)) ggX6_sat_X6_isThing
set_option maxRecDepth 20000 in
theorem ggX6_sat_X6_isHour : GoodIn wsX6_sat wsX6_isHour := goodIn_r _ [12, 13, 7, 8, 5, 9] (by decide +kernel) (by decide +kernel)
set_option maxRecDepth 20000 in
theorem gX6_sat_X6_isHour : GoodIn wsX6_sat (va_wsS RX6 105 yX6_isHour wsX6_isHour) := goodIn_app (goodIn_of _ (by decide +kernel)) ggX6_sat_X6_isHour
set_option maxRecDepth 20000 in
theorem ggX6_sat_X6_bad : GoodIn wsX6_sat wsX6_bad := goodIn_r _ [17, 18, 19, 20, 5, 21, 22, 23, 48, 49, 50, 51, 52, 53, 54, 55, 56, 57, 58, 59, 60, 61, 62, 63, 64, 65, 66] (by decide +kernel) (by decide +kernel)
set_option maxRecDepth 20000 in
theorem gX6_sat_X6_bad : GoodIn wsX6_sat (wsV RX6 66 RX6 yX6_bad wsX6_bad) := goodIn_app (goodIn_of _ (by decide +kernel)) ggX6_sat_X6_bad
set_option maxRecDepth 20000 in
theorem ggX6_sat_X6_no : GoodIn wsX6_sat wsX6_no := goodIn_r _ [27, 18, 19, 20, 5, 21, 22, 23, 48, 49, 50, 51, 52, 53, 54, 55, 56, 57, 58, 59, 60, 61, 62, 63, 64, 65, 66] (by decide +kernel) (by decide +kernel)
set_option maxRecDepth 20000 in
theorem gX6_sat_X6_no : GoodIn wsX6_sat (wsV RX6 94 RX6 yX6_no wsX6_no) := goodIn_app (goodIn_of _ (by decide +kernel)) ggX6_sat_X6_no
set_option maxRecDepth 20000 in
theorem ggX6_sat_X6_thingsIn : GoodIn wsX6_sat wsX6_thingsIn := goodIn_r _ [31, 1, 48, 49, 50, 51, 52, 53, 54, 55, 56, 57, 58, 59, 60, 61, 62, 63, 64, 65, 66] (by decide +kernel) (by decide +kernel)
set_option maxRecDepth 20000 in
theorem gX6_sat_X6_thingsIn : GoodIn wsX6_sat (wsV RX6 87 RX6 yX6_thingsIn wsX6_thingsIn) := goodIn_app (goodIn_of _ (by decide +kernel)) ggX6_sat_X6_thingsIn
set_option maxRecDepth 20000 in
theorem ggX6_sat_X6_loses : GoodIn wsX6_sat wsX6_loses := goodIn_r _ [35, 1, 36, 37, 38, 5, 39, 40, 41, 42, 43, 44, 45, 46, 47, 48, 49, 50, 51, 52, 53, 54, 55, 56, 57, 58, 59, 60, 61, 62, 63, 64, 65, 66] (by decide +kernel) (by decide +kernel)
set_option maxRecDepth 20000 in
theorem gX6_sat_X6_loses : GoodIn wsX6_sat (wsV RX6 206 RX6 yX6_loses wsX6_loses) := goodIn_app (goodIn_of _ (by decide +kernel)) ggX6_sat_X6_loses
def L6_sat_60 (k18 : Int32 → Option (Int32 × (Nat → Int32)))  (book : Nat → Int32) (a_t : Int32) (a_hour : Int32) (y13 : Int32) : Nat → Int32 → Int32 → Option (Int32 × (Nat → Int32))
  | 0, _, _ => none
  | n18 + 1, y16, y17 => if (book 1) ≤ y17 then k18 y16 else zb1 (f6_thingsIn book y17) (fun r20 => zb1 (if y17 = y13 then some ((1 : Int32) <<< (a_t &&& 31)) else some (0 : Int32)) (fun v23 => zl ((r20 ||| v23)) (fun x24 => if y16 = 0 then L6_sat_60 k18 book a_t a_hour y13 n18 (0 : Int32) (y17 + 1) else zb1 (f6_loses book y17 x24 a_hour) (fun r26 => zg ((62 : Int32) + y17) 230 (if r26 = (book ((62 : Int32) + y17).toNatClampNeg) then L6_sat_60 k18 book a_t a_hour y13 n18 (1 : Int32) (y17 + 1) else L6_sat_60 k18 book a_t a_hour y13 n18 (0 : Int32) (y17 + 1))))))
def L6_sat_43 (k14 : Int32 → Option (Int32 × (Nat → Int32)))  (book : Nat → Int32) (a_t : Int32) (a_hour : Int32) : Nat → Int32 → Int32 → Option (Int32 × (Nat → Int32))
  | 0, _, _ => none
  | n14 + 1, y12, y13 => if (book 1) ≤ y13 then k14 y12 else L6_sat_60 (fun y31 => if y31 = 0 then zl ((y12 ||| (0 : Int32))) (fun x33 => L6_sat_43 k14 book a_t a_hour n14 x33 (y13 + 1)) else zl ((y12 ||| ((1 : Int32) <<< (y13 &&& 31)))) (fun x34 => L6_sat_43 k14 book a_t a_hour n14 x34 (y13 + 1))) book a_t a_hour y13 FU (1 : Int32) (0 : Int32)
def f6_sat (quiet : Int32) (book : Nat → Int32) (refused : Nat → Int32) (a_t : Int32) (a_hour : Int32) : Option (Int32 × (Nat → Int32)) := zb1 (f6_isThing book a_t) (fun r1 => if r1 = 0 then zb2 (f6_bad quiet refused) (fun r4 refused_5 => some (r4, refused_5)) else zb1 (f6_isHour a_hour) (fun r7 => if r7 = 0 then zb2 (f6_bad quiet refused) (fun r39 refused_40 => some (r39, refused_40)) else zg ((36 : Int32) + a_t) 230 (if (book ((36 : Int32) + a_t).toNatClampNeg) = (-1 : Int32) then L6_sat_43 (fun y35 => some (y35, refused)) book a_t a_hour FU (0 : Int32) (0 : Int32) else zb2 (f6_no quiet refused) (fun r36 refused_37 => some (r36, refused_37)))))
abbrev rm6_sat : Room := { frames := 3, cells := 0, slots := 0, locals := 73 }
theorem in6_sat_6 : ∀ w ∈ wsX60, w ∈ wsX6_sat := fun w h => List.mem_cons_of_mem _ (List.mem_append_right _ h)
set_option maxHeartbeats 4000000 in
set_option maxRecDepth 100000 in
theorem c6_sat {l : Launch} {D : va_G} {cI cZ cB : ClassId} {q : Nat → Nat} {sz : Nat} {quiet : Int32} {mabove : Int64} {mbelow : Int64} {typed : Int32} {mat : Int32} {mstart : Int32} {mtoken : Int32} {mvalue : Int32} {many : Int32} {book : Nat → Int32} {images : Nat → Int32} {mkept : Nat → Int32} {aside : Nat → Int32} {refused : Nat → Int32} {text : Nat → Int32} {items : Nat → Int32} {drawn : Nat → Int32} {row : Nat → Int32} {best : Nat → Int32} {a_t : Int32} {a_hour : Int32} {r : Int32} {d_refused : Nat → Int32} (hf : f6_sat quiet book refused a_t a_hour = some (r, d_refused)) : Met l yX6_sat wsX6_sat rm6_sat (zPm D cI cZ cB [.ref (q 0), .int a_t, .int a_hour] sz (cMod cI cZ q quiet mabove mbelow typed mat mstart mtoken mvalue many book images mkept aside refused text items drawn row best)) (zQm D (some (.int r)) (cMod cI cZ q quiet mabove mbelow typed mat mstart mtoken mvalue many book images mkept aside d_refused text items drawn row best) (va_A (cMod cI cZ q quiet mabove mbelow typed mat mstart mtoken mvalue many book images mkept aside refused text items drawn row best) sz)) 0 0 (va_A (cMod cI cZ q quiet mabove mbelow typed mat mstart mtoken mvalue many book images mkept aside refused text items drawn row best) sz) := by
  unfold f6_sat at hf
  refine z_mutI RX6 (by decide +kernel) rfl rfl (Nat.le_of_ble_eq_true rfl) ?_
  intro p e s m args below meth c Q A ls hx hb hml hown hts hK hP hD hS hA hret hl
  have hl : lv_has ls 8 [(0, .ref (q 0)), (1, .int a_t), (2, .int a_hour)] := hl
  refine lv_aload_n hx hb (zD_g DX6_sat 0 rfl) rfl (lv_at hl 0 rfl) ?_
  refine lv_iload_n hx hb (zD_g DX6_sat 1 rfl) rfl (lv_at hl 1 rfl) ?_
  obtain ⟨r1, hc2, hf⟩ := zb1_s hf
  refine z_Vp (As := [.int a_t]) (rest := []) ⟨hx, hb, hml, hown, hts⟩ hK (c6_isThing (quiet := quiet) (mabove := mabove) (mbelow := mbelow) (typed := typed) (mat := mat) (mstart := mstart) (mtoken := mtoken) (mvalue := mvalue) (many := many) (book := book) (images := images) (mkept := mkept) (aside := aside) (refused := refused) (text := text) (items := items) (drawn := drawn) (row := row) (best := best) (q := q) hc2) (cwV 1 hts gX6_sat_X6_isThing rfl rfl rfl hd6_isThing ⟨Nat.le_of_ble_eq_true rfl, Nat.le_of_ble_eq_true rfl⟩) hP rfl rfl rfl rfl hl.1 rfl rfl (Nat.le_of_ble_eq_true rfl) (zD_g DX6_sat 2 rfl) ⟨Nat.zero_le _, Nat.zero_le _⟩ ?_
  refine lv_if_eq (tgt := 15) hx hb (zD_g DX6_sat 3 rfl) (by decide) (fun c3 => ?_) (fun c3 => ?_)
  · replace hf := z_t c3 hf
    refine lv_aload_n hx hb (zD_g DX6_sat 7 rfl) rfl (lv_at hl 0 rfl) ?_
    obtain ⟨r4, refused_5, hc6, hf⟩ := zb2_s hf
    refine z_Vm (As := []) (rest := []) (ws' := (cMod cI cZ q quiet mabove mbelow typed mat mstart mtoken mvalue many book images mkept aside refused_5 text items drawn row best)) ⟨hx, hb, hml, hown, hts⟩ hK (c6_bad (quiet := quiet) (mabove := mabove) (mbelow := mbelow) (typed := typed) (mat := mat) (mstart := mstart) (mtoken := mtoken) (mvalue := mvalue) (many := many) (book := book) (images := images) (mkept := mkept) (aside := aside) (refused := refused) (text := text) (items := items) (drawn := drawn) (row := row) (best := best) (q := q) hc6) (cwV 0 hts gX6_sat_X6_bad rfl rfl rfl hd6_bad ⟨Nat.le_of_ble_eq_true rfl, Nat.le_of_ble_eq_true rfl⟩) hP hD hS hA 11 [0, 1, 2, 3, 4, 5, 6, 7, 8, 9, 10] [] [0, 1, 2, 3, 4, 5, 6, 7, 8, 9, 10] (by decide +kernel) rfl rfl rfl rfl rfl rfl rfl hl.1 rfl rfl (Nat.le_of_ble_eq_true rfl) (zD_g DX6_sat 8 rfl) ⟨Nat.zero_le _, Nat.zero_le _⟩ (fun H locs hP hD hS => ?_)
    cases hf
    exact hret _ _ _ _ hP hD hS (zD_g DX6_sat 9 rfl)
  · replace hf := z_f c3 hf
    refine lv_iload_n hx hb (zD_g DX6_sat 4 rfl) rfl (lv_at hl 2 rfl) ?_
    obtain ⟨r7, hc8, hf⟩ := zb1_s hf
    refine z_Sp (As := [.int a_hour]) (rest := []) ⟨hx, hb, hml, hown, hts⟩ hK (c6_isHour  hc8) (va_cwS 1 hts gX6_sat_X6_isHour rfl rfl rfl hd6_isHour ⟨Nat.le_of_ble_eq_true rfl, Nat.le_of_ble_eq_true rfl⟩) (hP.sub [] rfl) rfl hl.1 rfl rfl (Nat.le_of_ble_eq_true rfl) (zD_g DX6_sat 5 rfl) ⟨Nat.zero_le _, Nat.zero_le _⟩ ?_
    refine lv_if_ne (tgt := 20) hx hb (zD_g DX6_sat 6 rfl) (by decide) (fun c9 => ?_) (fun c9 => ?_)
    · replace hf := z_f c9 hf
      refine lv_aload_n hx hb (zD_g DX6_sat 10 rfl) rfl (lv_at hl 0 rfl) ?_
      refine va_get (D := D) (ci := 5) (v := .ref (q 1)) (C := RX6) (T := TX6) (N := 19) hx hb hts in6_sat_6 hown hK.1 hP 0 rfl rfl 0 (by decide) (hts _ (List.mem_of_getElem? (i := 1) rfl)) (fun _ h9 => h9) rfl (zD_g DX6_sat 11 rfl) ?_
      refine lv_bipush (v := (36 : Int32)) hx hb (zD_g DX6_sat 12 rfl) (by decide) ?_
      refine lv_iload_n hx hb (zD_g DX6_sat 13 rfl) rfl (lv_at hl 1 rfl) ?_
      refine lv_iadd hx hb (zD_g DX6_sat 14 rfl) ?_
      obtain ⟨h10, hf⟩ := zg_s hf
      refine z_iald (k := ((36 : Int32) + a_t).toNatClampNeg) hx hb hK.1 hP 1 0 rfl rfl h10 rfl (zD_g DX6_sat 15 rfl) ?_
      refine lv_iconst (v := (-1 : Int32)) hx hb (zD_g DX6_sat 16 rfl) (by decide) ?_
      refine lv_icmp_eq (tgt := 38) hx hb (zD_g DX6_sat 17 rfl) (by decide) (fun c11 => ?_) (fun c11 => ?_)
      · replace hf := z_t c11 hf
        refine lv_iconst (v := (0 : Int32)) hx hb (zD_g DX6_sat 21 rfl) (by decide) ?_
        refine lv_istore_n (lv' := [(3, .int (0 : Int32)), (0, .ref (q 0)), (1, .int a_t), (2, .int a_hour)]) hx hb (zD_g DX6_sat 22 rfl) rfl hl (by decide) rfl (fun ls hl => ?_)
        refine lv_iconst (v := (0 : Int32)) hx hb (zD_g DX6_sat 23 rfl) (by decide) ?_
        refine lv_istore (lv' := [(4, .int (0 : Int32)), (3, .int (0 : Int32)), (0, .ref (q 0)), (1, .int a_t), (2, .int a_hour)]) hx hb (zD_g DX6_sat 24 rfl) hl (by decide) rfl (fun ls hl => ?_)
        have hL14 : ∀ (k14 : Int32 → Option (Int32 × (Nat → Int32))) (hk14 : ∀ (y35 : Int32), k14 y35 = some (r, d_refused) → ∀ (H : Heap) (locs : List Loc), va_P D vwCl (cMod cI cZ q quiet mabove mbelow typed mat mstart mtoken mvalue many book images mkept aside refused text items drawn row best) H → va_D A (cMod cI cZ q quiet mabove mbelow typed mat mstart mtoken mvalue many book images mkept aside refused text items drawn row best) → va_S A s.heap H locs → ∀ (ls : Array Slot), lv_has ls 8 [(3, .int y35)] → W p l e rm6_sat s m args below meth c H locs 0 0 Q (F0 m 156 ls [])) (n14 : Nat) (y12 : Int32) (y13 : Int32), L6_sat_43 k14 book a_t a_hour n14 y12 y13 = some (r, d_refused) → ∀ (H : Heap) (locs : List Loc), va_P D vwCl (cMod cI cZ q quiet mabove mbelow typed mat mstart mtoken mvalue many book images mkept aside refused text items drawn row best) H → va_D A (cMod cI cZ q quiet mabove mbelow typed mat mstart mtoken mvalue many book images mkept aside refused text items drawn row best) → va_S A s.heap H locs → ∀ (ls : Array Slot), lv_has ls 8 [(0, .ref (q 0)), (1, .int a_t), (2, .int a_hour), (3, .int y12), (4, .int y13)] → W p l e rm6_sat s m args below meth c H locs 0 0 Q (F0 m 43 ls []) := by
          intro k14 hk14 n14
          induction n14 with
          | zero =>
            intro y12 y13 hf
            cases hf
          | succ n14 ih14 =>
            intro y12 y13 hf H locs hP hD hS ls hl
            rw [L6_sat_43] at hf
            refine lv_iload hx hb (zD_g DX6_sat 25 rfl) (lv_at hl 4 rfl) ?_
            refine lv_aload_n hx hb (zD_g DX6_sat 26 rfl) rfl (lv_at hl 0 rfl) ?_
            refine va_get (D := D) (ci := 5) (v := .ref (q 1)) (C := RX6) (T := TX6) (N := 19) hx hb hts in6_sat_6 hown hK.1 hP 0 rfl rfl 0 (by decide) (hts _ (List.mem_of_getElem? (i := 1) rfl)) (fun _ h9 => h9) rfl (zD_g DX6_sat 27 rfl) ?_
            refine lv_iconst (v := (1 : Int32)) hx hb (zD_g DX6_sat 28 rfl) (by decide) ?_
            refine z_iald (k := 1) hx hb hK.1 hP 1 0 rfl rfl (by decide) rfl (zD_g DX6_sat 29 rfl) ?_
            refine lv_icmp_ge (tgt := 156) hx hb (zD_g DX6_sat 30 rfl) (by decide) (fun c15 => ?_) (fun c15 => ?_)
            · replace hf := z_t c15 hf
              exact hk14 _ hf _ _ hP hD hS ls (lv_sub hl [3] rfl)
            · replace hf := z_f c15 hf
              refine lv_iconst (v := (1 : Int32)) hx hb (zD_g DX6_sat 31 rfl) (by decide) ?_
              refine lv_istore (lv' := [(5, .int (1 : Int32)), (0, .ref (q 0)), (1, .int a_t), (2, .int a_hour), (3, .int y12), (4, .int y13)]) hx hb (zD_g DX6_sat 32 rfl) hl (by decide) rfl (fun ls hl => ?_)
              refine lv_iconst (v := (0 : Int32)) hx hb (zD_g DX6_sat 33 rfl) (by decide) ?_
              refine lv_istore (lv' := [(6, .int (0 : Int32)), (5, .int (1 : Int32)), (0, .ref (q 0)), (1, .int a_t), (2, .int a_hour), (3, .int y12), (4, .int y13)]) hx hb (zD_g DX6_sat 34 rfl) hl (by decide) rfl (fun ls hl => ?_)
              have hL18 : ∀ (k18 : Int32 → Option (Int32 × (Nat → Int32))) (hk18 : ∀ (y31 : Int32), k18 y31 = some (r, d_refused) → ∀ (H : Heap) (locs : List Loc), va_P D vwCl (cMod cI cZ q quiet mabove mbelow typed mat mstart mtoken mvalue many book images mkept aside refused text items drawn row best) H → va_D A (cMod cI cZ q quiet mabove mbelow typed mat mstart mtoken mvalue many book images mkept aside refused text items drawn row best) → va_S A s.heap H locs → ∀ (ls : Array Slot), lv_has ls 8 [(0, .ref (q 0)), (1, .int a_t), (2, .int a_hour), (3, .int y12), (4, .int y13), (5, .int y31)] → W p l e rm6_sat s m args below meth c H locs 0 0 Q (F0 m 134 ls [])) (n18 : Nat) (y16 : Int32) (y17 : Int32), L6_sat_60 k18 book a_t a_hour y13 n18 y16 y17 = some (r, d_refused) → ∀ (H : Heap) (locs : List Loc), va_P D vwCl (cMod cI cZ q quiet mabove mbelow typed mat mstart mtoken mvalue many book images mkept aside refused text items drawn row best) H → va_D A (cMod cI cZ q quiet mabove mbelow typed mat mstart mtoken mvalue many book images mkept aside refused text items drawn row best) → va_S A s.heap H locs → ∀ (ls : Array Slot), lv_has ls 8 [(0, .ref (q 0)), (1, .int a_t), (2, .int a_hour), (3, .int y12), (4, .int y13), (5, .int y16), (6, .int y17)] → W p l e rm6_sat s m args below meth c H locs 0 0 Q (F0 m 60 ls []) := by
                intro k18 hk18 n18
                induction n18 with
                | zero =>
                  intro y16 y17 hf
                  cases hf
                | succ n18 ih18 =>
                  intro y16 y17 hf H locs hP hD hS ls hl
                  rw [L6_sat_60] at hf
                  refine lv_iload hx hb (zD_g DX6_sat 35 rfl) (lv_at hl 6 rfl) ?_
                  refine lv_aload_n hx hb (zD_g DX6_sat 36 rfl) rfl (lv_at hl 0 rfl) ?_
                  refine va_get (D := D) (ci := 5) (v := .ref (q 1)) (C := RX6) (T := TX6) (N := 19) hx hb hts in6_sat_6 hown hK.1 hP 0 rfl rfl 0 (by decide) (hts _ (List.mem_of_getElem? (i := 1) rfl)) (fun _ h9 => h9) rfl (zD_g DX6_sat 37 rfl) ?_
                  refine lv_iconst (v := (1 : Int32)) hx hb (zD_g DX6_sat 38 rfl) (by decide) ?_
                  refine z_iald (k := 1) hx hb hK.1 hP 1 0 rfl rfl (by decide) rfl (zD_g DX6_sat 39 rfl) ?_
                  refine lv_icmp_ge (tgt := 134) hx hb (zD_g DX6_sat 40 rfl) (by decide) (fun c19 => ?_) (fun c19 => ?_)
                  · replace hf := z_t c19 hf
                    exact hk18 _ hf _ _ hP hD hS ls (lv_sub hl [0, 1, 2, 3, 4, 5] rfl)
                  · replace hf := z_f c19 hf
                    refine lv_aload_n hx hb (zD_g DX6_sat 41 rfl) rfl (lv_at hl 0 rfl) ?_
                    refine lv_iload hx hb (zD_g DX6_sat 42 rfl) (lv_at hl 6 rfl) ?_
                    obtain ⟨r20, hc21, hf⟩ := zb1_s hf
                    refine z_Vp (As := [.int y17]) (rest := []) ⟨hx, hb, hml, hown, hts⟩ hK (c6_thingsIn (quiet := quiet) (mabove := mabove) (mbelow := mbelow) (typed := typed) (mat := mat) (mstart := mstart) (mtoken := mtoken) (mvalue := mvalue) (many := many) (book := book) (images := images) (mkept := mkept) (aside := aside) (refused := refused) (text := text) (items := items) (drawn := drawn) (row := row) (best := best) (q := q) hc21) (cwV 1 hts gX6_sat_X6_thingsIn rfl rfl rfl hd6_thingsIn ⟨Nat.le_of_ble_eq_true rfl, Nat.le_of_ble_eq_true rfl⟩) hP rfl rfl rfl rfl hl.1 rfl rfl (Nat.le_of_ble_eq_true rfl) (zD_g DX6_sat 43 rfl) ⟨Nat.zero_le _, Nat.zero_le _⟩ ?_
                    refine lv_iload hx hb (zD_g DX6_sat 44 rfl) (lv_at hl 6 rfl) ?_
                    refine lv_iload hx hb (zD_g DX6_sat 45 rfl) (lv_at hl 4 rfl) ?_
                    obtain ⟨v23, hr30, hf⟩ := zb1_s hf
                    have hJ30 : ∀ (H : Heap) (locs : List Loc), va_P D vwCl (cMod cI cZ q quiet mabove mbelow typed mat mstart mtoken mvalue many book images mkept aside refused text items drawn row best) H → va_D A (cMod cI cZ q quiet mabove mbelow typed mat mstart mtoken mvalue many book images mkept aside refused text items drawn row best) → va_S A s.heap H locs → ∀ (ls : Array Slot), lv_has ls 8 [(0, .ref (q 0)), (1, .int a_t), (2, .int a_hour), (3, .int y12), (4, .int y13), (5, .int y16), (6, .int y17)] → W p l e rm6_sat s m args below meth c H locs 0 0 Q (F0 m 91 ls [.int v23, .int r20]) := by
                      intro H locs hP hD hS ls hl
                      refine lv_ior hx hb (zD_g DX6_sat 52 rfl) ?_
                      refine lv_topi (fun x24 ex24 => ?_)
                      replace hf := zl_s hf x24 ex24
                      refine lv_istore (lv' := [(7, .int x24), (0, .ref (q 0)), (1, .int a_t), (2, .int a_hour), (3, .int y12), (4, .int y13), (5, .int y16), (6, .int y17)]) hx hb (zD_g DX6_sat 53 rfl) hl (by decide) rfl (fun ls hl => ?_)
                      refine lv_iload hx hb (zD_g DX6_sat 54 rfl) (lv_at hl 6 rfl) ?_
                      refine lv_if_eq (tgt := 125) hx hb (zD_g DX6_sat 55 rfl) (by decide) (fun c25 => ?_) (fun c25 => ?_)
                      · replace hf := z_t c25 hf
                        refine lv_iconst (v := (0 : Int32)) hx hb (zD_g DX6_sat 70 rfl) (by decide) ?_
                        refine lv_istore (lv' := [(5, .int (0 : Int32)), (7, .int x24), (0, .ref (q 0)), (1, .int a_t), (2, .int a_hour), (3, .int y12), (4, .int y13), (6, .int y17)]) hx hb (zD_g DX6_sat 71 rfl) hl (by decide) rfl (fun ls hl => ?_)
                        refine lv_iinc (v := y17 + 1) (lv' := [(6, .int (y17 + 1)), (5, .int (0 : Int32)), (7, .int x24), (0, .ref (q 0)), (1, .int a_t), (2, .int a_hour), (3, .int y12), (4, .int y13)]) (k := 7) hx hb (zD_g DX6_sat 72 rfl) hl rfl rfl (by decide) rfl (fun ls hl => ?_)
                        refine lv_goto (tgt := 60) hx hb (zD_g DX6_sat 73 rfl) (by decide) ?_
                        exact ih18 _ _ hf _ _ hP hD hS ls (lv_sub hl [3, 4, 5, 6, 7, 1, 0] rfl)
                      · replace hf := z_f c25 hf
                        refine lv_aload_n hx hb (zD_g DX6_sat 56 rfl) rfl (lv_at hl 1 rfl) ?_
                        refine lv_iload hx hb (zD_g DX6_sat 57 rfl) (lv_at hl 7 rfl) ?_
                        refine lv_iload hx hb (zD_g DX6_sat 58 rfl) (lv_at hl 0 rfl) ?_
                        refine lv_iload_n hx hb (zD_g DX6_sat 59 rfl) rfl (lv_at hl 3 rfl) ?_
                        obtain ⟨r26, hc27, hf⟩ := zb1_s hf
                        refine z_Vp (As := [.int y17, .int x24, .int a_hour]) (rest := []) ⟨hx, hb, hml, hown, hts⟩ hK (c6_loses (quiet := quiet) (mabove := mabove) (mbelow := mbelow) (typed := typed) (mat := mat) (mstart := mstart) (mtoken := mtoken) (mvalue := mvalue) (many := many) (book := book) (images := images) (mkept := mkept) (aside := aside) (refused := refused) (text := text) (items := items) (drawn := drawn) (row := row) (best := best) (q := q) hc27) (cwV 3 hts gX6_sat_X6_loses rfl rfl rfl hd6_loses ⟨Nat.le_of_ble_eq_true rfl, Nat.le_of_ble_eq_true rfl⟩) hP rfl rfl rfl rfl hl.1 rfl rfl (Nat.le_of_ble_eq_true rfl) (zD_g DX6_sat 60 rfl) ⟨Nat.zero_le _, Nat.zero_le _⟩ ?_
                        refine lv_aload_n hx hb (zD_g DX6_sat 61 rfl) rfl (lv_at hl 1 rfl) ?_
                        refine va_get (D := D) (ci := 5) (v := .ref (q 1)) (C := RX6) (T := TX6) (N := 19) hx hb hts in6_sat_6 hown hK.1 hP 0 rfl rfl 0 (by decide) (hts _ (List.mem_of_getElem? (i := 1) rfl)) (fun _ h9 => h9) rfl (zD_g DX6_sat 62 rfl) ?_
                        refine lv_bipush (v := (62 : Int32)) hx hb (zD_g DX6_sat 63 rfl) (by decide) ?_
                        refine lv_iload hx hb (zD_g DX6_sat 64 rfl) (lv_at hl 7 rfl) ?_
                        refine lv_iadd hx hb (zD_g DX6_sat 65 rfl) ?_
                        obtain ⟨h28, hf⟩ := zg_s hf
                        refine z_iald (k := ((62 : Int32) + y17).toNatClampNeg) hx hb hK.1 hP 1 0 rfl rfl h28 rfl (zD_g DX6_sat 66 rfl) ?_
                        refine lv_icmp_ne (tgt := 125) hx hb (zD_g DX6_sat 67 rfl) (by decide) (fun c29 => ?_) (fun c29 => ?_)
                        · replace hf := z_f c29 hf
                          refine lv_iconst (v := (0 : Int32)) hx hb (zD_g DX6_sat 70 rfl) (by decide) ?_
                          refine lv_istore (lv' := [(5, .int (0 : Int32)), (7, .int x24), (0, .ref (q 0)), (1, .int a_t), (2, .int a_hour), (3, .int y12), (4, .int y13), (6, .int y17)]) hx hb (zD_g DX6_sat 71 rfl) hl (by decide) rfl (fun ls hl => ?_)
                          refine lv_iinc (v := y17 + 1) (lv' := [(6, .int (y17 + 1)), (5, .int (0 : Int32)), (7, .int x24), (0, .ref (q 0)), (1, .int a_t), (2, .int a_hour), (3, .int y12), (4, .int y13)]) (k := 7) hx hb (zD_g DX6_sat 72 rfl) hl rfl rfl (by decide) rfl (fun ls hl => ?_)
                          refine lv_goto (tgt := 60) hx hb (zD_g DX6_sat 73 rfl) (by decide) ?_
                          exact ih18 _ _ hf _ _ hP hD hS ls (lv_sub hl [3, 4, 5, 6, 7, 1, 0] rfl)
                        · replace hf := z_t c29 hf
                          refine lv_iconst (v := (1 : Int32)) hx hb (zD_g DX6_sat 68 rfl) (by decide) ?_
                          refine lv_goto (tgt := 126) hx hb (zD_g DX6_sat 69 rfl) (by decide) ?_
                          refine lv_istore (lv' := [(5, .int (1 : Int32)), (7, .int x24), (0, .ref (q 0)), (1, .int a_t), (2, .int a_hour), (3, .int y12), (4, .int y13), (6, .int y17)]) hx hb (zD_g DX6_sat 71 rfl) hl (by decide) rfl (fun ls hl => ?_)
                          refine lv_iinc (v := y17 + 1) (lv' := [(6, .int (y17 + 1)), (5, .int (1 : Int32)), (7, .int x24), (0, .ref (q 0)), (1, .int a_t), (2, .int a_hour), (3, .int y12), (4, .int y13)]) (k := 7) hx hb (zD_g DX6_sat 72 rfl) hl rfl rfl (by decide) rfl (fun ls hl => ?_)
                          refine lv_goto (tgt := 60) hx hb (zD_g DX6_sat 73 rfl) (by decide) ?_
                          exact ih18 _ _ hf _ _ hP hD hS ls (lv_sub hl [3, 4, 5, 6, 7, 1, 0] rfl)
                    clear hf
                    refine lv_icmp_ne (tgt := 90) hx hb (zD_g DX6_sat 46 rfl) (by decide) (fun c22 => ?_) (fun c22 => ?_)
                    · have hf := z_f c22 hr30
                      refine lv_iconst (v := (0 : Int32)) hx hb (zD_g DX6_sat 51 rfl) (by decide) ?_
                      cases hf
                      exact hJ30 _ _ hP hD hS ls (lv_sub hl [0, 1, 2, 3, 4, 5, 6] rfl)
                    · have hf := z_t c22 hr30
                      refine lv_iconst (v := (1 : Int32)) hx hb (zD_g DX6_sat 47 rfl) (by decide) ?_
                      refine lv_iload_n hx hb (zD_g DX6_sat 48 rfl) rfl (lv_at hl 1 rfl) ?_
                      refine lv_ishl hx hb (zD_g DX6_sat 49 rfl) ?_
                      refine lv_goto (tgt := 91) hx hb (zD_g DX6_sat 50 rfl) (by decide) ?_
                      cases hf
                      exact hJ30 _ _ hP hD hS ls (lv_sub hl [0, 1, 2, 3, 4, 5, 6] rfl)
              refine hL18 _ (fun y31 hf H locs hP hD hS ls hl => ?_) _ _ _ hf _ _ hP hD hS ls (lv_sub hl [2, 3, 4, 5, 6, 1, 0] rfl)
              refine lv_iload_n hx hb (zD_g DX6_sat 74 rfl) rfl (lv_at hl 3 rfl) ?_
              refine lv_iload hx hb (zD_g DX6_sat 75 rfl) (lv_at hl 5 rfl) ?_
              refine lv_if_eq (tgt := 147) hx hb (zD_g DX6_sat 76 rfl) (by decide) (fun c32 => ?_) (fun c32 => ?_)
              · replace hf := z_t c32 hf
                refine lv_iconst (v := (0 : Int32)) hx hb (zD_g DX6_sat 81 rfl) (by decide) ?_
                refine lv_ior hx hb (zD_g DX6_sat 82 rfl) ?_
                refine lv_topi (fun x33 ex33 => ?_)
                replace hf := zl_s hf x33 ex33
                refine lv_istore_n (lv' := [(3, .int x33), (0, .ref (q 0)), (1, .int a_t), (2, .int a_hour), (4, .int y13), (5, .int y31)]) hx hb (zD_g DX6_sat 83 rfl) rfl hl (by decide) rfl (fun ls hl => ?_)
                refine lv_iinc (v := y13 + 1) (lv' := [(4, .int (y13 + 1)), (3, .int x33), (0, .ref (q 0)), (1, .int a_t), (2, .int a_hour), (5, .int y31)]) (k := 4) hx hb (zD_g DX6_sat 84 rfl) hl rfl rfl (by decide) rfl (fun ls hl => ?_)
                refine lv_goto (tgt := 43) hx hb (zD_g DX6_sat 85 rfl) (by decide) ?_
                exact ih14 _ _ hf _ _ hP hD hS ls (lv_sub hl [2, 3, 4, 1, 0] rfl)
              · replace hf := z_f c32 hf
                refine lv_iconst (v := (1 : Int32)) hx hb (zD_g DX6_sat 77 rfl) (by decide) ?_
                refine lv_iload hx hb (zD_g DX6_sat 78 rfl) (lv_at hl 4 rfl) ?_
                refine lv_ishl hx hb (zD_g DX6_sat 79 rfl) ?_
                refine lv_goto (tgt := 148) hx hb (zD_g DX6_sat 80 rfl) (by decide) ?_
                refine lv_ior hx hb (zD_g DX6_sat 82 rfl) ?_
                refine lv_topi (fun x34 ex34 => ?_)
                replace hf := zl_s hf x34 ex34
                refine lv_istore_n (lv' := [(3, .int x34), (0, .ref (q 0)), (1, .int a_t), (2, .int a_hour), (4, .int y13), (5, .int y31)]) hx hb (zD_g DX6_sat 83 rfl) rfl hl (by decide) rfl (fun ls hl => ?_)
                refine lv_iinc (v := y13 + 1) (lv' := [(4, .int (y13 + 1)), (3, .int x34), (0, .ref (q 0)), (1, .int a_t), (2, .int a_hour), (5, .int y31)]) (k := 4) hx hb (zD_g DX6_sat 84 rfl) hl rfl rfl (by decide) rfl (fun ls hl => ?_)
                refine lv_goto (tgt := 43) hx hb (zD_g DX6_sat 85 rfl) (by decide) ?_
                exact ih14 _ _ hf _ _ hP hD hS ls (lv_sub hl [2, 3, 4, 1, 0] rfl)
        refine hL14 _ (fun y35 hf H locs hP hD hS ls hl => ?_) _ _ _ hf _ _ hP hD hS ls (lv_sub hl [2, 3, 4, 1, 0] rfl)
        refine lv_iload_n hx hb (zD_g DX6_sat 86 rfl) rfl (lv_at hl 0 rfl) ?_
        cases hf
        exact hret _ _ _ _ hP hD hS (zD_g DX6_sat 87 rfl)
      · replace hf := z_f c11 hf
        refine lv_aload_n hx hb (zD_g DX6_sat 18 rfl) rfl (lv_at hl 0 rfl) ?_
        obtain ⟨r36, refused_37, hc38, hf⟩ := zb2_s hf
        refine z_Vm (As := []) (rest := []) (ws' := (cMod cI cZ q quiet mabove mbelow typed mat mstart mtoken mvalue many book images mkept aside refused_37 text items drawn row best)) ⟨hx, hb, hml, hown, hts⟩ hK (c6_no (quiet := quiet) (mabove := mabove) (mbelow := mbelow) (typed := typed) (mat := mat) (mstart := mstart) (mtoken := mtoken) (mvalue := mvalue) (many := many) (book := book) (images := images) (mkept := mkept) (aside := aside) (refused := refused) (text := text) (items := items) (drawn := drawn) (row := row) (best := best) (q := q) hc38) (cwV 0 hts gX6_sat_X6_no rfl rfl rfl hd6_no ⟨Nat.le_of_ble_eq_true rfl, Nat.le_of_ble_eq_true rfl⟩) hP hD hS hA 11 [0, 1, 2, 3, 4, 5, 6, 7, 8, 9, 10] [] [0, 1, 2, 3, 4, 5, 6, 7, 8, 9, 10] (by decide +kernel) rfl rfl rfl rfl rfl rfl rfl hl.1 rfl rfl (Nat.le_of_ble_eq_true rfl) (zD_g DX6_sat 19 rfl) ⟨Nat.zero_le _, Nat.zero_le _⟩ (fun H locs hP hD hS => ?_)
        cases hf
        exact hret _ _ _ _ hP hD hS (zD_g DX6_sat 20 rfl)
    · replace hf := z_t c9 hf
      refine lv_aload_n hx hb (zD_g DX6_sat 7 rfl) rfl (lv_at hl 0 rfl) ?_
      obtain ⟨r39, refused_40, hc41, hf⟩ := zb2_s hf
      refine z_Vm (As := []) (rest := []) (ws' := (cMod cI cZ q quiet mabove mbelow typed mat mstart mtoken mvalue many book images mkept aside refused_40 text items drawn row best)) ⟨hx, hb, hml, hown, hts⟩ hK (c6_bad (quiet := quiet) (mabove := mabove) (mbelow := mbelow) (typed := typed) (mat := mat) (mstart := mstart) (mtoken := mtoken) (mvalue := mvalue) (many := many) (book := book) (images := images) (mkept := mkept) (aside := aside) (refused := refused) (text := text) (items := items) (drawn := drawn) (row := row) (best := best) (q := q) hc41) (cwV 0 hts gX6_sat_X6_bad rfl rfl rfl hd6_bad ⟨Nat.le_of_ble_eq_true rfl, Nat.le_of_ble_eq_true rfl⟩) hP hD hS hA 11 [0, 1, 2, 3, 4, 5, 6, 7, 8, 9, 10] [] [0, 1, 2, 3, 4, 5, 6, 7, 8, 9, 10] (by decide +kernel) rfl rfl rfl rfl rfl rfl rfl hl.1 rfl rfl (Nat.le_of_ble_eq_true rfl) (zD_g DX6_sat 8 rfl) ⟨Nat.zero_le _, Nat.zero_le _⟩ (fun H locs hP hD hS => ?_)
      cases hf
      exact hret _ _ _ _ hP hD hS (zD_g DX6_sat 9 rfl)
theorem hd6_sat : yX6_sat.cls = RX6 ∧ yX6_sat.cls ≠ "java/lang/invoke/MethodHandle" ∧ yX6_sat.cls ≠ "java/lang/invoke/VarHandle" ∧ (parseMethodDescriptor yX6_sat.desc).map (fun d => d.parameters.length) = some 2 := by decide +kernel
abbrev dlX6_lays : List (Nat × Instr × Nat) := [(0, .iload_n 1, 1), (1, .istore_n 3, 1), (2, .iconst 0, 1), (3, .istore 4, 2), (5, .iload_n 2, 1), (6, .iconst 1, 1), (7, .isub, 1), (8, .istore 5, 2), (10, .iload 5, 2), (12, .ifCond .lt 37, 3), (15, .aload_n 0, 1), (16, .getfield 35, 3), (19, .iload 5, 2), (21, .iload_n 3, 1), (22, .iload_n 2, 1), (23, .irem, 1), (24, .iastore, 1), (25, .iload_n 3, 1), (26, .iload_n 2, 1), (27, .idiv, 1), (28, .istore_n 3, 1), (29, .iload 4, 2), (31, .iconst 1, 1), (32, .aload_n 0, 1), (33, .getfield 35, 3), (36, .iload 5, 2), (38, .iaload, 1), (39, .ishl, 1), (40, .ior, 1), (41, .istore 4, 2), (43, .iinc 5 (-1), 3), (46, .goto (-36), 3), (49, .iload 4, 2), (51, .iconst 1, 1), (52, .iload_n 2, 1), (53, .ishl, 1), (54, .iconst 1, 1), (55, .isub, 1), (56, .if_icmp .ne 7, 3), (59, .iconst 1, 1), (60, .goto 4, 3), (63, .iconst 0, 1), (64, .ireturn, 1)]
theorem DX6_lays : zD cX6_lays dlX6_lays = true := by decide +kernel
def L6_lays_10 (k6 : Int32 → (Nat → Int32) → Option (Int32 × (Nat → Int32)))  (a_n : Int32) : Nat → Int32 → Int32 → Int32 → (Nat → Int32) → Option (Int32 × (Nat → Int32))
  | 0, _, _, _, _ => none
  | n6 + 1, y2, y3, y4, row_5 => if y4 < 0 then k6 y3 row_5 else zdi a_n (zl ((y2 - y2 / a_n * a_n)) (fun x9 => zg y4 6 (zdi a_n (zl ((y2 / a_n)) (fun x12 => zg y4 6 (zl ((y3 ||| ((1 : Int32) <<< (((upd row_5 y4.toNatClampNeg x9) y4.toNatClampNeg) &&& 31)))) (fun x14 => L6_lays_10 k6 a_n n6 x12 x14 (y4 + (-1)) (upd row_5 y4.toNatClampNeg x9))))))))
def f6_lays (row : Nat → Int32) (a_code : Int32) (a_n : Int32) : Option (Int32 × (Nat → Int32)) := zl ((a_n - (1 : Int32))) (fun x1 => L6_lays_10 (fun y15 row_16 => if y15 = (((1 : Int32) <<< (a_n &&& 31)) - (1 : Int32)) then some ((1 : Int32), row_16) else some ((0 : Int32), row_16)) a_n FU a_code (0 : Int32) x1 row)
abbrev rm6_lays : Room := { frames := 0, cells := 0, slots := 0, locals := 0 }
theorem in6_lays_6 : ∀ w ∈ wsX60, w ∈ wsX6_lays := fun w h => List.mem_cons_of_mem _ (List.mem_append_right _ h)
set_option maxHeartbeats 4000000 in
set_option maxRecDepth 100000 in
theorem c6_lays {l : Launch} {D : va_G} {cI cZ cB : ClassId} {q : Nat → Nat} {sz : Nat} {quiet : Int32} {mabove : Int64} {mbelow : Int64} {typed : Int32} {mat : Int32} {mstart : Int32} {mtoken : Int32} {mvalue : Int32} {many : Int32} {book : Nat → Int32} {images : Nat → Int32} {mkept : Nat → Int32} {aside : Nat → Int32} {refused : Nat → Int32} {text : Nat → Int32} {items : Nat → Int32} {drawn : Nat → Int32} {row : Nat → Int32} {best : Nat → Int32} {a_code : Int32} {a_n : Int32} {r : Int32} {d_row : Nat → Int32} (hf : f6_lays row a_code a_n = some (r, d_row)) : Met l yX6_lays wsX6_lays rm6_lays (zPm D cI cZ cB [.ref (q 0), .int a_code, .int a_n] sz (cMod cI cZ q quiet mabove mbelow typed mat mstart mtoken mvalue many book images mkept aside refused text items drawn row best)) (zQm D (some (.int r)) (cMod cI cZ q quiet mabove mbelow typed mat mstart mtoken mvalue many book images mkept aside refused text items drawn d_row best) (va_A (cMod cI cZ q quiet mabove mbelow typed mat mstart mtoken mvalue many book images mkept aside refused text items drawn row best) sz)) 0 0 (va_A (cMod cI cZ q quiet mabove mbelow typed mat mstart mtoken mvalue many book images mkept aside refused text items drawn row best) sz) := by
  unfold f6_lays at hf
  refine z_mutZ RX6 (by decide +kernel) rfl rfl (Nat.le_of_ble_eq_true rfl) ?_
  intro p e s m args below meth c Q A ls hx hb hml hown hts hK hP hD hS hA hret hl
  have hl : lv_has ls 6 [(0, .ref (q 0)), (1, .int a_code), (2, .int a_n)] := hl
  refine lv_iload_n hx hb (zD_g DX6_lays 0 rfl) rfl (lv_at hl 1 rfl) ?_
  refine lv_istore_n (lv' := [(3, .int a_code), (0, .ref (q 0)), (1, .int a_code), (2, .int a_n)]) hx hb (zD_g DX6_lays 1 rfl) rfl hl (by decide) rfl (fun ls hl => ?_)
  refine lv_iconst (v := (0 : Int32)) hx hb (zD_g DX6_lays 2 rfl) (by decide) ?_
  refine lv_istore (lv' := [(4, .int (0 : Int32)), (3, .int a_code), (0, .ref (q 0)), (1, .int a_code), (2, .int a_n)]) hx hb (zD_g DX6_lays 3 rfl) hl (by decide) rfl (fun ls hl => ?_)
  refine lv_iload_n hx hb (zD_g DX6_lays 4 rfl) rfl (lv_at hl 4 rfl) ?_
  refine lv_iconst (v := (1 : Int32)) hx hb (zD_g DX6_lays 5 rfl) (by decide) ?_
  refine lv_isub hx hb (zD_g DX6_lays 6 rfl) ?_
  refine lv_topi (fun x1 ex1 => ?_)
  replace hf := zl_s hf x1 ex1
  refine lv_istore (lv' := [(5, .int x1), (4, .int (0 : Int32)), (3, .int a_code), (0, .ref (q 0)), (1, .int a_code), (2, .int a_n)]) hx hb (zD_g DX6_lays 7 rfl) hl (by decide) rfl (fun ls hl => ?_)
  have hL6 : ∀ (k6 : Int32 → (Nat → Int32) → Option (Int32 × (Nat → Int32))) (hk6 : ∀ (y15 : Int32) (row_16 : Nat → Int32), k6 y15 row_16 = some (r, d_row) → ∀ (H : Heap) (locs : List Loc), va_P D vwCl (cMod cI cZ q quiet mabove mbelow typed mat mstart mtoken mvalue many book images mkept aside refused text items drawn row_16 best) H → va_D A (cMod cI cZ q quiet mabove mbelow typed mat mstart mtoken mvalue many book images mkept aside refused text items drawn row_16 best) → va_S A s.heap H locs → ∀ (ls : Array Slot), lv_has ls 6 [(2, .int a_n), (4, .int y15)] → W p l e rm6_lays s m args below meth c H locs 0 0 Q (F0 m 49 ls [])) (n6 : Nat) (y2 : Int32) (y3 : Int32) (y4 : Int32) (row_5 : Nat → Int32), L6_lays_10 k6 a_n n6 y2 y3 y4 row_5 = some (r, d_row) → ∀ (H : Heap) (locs : List Loc), va_P D vwCl (cMod cI cZ q quiet mabove mbelow typed mat mstart mtoken mvalue many book images mkept aside refused text items drawn row_5 best) H → va_D A (cMod cI cZ q quiet mabove mbelow typed mat mstart mtoken mvalue many book images mkept aside refused text items drawn row_5 best) → va_S A s.heap H locs → ∀ (ls : Array Slot), lv_has ls 6 [(0, .ref (q 0)), (2, .int a_n), (3, .int y2), (4, .int y3), (5, .int y4)] → W p l e rm6_lays s m args below meth c H locs 0 0 Q (F0 m 10 ls []) := by
    intro k6 hk6 n6
    induction n6 with
    | zero =>
      intro y2 y3 y4 row_5 hf
      cases hf
    | succ n6 ih6 =>
      intro y2 y3 y4 row_5 hf H locs hP hD hS ls hl
      rw [L6_lays_10] at hf
      refine lv_iload hx hb (zD_g DX6_lays 8 rfl) (lv_at hl 4 rfl) ?_
      refine lv_if_lt (tgt := 49) hx hb (zD_g DX6_lays 9 rfl) (by decide) (fun c7 => ?_) (fun c7 => ?_)
      · replace hf := z_t c7 hf
        exact hk6 _ _ hf _ _ hP hD hS ls (lv_sub hl [1, 3] rfl)
      · replace hf := z_f c7 hf
        refine lv_aload_n hx hb (zD_g DX6_lays 10 rfl) rfl (lv_at hl 0 rfl) ?_
        refine va_get (D := D) (ci := 5) (v := .ref (q 9)) (C := RX6) (T := TX6) (N := 19) hx hb hts in6_lays_6 hown hK.1 hP 0 rfl rfl 17 (by decide) (hts _ (List.mem_of_getElem? (i := 1) rfl)) (fun _ h9 => h9) rfl (zD_g DX6_lays 11 rfl) ?_
        refine lv_iload hx hb (zD_g DX6_lays 12 rfl) (lv_at hl 4 rfl) ?_
        refine lv_iload_n hx hb (zD_g DX6_lays 13 rfl) rfl (lv_at hl 2 rfl) ?_
        refine lv_iload_n hx hb (zD_g DX6_lays 14 rfl) rfl (lv_at hl 1 rfl) ?_
        obtain ⟨h8, hf⟩ := zdi_s hf
        refine lv_irem hx hb (zD_g DX6_lays 15 rfl) h8 ?_
        refine lv_topi (fun x9 ex9 => ?_)
        replace hf := zl_s hf x9 ex9
        obtain ⟨h10, hf⟩ := zg_s hf
        refine z_iast (k := y4.toNatClampNeg) (ws' := (cMod cI cZ q quiet mabove mbelow typed mat mstart mtoken mvalue many book images mkept aside refused text items drawn (upd row_5 y4.toNatClampNeg x9) best)) hx hb hK.1 hP hD hS 9 0 rfl rfl h10 rfl rfl (zD_g DX6_lays 16 rfl) (fun H locs hP hD hS => ?_)
        refine lv_iload_n hx hb (zD_g DX6_lays 17 rfl) rfl (lv_at hl 2 rfl) ?_
        refine lv_iload_n hx hb (zD_g DX6_lays 18 rfl) rfl (lv_at hl 1 rfl) ?_
        obtain ⟨h11, hf⟩ := zdi_s hf
        refine lv_idiv hx hb (zD_g DX6_lays 19 rfl) h11 ?_
        refine lv_topi (fun x12 ex12 => ?_)
        replace hf := zl_s hf x12 ex12
        refine lv_istore_n (lv' := [(3, .int x12), (0, .ref (q 0)), (2, .int a_n), (4, .int y3), (5, .int y4)]) hx hb (zD_g DX6_lays 20 rfl) rfl hl (by decide) rfl (fun ls hl => ?_)
        refine lv_iload hx hb (zD_g DX6_lays 21 rfl) (lv_at hl 3 rfl) ?_
        refine lv_iconst (v := (1 : Int32)) hx hb (zD_g DX6_lays 22 rfl) (by decide) ?_
        refine lv_aload_n hx hb (zD_g DX6_lays 23 rfl) rfl (lv_at hl 1 rfl) ?_
        refine va_get (D := D) (ci := 5) (v := .ref (q 9)) (C := RX6) (T := TX6) (N := 19) hx hb hts in6_lays_6 hown hK.1 hP 0 rfl rfl 17 (by decide) (hts _ (List.mem_of_getElem? (i := 1) rfl)) (fun _ h9 => h9) rfl (zD_g DX6_lays 24 rfl) ?_
        refine lv_iload hx hb (zD_g DX6_lays 25 rfl) (lv_at hl 4 rfl) ?_
        obtain ⟨h13, hf⟩ := zg_s hf
        refine z_iald (k := y4.toNatClampNeg) hx hb hK.1 hP 9 0 rfl rfl h13 rfl (zD_g DX6_lays 26 rfl) ?_
        refine lv_ishl hx hb (zD_g DX6_lays 27 rfl) ?_
        refine lv_ior hx hb (zD_g DX6_lays 28 rfl) ?_
        refine lv_topi (fun x14 ex14 => ?_)
        replace hf := zl_s hf x14 ex14
        refine lv_istore (lv' := [(4, .int x14), (3, .int x12), (0, .ref (q 0)), (2, .int a_n), (5, .int y4)]) hx hb (zD_g DX6_lays 29 rfl) hl (by decide) rfl (fun ls hl => ?_)
        refine lv_iinc (v := y4 + (-1)) (lv' := [(5, .int (y4 + (-1))), (4, .int x14), (3, .int x12), (0, .ref (q 0)), (2, .int a_n)]) (k := 4) hx hb (zD_g DX6_lays 30 rfl) hl rfl rfl (by decide) rfl (fun ls hl => ?_)
        refine lv_goto (tgt := 10) hx hb (zD_g DX6_lays 31 rfl) (by decide) ?_
        exact ih6 _ _ _ _ hf _ _ hP hD hS ls (lv_sub hl [3, 4, 2, 1, 0] rfl)
  refine hL6 _ (fun y15 row_16 hf H locs hP hD hS ls hl => ?_) _ _ _ _ _ hf _ _ hP hD hS ls (lv_sub hl [3, 5, 2, 1, 0] rfl)
  refine lv_iload hx hb (zD_g DX6_lays 32 rfl) (lv_at hl 1 rfl) ?_
  refine lv_iconst (v := (1 : Int32)) hx hb (zD_g DX6_lays 33 rfl) (by decide) ?_
  refine lv_iload_n hx hb (zD_g DX6_lays 34 rfl) rfl (lv_at hl 0 rfl) ?_
  refine lv_ishl hx hb (zD_g DX6_lays 35 rfl) ?_
  refine lv_iconst (v := (1 : Int32)) hx hb (zD_g DX6_lays 36 rfl) (by decide) ?_
  refine lv_isub hx hb (zD_g DX6_lays 37 rfl) ?_
  refine lv_icmp_ne (tgt := 63) hx hb (zD_g DX6_lays 38 rfl) (by decide) (fun c17 => ?_) (fun c17 => ?_)
  · replace hf := z_f c17 hf
    refine lv_iconst (v := (0 : Int32)) hx hb (zD_g DX6_lays 41 rfl) (by decide) ?_
    cases hf
    exact hret _ _ _ _ rfl hP hD hS (zD_g DX6_lays 42 rfl)
  · replace hf := z_t c17 hf
    refine lv_iconst (v := (1 : Int32)) hx hb (zD_g DX6_lays 39 rfl) (by decide) ?_
    refine lv_goto (tgt := 64) hx hb (zD_g DX6_lays 40 rfl) (by decide) ?_
    cases hf
    exact hret _ _ _ _ rfl hP hD hS (zD_g DX6_lays 42 rfl)
theorem hd6_lays : yX6_lays.cls = RX6 ∧ yX6_lays.cls ≠ "java/lang/invoke/MethodHandle" ∧ yX6_lays.cls ≠ "java/lang/invoke/VarHandle" ∧ (parseMethodDescriptor yX6_lays.desc).map (fun d => d.parameters.length) = some 2 := by decide +kernel
abbrev dlX6_loadOf : List (Nat × Instr × Nat) := [(0, .iconst 0, 1), (1, .istore_n 3, 1), (2, .iconst 0, 1), (3, .istore 4, 2), (5, .iload 4, 2), (7, .iload_n 1, 1), (8, .if_icmp .ge 87, 3), (11, .iconst 0, 1), (12, .istore 5, 2), (14, .iload 4, 2), (16, .istore 6, 2), (18, .iload 6, 2), (20, .iload_n 1, 1), (21, .if_icmp .ge 55, 3), (24, .iload 6, 2), (26, .iload 4, 2), (28, .iload_n 2, 1), (29, .iadd, 1), (30, .if_icmp .ge 46, 3), (33, .iload 5, 2), (35, .aload_n 0, 1), (36, .aload_n 0, 1), (37, .getfield 32, 3), (40, .aload_n 0, 1), (41, .getfield 35, 3), (44, .iload 6, 2), (46, .iaload, 1), (47, .iaload, 1), (48, .aload_n 0, 1), (49, .aload_n 0, 1), (50, .getfield 32, 3), (53, .aload_n 0, 1), (54, .getfield 35, 3), (57, .iload 6, 2), (59, .iaload, 1), (60, .iaload, 1), (61, .invokevirtual 87, 3), (64, .invokevirtual 191, 3), (67, .iadd, 1), (68, .istore 5, 2), (70, .iinc 6 1, 3), (73, .goto (-55), 3), (76, .iload 5, 2), (78, .iload_n 3, 1), (79, .if_icmp .le 8, 3), (82, .iload 5, 2), (84, .goto 4, 3), (87, .iload_n 3, 1), (88, .istore_n 3, 1), (89, .iinc 4 1, 3), (92, .goto (-87), 3), (95, .iload_n 3, 1), (96, .ireturn, 1)]
theorem DX6_loadOf : zD cX6_loadOf dlX6_loadOf = true := by decide +kernel
set_option maxRecDepth 20000 in
theorem ggX6_loadOf_X6_thingsIn : GoodIn wsX6_loadOf wsX6_thingsIn := goodIn_r _ [7, 8, 17, 18, 19, 20, 21, 22, 23, 24, 25, 26, 27, 28, 29, 30, 31, 32, 33, 34, 35] (by decide +kernel) (by decide +kernel)
set_option maxRecDepth 20000 in
theorem gX6_loadOf_X6_thingsIn : GoodIn wsX6_loadOf (wsV RX6 87 RX6 yX6_thingsIn wsX6_thingsIn) := goodIn_app (goodIn_of _ (by decide +kernel)) ggX6_loadOf_X6_thingsIn
set_option maxRecDepth 20000 in
theorem ggX6_loadOf_X6_weighs : GoodIn wsX6_loadOf wsX6_weighs := goodIn_r _ [12, 8, 13, 14, 15, 6, 16, 17, 18, 19, 20, 21, 22, 23, 24, 25, 26, 27, 28, 29, 30, 31, 32, 33, 34, 35] (by decide +kernel) (by decide +kernel)
set_option maxRecDepth 20000 in
theorem gX6_loadOf_X6_weighs : GoodIn wsX6_loadOf (wsV RX6 191 RX6 yX6_weighs wsX6_weighs) := goodIn_app (goodIn_of _ (by decide +kernel)) ggX6_loadOf_X6_weighs
def L6_loadOf_18 (k7 : Int32 → Option (Int32))  (book : Nat → Int32) (drawn : Nat → Int32) (row : Nat → Int32) (a_n : Int32) (a_c : Int32) (y2 : Int32) : Nat → Int32 → Int32 → Option (Int32)
  | 0, _, _ => none
  | n7 + 1, y5, y6 => if a_n ≤ y6 then k7 y5 else if (y2 + a_c) ≤ y6 then k7 y5 else zg y6 6 (zg (row y6.toNatClampNeg) 6 (zg y6 6 (zg (row y6.toNatClampNeg) 6 (zb1 (f6_thingsIn book (drawn (row y6.toNatClampNeg).toNatClampNeg)) (fun r14 => zb1 (f6_weighs book (drawn (row y6.toNatClampNeg).toNatClampNeg) r14) (fun r16 => zl ((y5 + r16)) (fun x18 => L6_loadOf_18 k7 book drawn row a_n a_c y2 n7 x18 (y6 + 1))))))))
def L6_loadOf_5 (k3 : Int32 → Option (Int32))  (book : Nat → Int32) (drawn : Nat → Int32) (row : Nat → Int32) (a_n : Int32) (a_c : Int32) : Nat → Int32 → Int32 → Option (Int32)
  | 0, _, _ => none
  | n3 + 1, y1, y2 => if a_n ≤ y2 then k3 y1 else L6_loadOf_18 (fun y19 => if y19 ≤ y1 then L6_loadOf_5 k3 book drawn row a_n a_c n3 y1 (y2 + 1) else L6_loadOf_5 k3 book drawn row a_n a_c n3 y19 (y2 + 1)) book drawn row a_n a_c y2 FU (0 : Int32) y2
def f6_loadOf (book : Nat → Int32) (drawn : Nat → Int32) (row : Nat → Int32) (a_n : Int32) (a_c : Int32) : Option (Int32) := L6_loadOf_5 (fun y21 => some y21) book drawn row a_n a_c FU (0 : Int32) (0 : Int32)
abbrev rm6_loadOf : Room := { frames := 2, cells := 0, slots := 0, locals := 49 }
theorem in6_loadOf_6 : ∀ w ∈ wsX60, w ∈ wsX6_loadOf := fun w h => List.mem_cons_of_mem _ (List.mem_append_right _ h)
set_option maxHeartbeats 4000000 in
set_option maxRecDepth 100000 in
theorem c6_loadOf {l : Launch} {D : va_G} {cI cZ cB : ClassId} {q : Nat → Nat} {quiet : Int32} {mabove : Int64} {mbelow : Int64} {typed : Int32} {mat : Int32} {mstart : Int32} {mtoken : Int32} {mvalue : Int32} {many : Int32} {book : Nat → Int32} {images : Nat → Int32} {mkept : Nat → Int32} {aside : Nat → Int32} {refused : Nat → Int32} {text : Nat → Int32} {items : Nat → Int32} {drawn : Nat → Int32} {row : Nat → Int32} {best : Nat → Int32} {a_n : Int32} {a_c : Int32} {r : Int32}  (hf : f6_loadOf book drawn row a_n a_c = some r) : Met l yX6_loadOf wsX6_loadOf rm6_loadOf (zPp D cI cZ cB [.ref (q 0), .int a_n, .int a_c] (cMod cI cZ q quiet mabove mbelow typed mat mstart mtoken mvalue many book images mkept aside refused text items drawn row best)) (zQp (some (.int r))) 0 0 (fun _ => False) := by
  unfold f6_loadOf at hf
  refine z_pureI RX6 (by decide +kernel) rfl rfl (Nat.le_of_ble_eq_true rfl) ?_
  intro p e s m args below meth c Q ls hx hb hml hown hts hK hP hret hl
  have hl : lv_has ls 7 [(0, .ref (q 0)), (1, .int a_n), (2, .int a_c)] := hl
  refine lv_iconst (v := (0 : Int32)) hx hb (zD_g DX6_loadOf 0 rfl) (by decide) ?_
  refine lv_istore_n (lv' := [(3, .int (0 : Int32)), (0, .ref (q 0)), (1, .int a_n), (2, .int a_c)]) hx hb (zD_g DX6_loadOf 1 rfl) rfl hl (by decide) rfl (fun ls hl => ?_)
  refine lv_iconst (v := (0 : Int32)) hx hb (zD_g DX6_loadOf 2 rfl) (by decide) ?_
  refine lv_istore (lv' := [(4, .int (0 : Int32)), (3, .int (0 : Int32)), (0, .ref (q 0)), (1, .int a_n), (2, .int a_c)]) hx hb (zD_g DX6_loadOf 3 rfl) hl (by decide) rfl (fun ls hl => ?_)
  have hL3 : ∀ (k3 : Int32 → Option (Int32)) (hk3 : ∀ (y21 : Int32), k3 y21 = some r → ∀ (ls : Array Slot), lv_has ls 7 [(3, .int y21)] → W p l e rm6_loadOf s m args below meth c s.heap [] 0 0 Q (F0 m 95 ls [])) (n3 : Nat) (y1 : Int32) (y2 : Int32), L6_loadOf_5 k3 book drawn row a_n a_c n3 y1 y2 = some r → ∀ (ls : Array Slot), lv_has ls 7 [(0, .ref (q 0)), (1, .int a_n), (2, .int a_c), (3, .int y1), (4, .int y2)] → W p l e rm6_loadOf s m args below meth c s.heap [] 0 0 Q (F0 m 5 ls []) := by
    intro k3 hk3 n3
    induction n3 with
    | zero =>
      intro y1 y2 hf
      cases hf
    | succ n3 ih3 =>
      intro y1 y2 hf ls hl
      rw [L6_loadOf_5] at hf
      refine lv_iload hx hb (zD_g DX6_loadOf 4 rfl) (lv_at hl 4 rfl) ?_
      refine lv_iload_n hx hb (zD_g DX6_loadOf 5 rfl) rfl (lv_at hl 1 rfl) ?_
      refine lv_icmp_ge (tgt := 95) hx hb (zD_g DX6_loadOf 6 rfl) (by decide) (fun c4 => ?_) (fun c4 => ?_)
      · replace hf := z_t c4 hf
        exact hk3 _ hf ls (lv_sub hl [3] rfl)
      · replace hf := z_f c4 hf
        refine lv_iconst (v := (0 : Int32)) hx hb (zD_g DX6_loadOf 7 rfl) (by decide) ?_
        refine lv_istore (lv' := [(5, .int (0 : Int32)), (0, .ref (q 0)), (1, .int a_n), (2, .int a_c), (3, .int y1), (4, .int y2)]) hx hb (zD_g DX6_loadOf 8 rfl) hl (by decide) rfl (fun ls hl => ?_)
        refine lv_iload hx hb (zD_g DX6_loadOf 9 rfl) (lv_at hl 5 rfl) ?_
        refine lv_istore (lv' := [(6, .int y2), (5, .int (0 : Int32)), (0, .ref (q 0)), (1, .int a_n), (2, .int a_c), (3, .int y1), (4, .int y2)]) hx hb (zD_g DX6_loadOf 10 rfl) hl (by decide) rfl (fun ls hl => ?_)
        have hL7 : ∀ (k7 : Int32 → Option (Int32)) (hk7 : ∀ (y19 : Int32), k7 y19 = some r → ∀ (ls : Array Slot), lv_has ls 7 [(0, .ref (q 0)), (1, .int a_n), (2, .int a_c), (3, .int y1), (4, .int y2), (5, .int y19)] → W p l e rm6_loadOf s m args below meth c s.heap [] 0 0 Q (F0 m 76 ls [])) (n7 : Nat) (y5 : Int32) (y6 : Int32), L6_loadOf_18 k7 book drawn row a_n a_c y2 n7 y5 y6 = some r → ∀ (ls : Array Slot), lv_has ls 7 [(0, .ref (q 0)), (1, .int a_n), (2, .int a_c), (3, .int y1), (4, .int y2), (5, .int y5), (6, .int y6)] → W p l e rm6_loadOf s m args below meth c s.heap [] 0 0 Q (F0 m 18 ls []) := by
          intro k7 hk7 n7
          induction n7 with
          | zero =>
            intro y5 y6 hf
            cases hf
          | succ n7 ih7 =>
            intro y5 y6 hf ls hl
            rw [L6_loadOf_18] at hf
            refine lv_iload hx hb (zD_g DX6_loadOf 11 rfl) (lv_at hl 6 rfl) ?_
            refine lv_iload_n hx hb (zD_g DX6_loadOf 12 rfl) rfl (lv_at hl 1 rfl) ?_
            refine lv_icmp_ge (tgt := 76) hx hb (zD_g DX6_loadOf 13 rfl) (by decide) (fun c8 => ?_) (fun c8 => ?_)
            · replace hf := z_t c8 hf
              exact hk7 _ hf ls (lv_sub hl [0, 1, 2, 3, 4, 5] rfl)
            · replace hf := z_f c8 hf
              refine lv_iload hx hb (zD_g DX6_loadOf 14 rfl) (lv_at hl 6 rfl) ?_
              refine lv_iload hx hb (zD_g DX6_loadOf 15 rfl) (lv_at hl 4 rfl) ?_
              refine lv_iload_n hx hb (zD_g DX6_loadOf 16 rfl) rfl (lv_at hl 2 rfl) ?_
              refine lv_iadd hx hb (zD_g DX6_loadOf 17 rfl) ?_
              refine lv_icmp_ge (tgt := 76) hx hb (zD_g DX6_loadOf 18 rfl) (by decide) (fun c9 => ?_) (fun c9 => ?_)
              · replace hf := z_t c9 hf
                exact hk7 _ hf ls (lv_sub hl [0, 1, 2, 3, 4, 5] rfl)
              · replace hf := z_f c9 hf
                refine lv_iload hx hb (zD_g DX6_loadOf 19 rfl) (lv_at hl 5 rfl) ?_
                refine lv_aload_n hx hb (zD_g DX6_loadOf 20 rfl) rfl (lv_at hl 0 rfl) ?_
                refine lv_aload_n hx hb (zD_g DX6_loadOf 21 rfl) rfl (lv_at hl 0 rfl) ?_
                refine va_get (D := D) (ci := 5) (v := .ref (q 8)) (C := RX6) (T := TX6) (N := 19) hx hb hts in6_loadOf_6 hown hK.1 hP 0 rfl rfl 16 (by decide) (hts _ (List.mem_of_getElem? (i := 1) rfl)) (fun _ h9 => h9) rfl (zD_g DX6_loadOf 22 rfl) ?_
                refine lv_aload_n hx hb (zD_g DX6_loadOf 23 rfl) rfl (lv_at hl 0 rfl) ?_
                refine va_get (D := D) (ci := 5) (v := .ref (q 9)) (C := RX6) (T := TX6) (N := 19) hx hb hts in6_loadOf_6 hown hK.1 hP 0 rfl rfl 17 (by decide) (hts _ (List.mem_of_getElem? (i := 2) rfl)) (fun _ h9 => h9) rfl (zD_g DX6_loadOf 24 rfl) ?_
                refine lv_iload hx hb (zD_g DX6_loadOf 25 rfl) (lv_at hl 6 rfl) ?_
                obtain ⟨h10, hf⟩ := zg_s hf
                refine z_iald (k := y6.toNatClampNeg) hx hb hK.1 hP 9 0 rfl rfl h10 rfl (zD_g DX6_loadOf 26 rfl) ?_
                obtain ⟨h11, hf⟩ := zg_s hf
                refine z_iald (k := (row y6.toNatClampNeg).toNatClampNeg) hx hb hK.1 hP 8 0 rfl rfl h11 rfl (zD_g DX6_loadOf 27 rfl) ?_
                refine lv_aload_n hx hb (zD_g DX6_loadOf 28 rfl) rfl (lv_at hl 0 rfl) ?_
                refine lv_aload_n hx hb (zD_g DX6_loadOf 29 rfl) rfl (lv_at hl 0 rfl) ?_
                refine va_get (D := D) (ci := 5) (v := .ref (q 8)) (C := RX6) (T := TX6) (N := 19) hx hb hts in6_loadOf_6 hown hK.1 hP 0 rfl rfl 16 (by decide) (hts _ (List.mem_of_getElem? (i := 1) rfl)) (fun _ h9 => h9) rfl (zD_g DX6_loadOf 30 rfl) ?_
                refine lv_aload_n hx hb (zD_g DX6_loadOf 31 rfl) rfl (lv_at hl 0 rfl) ?_
                refine va_get (D := D) (ci := 5) (v := .ref (q 9)) (C := RX6) (T := TX6) (N := 19) hx hb hts in6_loadOf_6 hown hK.1 hP 0 rfl rfl 17 (by decide) (hts _ (List.mem_of_getElem? (i := 2) rfl)) (fun _ h9 => h9) rfl (zD_g DX6_loadOf 32 rfl) ?_
                refine lv_iload hx hb (zD_g DX6_loadOf 33 rfl) (lv_at hl 6 rfl) ?_
                obtain ⟨h12, hf⟩ := zg_s hf
                refine z_iald (k := y6.toNatClampNeg) hx hb hK.1 hP 9 0 rfl rfl h12 rfl (zD_g DX6_loadOf 34 rfl) ?_
                obtain ⟨h13, hf⟩ := zg_s hf
                refine z_iald (k := (row y6.toNatClampNeg).toNatClampNeg) hx hb hK.1 hP 8 0 rfl rfl h13 rfl (zD_g DX6_loadOf 35 rfl) ?_
                obtain ⟨r14, hc15, hf⟩ := zb1_s hf
                refine z_Vp (As := [.int (drawn (row y6.toNatClampNeg).toNatClampNeg)]) (rest := [.int (drawn (row y6.toNatClampNeg).toNatClampNeg), .ref (q 0), .int y5]) ⟨hx, hb, hml, hown, hts⟩ hK (c6_thingsIn (quiet := quiet) (mabove := mabove) (mbelow := mbelow) (typed := typed) (mat := mat) (mstart := mstart) (mtoken := mtoken) (mvalue := mvalue) (many := many) (book := book) (images := images) (mkept := mkept) (aside := aside) (refused := refused) (text := text) (items := items) (drawn := drawn) (row := row) (best := best) (q := q) hc15) (cwV 1 hts gX6_loadOf_X6_thingsIn rfl rfl rfl hd6_thingsIn ⟨Nat.le_of_ble_eq_true rfl, Nat.le_of_ble_eq_true rfl⟩) hP rfl rfl rfl rfl hl.1 rfl rfl (Nat.le_of_ble_eq_true rfl) (zD_g DX6_loadOf 36 rfl) ⟨Nat.zero_le _, Nat.zero_le _⟩ ?_
                obtain ⟨r16, hc17, hf⟩ := zb1_s hf
                refine z_Vp (As := [.int (drawn (row y6.toNatClampNeg).toNatClampNeg), .int r14]) (rest := [.int y5]) ⟨hx, hb, hml, hown, hts⟩ hK (c6_weighs (quiet := quiet) (mabove := mabove) (mbelow := mbelow) (typed := typed) (mat := mat) (mstart := mstart) (mtoken := mtoken) (mvalue := mvalue) (many := many) (book := book) (images := images) (mkept := mkept) (aside := aside) (refused := refused) (text := text) (items := items) (drawn := drawn) (row := row) (best := best) (q := q) hc17) (cwV 2 hts gX6_loadOf_X6_weighs rfl rfl rfl hd6_weighs ⟨Nat.le_of_ble_eq_true rfl, Nat.le_of_ble_eq_true rfl⟩) hP rfl rfl rfl rfl hl.1 rfl rfl (Nat.le_of_ble_eq_true rfl) (zD_g DX6_loadOf 37 rfl) ⟨Nat.zero_le _, Nat.zero_le _⟩ ?_
                refine lv_iadd hx hb (zD_g DX6_loadOf 38 rfl) ?_
                refine lv_topi (fun x18 ex18 => ?_)
                replace hf := zl_s hf x18 ex18
                refine lv_istore (lv' := [(5, .int x18), (0, .ref (q 0)), (1, .int a_n), (2, .int a_c), (3, .int y1), (4, .int y2), (6, .int y6)]) hx hb (zD_g DX6_loadOf 39 rfl) hl (by decide) rfl (fun ls hl => ?_)
                refine lv_iinc (v := y6 + 1) (lv' := [(6, .int (y6 + 1)), (5, .int x18), (0, .ref (q 0)), (1, .int a_n), (2, .int a_c), (3, .int y1), (4, .int y2)]) (k := 6) hx hb (zD_g DX6_loadOf 40 rfl) hl rfl rfl (by decide) rfl (fun ls hl => ?_)
                refine lv_goto (tgt := 18) hx hb (zD_g DX6_loadOf 41 rfl) (by decide) ?_
                exact ih7 _ _ hf ls (lv_sub hl [2, 3, 4, 5, 6, 1, 0] rfl)
        refine hL7 _ (fun y19 hf ls hl => ?_) _ _ _ hf ls (lv_sub hl [2, 3, 4, 5, 6, 1, 0] rfl)
        refine lv_iload hx hb (zD_g DX6_loadOf 42 rfl) (lv_at hl 5 rfl) ?_
        refine lv_iload_n hx hb (zD_g DX6_loadOf 43 rfl) rfl (lv_at hl 3 rfl) ?_
        refine lv_icmp_le (tgt := 87) hx hb (zD_g DX6_loadOf 44 rfl) (by decide) (fun c20 => ?_) (fun c20 => ?_)
        · replace hf := z_t c20 hf
          refine lv_iload_n hx hb (zD_g DX6_loadOf 47 rfl) rfl (lv_at hl 3 rfl) ?_
          refine lv_istore_n (lv' := [(3, .int y1), (0, .ref (q 0)), (1, .int a_n), (2, .int a_c), (4, .int y2), (5, .int y19)]) hx hb (zD_g DX6_loadOf 48 rfl) rfl hl (by decide) rfl (fun ls hl => ?_)
          refine lv_iinc (v := y2 + 1) (lv' := [(4, .int (y2 + 1)), (3, .int y1), (0, .ref (q 0)), (1, .int a_n), (2, .int a_c), (5, .int y19)]) (k := 4) hx hb (zD_g DX6_loadOf 49 rfl) hl rfl rfl (by decide) rfl (fun ls hl => ?_)
          refine lv_goto (tgt := 5) hx hb (zD_g DX6_loadOf 50 rfl) (by decide) ?_
          exact ih3 _ _ hf ls (lv_sub hl [2, 3, 4, 1, 0] rfl)
        · replace hf := z_f c20 hf
          refine lv_iload hx hb (zD_g DX6_loadOf 45 rfl) (lv_at hl 5 rfl) ?_
          refine lv_goto (tgt := 88) hx hb (zD_g DX6_loadOf 46 rfl) (by decide) ?_
          refine lv_istore_n (lv' := [(3, .int y19), (0, .ref (q 0)), (1, .int a_n), (2, .int a_c), (4, .int y2), (5, .int y19)]) hx hb (zD_g DX6_loadOf 48 rfl) rfl hl (by decide) rfl (fun ls hl => ?_)
          refine lv_iinc (v := y2 + 1) (lv' := [(4, .int (y2 + 1)), (3, .int y19), (0, .ref (q 0)), (1, .int a_n), (2, .int a_c), (5, .int y19)]) (k := 4) hx hb (zD_g DX6_loadOf 49 rfl) hl rfl rfl (by decide) rfl (fun ls hl => ?_)
          refine lv_goto (tgt := 5) hx hb (zD_g DX6_loadOf 50 rfl) (by decide) ?_
          exact ih3 _ _ hf ls (lv_sub hl [2, 3, 4, 1, 0] rfl)
  refine hL3 _ (fun y21 hf ls hl => ?_) _ _ _ hf ls (lv_sub hl [2, 3, 4, 1, 0] rfl)
  refine lv_iload_n hx hb (zD_g DX6_loadOf 51 rfl) rfl (lv_at hl 0 rfl) ?_
  cases hf
  exact hret _ _ (zD_g DX6_loadOf 52 rfl)
theorem hd6_loadOf : yX6_loadOf.cls = RX6 ∧ yX6_loadOf.cls ≠ "java/lang/invoke/MethodHandle" ∧ yX6_loadOf.cls ≠ "java/lang/invoke/VarHandle" ∧ (parseMethodDescriptor yX6_loadOf.desc).map (fun d => d.parameters.length) = some 2 := by decide +kernel
abbrev dlX6_carts : List (Nat × Instr × Nat) := [(0, .iload_n 1, 1), (1, .invokestatic 73, 3), (4, .ifCond .eq 33, 3), (7, .iload_n 2, 1), (8, .i2l, 1), (9, .lconst 0, 1), (10, .ldc2_w 243, 3), (13, .invokestatic 56, 3), (16, .ifCond .eq 21, 3), (19, .iload_n 3, 1), (20, .i2l, 1), (21, .lconst 1, 1), (22, .ldc2_w 245, 3), (25, .invokestatic 56, 3), (28, .ifCond .eq 9, 3), (31, .iload 4, 2), (33, .iconst (-1), 1), (34, .if_icmp .ge 11, 3), (37, .aload_n 0, 1), (38, .iconst 0, 1), (39, .bipush (-10), 2), (41, .invokevirtual 52, 3), (44, .ireturn, 1), (45, .iconst 0, 1), (46, .istore 5, 2), (48, .iconst 0, 1), (49, .istore 6, 2), (51, .iload 6, 2), (53, .aload_n 0, 1), (54, .getfield 7, 3), (57, .iconst 1, 1), (58, .iaload, 1), (59, .if_icmp .ge 35, 3), (62, .aload_n 0, 1), (63, .getfield 7, 3), (66, .bipush 68, 2), (68, .iload 6, 2), (70, .iadd, 1), (71, .iaload, 1), (72, .iload_n 1, 1), (73, .if_icmp .ne 15, 3), (76, .aload_n 0, 1), (77, .getfield 32, 3), (80, .iload 5, 2), (82, .iload 6, 2), (84, .iastore, 1), (85, .iinc 5 1, 3), (88, .iinc 6 1, 3), (91, .goto (-40), 3), (94, .iconst 1, 1), (95, .istore 6, 2), (97, .iconst 0, 1), (98, .istore 7, 2), (100, .iload 7, 2), (102, .iload 5, 2), (104, .if_icmp .ge 16, 3), (107, .iload 6, 2), (109, .iload 5, 2), (111, .imul, 1), (112, .istore 6, 2), (114, .iinc 7 1, 3), (117, .goto (-17), 3), (120, .iconst (-1), 1), (121, .istore 7, 2), (123, .iconst 0, 1), (124, .istore 8, 2), (126, .iload 8, 2), (128, .iload 6, 2), (130, .if_icmp .ge 81, 3), (133, .aload_n 0, 1), (134, .iload 8, 2), (136, .iload 5, 2), (138, .invokevirtual 247, 3), (141, .ifCond .eq 64, 3), (144, .aload_n 0, 1), (145, .iload 5, 2), (147, .iload_n 3, 1), (148, .invokevirtual 250, 3), (151, .istore 9, 2), (153, .iload 7, 2), (155, .iconst (-1), 1), (156, .if_icmp .eq 10, 3), (159, .iload 9, 2), (161, .iload 7, 2), (163, .if_icmp .ge 42, 3), (166, .iload 9, 2), (168, .istore 7, 2), (170, .iconst 0, 1), (171, .istore 10, 2), (173, .iload 10, 2), (175, .iload 5, 2), (177, .if_icmp .ge 28, 3), (180, .aload_n 0, 1), (181, .getfield 38, 3), (184, .iload 10, 2), (186, .aload_n 0, 1), (187, .getfield 32, 3), (190, .aload_n 0, 1), (191, .getfield 35, 3), (194, .iload 10, 2), (196, .iaload, 1), (197, .iaload, 1), (198, .iastore, 1), (199, .iinc 10 1, 3), (202, .goto (-29), 3), (205, .iinc 8 1, 3), (208, .goto (-82), 3), (211, .iload 7, 2), (213, .iload_n 2, 1), (214, .if_icmp .le 7, 3), (217, .iconst (-1), 1), (218, .goto 33, 3), (221, .iload 4, 2), (223, .iconst (-1), 1), (224, .if_icmp .ne 8, 3), (227, .iload 7, 2), (229, .goto 22, 3), (232, .iload 4, 2), (234, .iload 5, 2), (236, .if_icmp .ge 13, 3), (239, .aload_n 0, 1), (240, .getfield 38, 3), (243, .iload 4, 2), (245, .iaload, 1), (246, .goto 5, 3), (249, .bipush (-5), 2), (251, .ireturn, 1)]
theorem DX6_carts : zD cX6_carts dlX6_carts = true := by decide +kernel
set_option maxRecDepth 20000 in
theorem ggX6_carts_X6_isCity : GoodIn wsX6_carts wsX6_isCity := goodIn_r _ [10, 11, 12, 9, 13] (by decide +kernel) (by decide +kernel)
set_option maxRecDepth 20000 in
theorem gX6_carts_X6_isCity : GoodIn wsX6_carts (va_wsS RX6 73 yX6_isCity wsX6_isCity) := goodIn_app (goodIn_of _ (by decide +kernel)) ggX6_carts_X6_isCity
set_option maxRecDepth 20000 in
theorem ggX6_carts_X6_in : GoodIn wsX6_carts wsX6_in := goodIn_r _ [13] (by decide +kernel) (by decide +kernel)
set_option maxRecDepth 20000 in
theorem gX6_carts_X6_in : GoodIn wsX6_carts (va_wsS RX6 56 yX6_in wsX6_in) := goodIn_app (goodIn_of _ (by decide +kernel)) ggX6_carts_X6_in
set_option maxRecDepth 20000 in
theorem ggX6_carts_X6_refuses : GoodIn wsX6_carts wsX6_refuses := goodIn_r _ [17, 18, 19, 40, 41, 42, 43, 44, 45, 46, 47, 48, 49, 50, 51, 52, 53, 54, 55, 56, 57, 58] (by decide +kernel) (by decide +kernel)
set_option maxRecDepth 20000 in
theorem gX6_carts_X6_refuses : GoodIn wsX6_carts (wsV RX6 52 RX6 yX6_refuses wsX6_refuses) := goodIn_app (goodIn_of _ (by decide +kernel)) ggX6_carts_X6_refuses
set_option maxRecDepth 20000 in
theorem ggX6_carts_X6_lays : GoodIn wsX6_carts wsX6_lays := goodIn_r _ [23, 6, 40, 41, 42, 43, 44, 45, 46, 47, 48, 49, 50, 51, 52, 53, 54, 55, 56, 57, 58] (by decide +kernel) (by decide +kernel)
set_option maxRecDepth 20000 in
theorem gX6_carts_X6_lays : GoodIn wsX6_carts (wsV RX6 247 RX6 yX6_lays wsX6_lays) := goodIn_app (goodIn_of _ (by decide +kernel)) ggX6_carts_X6_lays
set_option maxRecDepth 20000 in
theorem ggX6_carts_X6_loadOf : GoodIn wsX6_carts wsX6_loadOf := goodIn_r _ [27, 4, 6, 28, 29, 30, 9, 31, 3, 32, 33, 34, 35, 36, 37, 38, 39, 40, 41, 42, 43, 44, 45, 46, 47, 48, 49, 50, 51, 52, 53, 54, 55, 56, 57, 58] (by decide +kernel) (by decide +kernel)
set_option maxRecDepth 20000 in
theorem gX6_carts_X6_loadOf : GoodIn wsX6_carts (wsV RX6 250 RX6 yX6_loadOf wsX6_loadOf) := goodIn_app (goodIn_of _ (by decide +kernel)) ggX6_carts_X6_loadOf
def L6_carts_51 (k23 : Int32 → (Nat → Int32) → Option (Int32 × (Nat → Int32) × (Nat → Int32) × (Nat → Int32) × (Nat → Int32)))  (book : Nat → Int32) (a_c : Int32) : Nat → Int32 → Int32 → (Nat → Int32) → Option (Int32 × (Nat → Int32) × (Nat → Int32) × (Nat → Int32) × (Nat → Int32))
  | 0, _, _, _ => none
  | n23 + 1, y20, y21, drawn_22 => if (book 1) ≤ y21 then k23 y20 drawn_22 else zg ((68 : Int32) + y21) 230 (if (book ((68 : Int32) + y21).toNatClampNeg) = a_c then zg y20 6 (L6_carts_51 k23 book a_c n23 (y20 + 1) (y21 + 1) (upd drawn_22 y20.toNatClampNeg y21)) else L6_carts_51 k23 book a_c n23 y20 (y21 + 1) drawn_22)
def L6_carts_100 (k32 : Int32 → Option (Int32 × (Nat → Int32) × (Nat → Int32) × (Nat → Int32) × (Nat → Int32)))  (y28 : Int32) : Nat → Int32 → Int32 → Option (Int32 × (Nat → Int32) × (Nat → Int32) × (Nat → Int32) × (Nat → Int32))
  | 0, _, _ => none
  | n32 + 1, y30, y31 => if y28 ≤ y31 then k32 y30 else zl ((y30 * y28)) (fun x34 => L6_carts_100 k32 y28 n32 x34 (y31 + 1))
def L6_carts_173 (k51 : (Nat → Int32) → Option (Int32 × (Nat → Int32) × (Nat → Int32) × (Nat → Int32) × (Nat → Int32)))  (y28 : Int32) (drawn_29 : Nat → Int32) (row_43 : Nat → Int32) : Nat → Int32 → (Nat → Int32) → Option (Int32 × (Nat → Int32) × (Nat → Int32) × (Nat → Int32) × (Nat → Int32))
  | 0, _, _ => none
  | n51 + 1, y49, best_50 => if y28 ≤ y49 then k51 best_50 else zg y49 6 (zg (row_43 y49.toNatClampNeg) 6 (zl ((drawn_29 (row_43 y49.toNatClampNeg).toNatClampNeg)) (fun x55 => zg y49 6 (L6_carts_173 k51 y28 drawn_29 row_43 n51 (y49 + 1) (upd best_50 y49.toNatClampNeg x55)))))
def L6_carts_173_61 (k61 : (Nat → Int32) → Option (Int32 × (Nat → Int32) × (Nat → Int32) × (Nat → Int32) × (Nat → Int32)))  (y28 : Int32) (drawn_29 : Nat → Int32) (row_43 : Nat → Int32) : Nat → Int32 → (Nat → Int32) → Option (Int32 × (Nat → Int32) × (Nat → Int32) × (Nat → Int32) × (Nat → Int32))
  | 0, _, _ => none
  | n61 + 1, y59, best_60 => if y28 ≤ y59 then k61 best_60 else zg y59 6 (zg (row_43 y59.toNatClampNeg) 6 (zl ((drawn_29 (row_43 y59.toNatClampNeg).toNatClampNeg)) (fun x65 => zg y59 6 (L6_carts_173_61 k61 y28 drawn_29 row_43 n61 (y59 + 1) (upd best_60 y59.toNatClampNeg x65)))))
def L6_carts_126 (k40 : Int32 → (Nat → Int32) → (Nat → Int32) → Option (Int32 × (Nat → Int32) × (Nat → Int32) × (Nat → Int32) × (Nat → Int32)))  (book : Nat → Int32) (a_near : Int32) (y28 : Int32) (drawn_29 : Nat → Int32) (y35 : Int32) : Nat → Int32 → Int32 → (Nat → Int32) → (Nat → Int32) → Option (Int32 × (Nat → Int32) × (Nat → Int32) × (Nat → Int32) × (Nat → Int32))
  | 0, _, _, _, _ => none
  | n40 + 1, y36, y37, row_38, best_39 => if y35 ≤ y37 then k40 y36 row_38 best_39 else zb2 (f6_lays row_38 y37 y28) (fun r42 row_43 => if r42 = 0 then L6_carts_126 k40 book a_near y28 drawn_29 y35 n40 y36 (y37 + 1) row_43 best_39 else zb1 (f6_loadOf book drawn_29 row_43 y28 a_near) (fun r46 => if y36 = (-1 : Int32) then L6_carts_173 (fun best_57 => L6_carts_126 k40 book a_near y28 drawn_29 y35 n40 r46 (y37 + 1) row_43 best_57) y28 drawn_29 row_43 FU (0 : Int32) best_39 else if y36 ≤ r46 then L6_carts_126 k40 book a_near y28 drawn_29 y35 n40 y36 (y37 + 1) row_43 best_39 else L6_carts_173_61 (fun best_67 => L6_carts_126 k40 book a_near y28 drawn_29 y35 n40 r46 (y37 + 1) row_43 best_67) y28 drawn_29 row_43 FU (0 : Int32) best_39))
def f6_carts (quiet : Int32) (book : Nat → Int32) (refused : Nat → Int32) (drawn : Nat → Int32) (row : Nat → Int32) (best : Nat → Int32) (a_c : Int32) (a_b : Int32) (a_near : Int32) (a_place : Int32) : Option (Int32 × (Nat → Int32) × (Nat → Int32) × (Nat → Int32) × (Nat → Int32)) := zb1 (f6_isCity a_c) (fun r1 => if r1 = 0 then zb2 (f6_refuses quiet refused (0 : Int32) (-10 : Int32)) (fun r4 refused_5 => some (r4, refused_5, drawn, row, best)) else zb1 (f6_in ((a_b).toInt64) (0 : Int64) (400 : Int64)) (fun r7 => if r7 = 0 then zb2 (f6_refuses quiet refused (0 : Int32) (-10 : Int32)) (fun r10 refused_11 => some (r10, refused_11, drawn, row, best)) else zb1 (f6_in ((a_near).toInt64) (1 : Int64) (3 : Int64)) (fun r13 => if r13 = 0 then zb2 (f6_refuses quiet refused (0 : Int32) (-10 : Int32)) (fun r16 refused_17 => some (r16, refused_17, drawn, row, best)) else if (-1 : Int32) ≤ a_place then L6_carts_51 (fun y28 drawn_29 => L6_carts_100 (fun y35 => L6_carts_126 (fun y68 row_69 best_70 => if y68 ≤ a_b then if a_place = (-1 : Int32) then some (y68, refused, drawn_29, row_69, best_70) else if y28 ≤ a_place then some ((-5 : Int32), refused, drawn_29, row_69, best_70) else zg a_place 6 (some ((best_70 a_place.toNatClampNeg), refused, drawn_29, row_69, best_70)) else some ((-1 : Int32), refused, drawn_29, row_69, best_70)) book a_near y28 drawn_29 y35 FU (-1 : Int32) (0 : Int32) row best) y28 FU (1 : Int32) (0 : Int32)) book a_c FU (0 : Int32) (0 : Int32) drawn else zb2 (f6_refuses quiet refused (0 : Int32) (-10 : Int32)) (fun r75 refused_76 => some (r75, refused_76, drawn, row, best)))))
abbrev rm6_carts : Room := { frames := 3, cells := 0, slots := 0, locals := 75 }
theorem in6_carts_6 : ∀ w ∈ wsX60, w ∈ wsX6_carts := fun w h => List.mem_cons_of_mem _ (List.mem_append_right _ h)
set_option maxHeartbeats 4000000 in
set_option maxRecDepth 100000 in
theorem c6_carts {l : Launch} {D : va_G} {cI cZ cB : ClassId} {q : Nat → Nat} {sz : Nat} {quiet : Int32} {mabove : Int64} {mbelow : Int64} {typed : Int32} {mat : Int32} {mstart : Int32} {mtoken : Int32} {mvalue : Int32} {many : Int32} {book : Nat → Int32} {images : Nat → Int32} {mkept : Nat → Int32} {aside : Nat → Int32} {refused : Nat → Int32} {text : Nat → Int32} {items : Nat → Int32} {drawn : Nat → Int32} {row : Nat → Int32} {best : Nat → Int32} {a_c : Int32} {a_b : Int32} {a_near : Int32} {a_place : Int32} {r : Int32} {d_refused : Nat → Int32} {d_drawn : Nat → Int32} {d_row : Nat → Int32} {d_best : Nat → Int32} (hf : f6_carts quiet book refused drawn row best a_c a_b a_near a_place = some (r, d_refused, d_drawn, d_row, d_best)) : Met l yX6_carts wsX6_carts rm6_carts (zPm D cI cZ cB [.ref (q 0), .int a_c, .int a_b, .int a_near, .int a_place] sz (cMod cI cZ q quiet mabove mbelow typed mat mstart mtoken mvalue many book images mkept aside refused text items drawn row best)) (zQm D (some (.int r)) (cMod cI cZ q quiet mabove mbelow typed mat mstart mtoken mvalue many book images mkept aside d_refused text items d_drawn d_row d_best) (va_A (cMod cI cZ q quiet mabove mbelow typed mat mstart mtoken mvalue many book images mkept aside refused text items drawn row best) sz)) 0 0 (va_A (cMod cI cZ q quiet mabove mbelow typed mat mstart mtoken mvalue many book images mkept aside refused text items drawn row best) sz) := by
  unfold f6_carts at hf
  refine z_mutI RX6 (by decide +kernel) rfl rfl (Nat.le_of_ble_eq_true rfl) ?_
  intro p e s m args below meth c Q A ls hx hb hml hown hts hK hP hD hS hA hret hl
  have hl : lv_has ls 11 [(0, .ref (q 0)), (1, .int a_c), (2, .int a_b), (3, .int a_near), (4, .int a_place)] := hl
  refine lv_iload_n hx hb (zD_g DX6_carts 0 rfl) rfl (lv_at hl 1 rfl) ?_
  obtain ⟨r1, hc2, hf⟩ := zb1_s hf
  refine z_Sp (As := [.int a_c]) (rest := []) ⟨hx, hb, hml, hown, hts⟩ hK (c6_isCity  hc2) (va_cwS 1 hts gX6_carts_X6_isCity rfl rfl rfl hd6_isCity ⟨Nat.le_of_ble_eq_true rfl, Nat.le_of_ble_eq_true rfl⟩) (hP.sub [] rfl) rfl hl.1 rfl rfl (Nat.le_of_ble_eq_true rfl) (zD_g DX6_carts 1 rfl) ⟨Nat.zero_le _, Nat.zero_le _⟩ ?_
  refine lv_if_eq (tgt := 37) hx hb (zD_g DX6_carts 2 rfl) (by decide) (fun c3 => ?_) (fun c3 => ?_)
  · replace hf := z_t c3 hf
    refine lv_aload_n hx hb (zD_g DX6_carts 18 rfl) rfl (lv_at hl 0 rfl) ?_
    refine lv_iconst (v := (0 : Int32)) hx hb (zD_g DX6_carts 19 rfl) (by decide) ?_
    refine lv_bipush (v := (-10 : Int32)) hx hb (zD_g DX6_carts 20 rfl) (by decide) ?_
    obtain ⟨r4, refused_5, hc6, hf⟩ := zb2_s hf
    refine z_Vm (As := [.int (0 : Int32), .int (-10 : Int32)]) (rest := []) (ws' := (cMod cI cZ q quiet mabove mbelow typed mat mstart mtoken mvalue many book images mkept aside refused_5 text items drawn row best)) ⟨hx, hb, hml, hown, hts⟩ hK (c6_refuses (quiet := quiet) (mabove := mabove) (mbelow := mbelow) (typed := typed) (mat := mat) (mstart := mstart) (mtoken := mtoken) (mvalue := mvalue) (many := many) (book := book) (images := images) (mkept := mkept) (aside := aside) (refused := refused) (text := text) (items := items) (drawn := drawn) (row := row) (best := best) (q := q) hc6) (cwV 2 hts gX6_carts_X6_refuses rfl rfl rfl hd6_refuses ⟨Nat.le_of_ble_eq_true rfl, Nat.le_of_ble_eq_true rfl⟩) hP hD hS hA 11 [0, 1, 2, 3, 4, 5, 6, 7, 8, 9, 10] [] [0, 1, 2, 3, 4, 5, 6, 7, 8, 9, 10] (by decide +kernel) rfl rfl rfl rfl rfl rfl rfl hl.1 rfl rfl (Nat.le_of_ble_eq_true rfl) (zD_g DX6_carts 21 rfl) ⟨Nat.zero_le _, Nat.zero_le _⟩ (fun H locs hP hD hS => ?_)
    cases hf
    exact hret _ _ _ _ hP hD hS (zD_g DX6_carts 22 rfl)
  · replace hf := z_f c3 hf
    refine lv_iload_n hx hb (zD_g DX6_carts 3 rfl) rfl (lv_at hl 2 rfl) ?_
    refine lv_i2l (v := (a_b).toInt64) hx hb (zD_g DX6_carts 4 rfl) rfl ?_
    refine lv_lconst (v := (0 : Int64)) hx hb (zD_g DX6_carts 5 rfl) (by decide) ?_
    refine lv_ldc2 (v := (400 : Int64)) hx hb hown (hts _ (List.mem_of_getElem? (i := 1) rfl)) (zD_g DX6_carts 6 rfl) ?_
    obtain ⟨r7, hc8, hf⟩ := zb1_s hf
    refine z_Sp (As := [.long ((a_b).toInt64), .long (0 : Int64), .long (400 : Int64)]) (rest := []) ⟨hx, hb, hml, hown, hts⟩ hK (c6_in  hc8) (va_cwS 3 hts gX6_carts_X6_in rfl rfl rfl hd6_in ⟨Nat.le_of_ble_eq_true rfl, Nat.le_of_ble_eq_true rfl⟩) (hP.sub [] rfl) rfl hl.1 rfl rfl (Nat.le_of_ble_eq_true rfl) (zD_g DX6_carts 7 rfl) ⟨Nat.zero_le _, Nat.zero_le _⟩ ?_
    refine lv_if_eq (tgt := 37) hx hb (zD_g DX6_carts 8 rfl) (by decide) (fun c9 => ?_) (fun c9 => ?_)
    · replace hf := z_t c9 hf
      refine lv_aload_n hx hb (zD_g DX6_carts 18 rfl) rfl (lv_at hl 0 rfl) ?_
      refine lv_iconst (v := (0 : Int32)) hx hb (zD_g DX6_carts 19 rfl) (by decide) ?_
      refine lv_bipush (v := (-10 : Int32)) hx hb (zD_g DX6_carts 20 rfl) (by decide) ?_
      obtain ⟨r10, refused_11, hc12, hf⟩ := zb2_s hf
      refine z_Vm (As := [.int (0 : Int32), .int (-10 : Int32)]) (rest := []) (ws' := (cMod cI cZ q quiet mabove mbelow typed mat mstart mtoken mvalue many book images mkept aside refused_11 text items drawn row best)) ⟨hx, hb, hml, hown, hts⟩ hK (c6_refuses (quiet := quiet) (mabove := mabove) (mbelow := mbelow) (typed := typed) (mat := mat) (mstart := mstart) (mtoken := mtoken) (mvalue := mvalue) (many := many) (book := book) (images := images) (mkept := mkept) (aside := aside) (refused := refused) (text := text) (items := items) (drawn := drawn) (row := row) (best := best) (q := q) hc12) (cwV 2 hts gX6_carts_X6_refuses rfl rfl rfl hd6_refuses ⟨Nat.le_of_ble_eq_true rfl, Nat.le_of_ble_eq_true rfl⟩) hP hD hS hA 11 [0, 1, 2, 3, 4, 5, 6, 7, 8, 9, 10] [] [0, 1, 2, 3, 4, 5, 6, 7, 8, 9, 10] (by decide +kernel) rfl rfl rfl rfl rfl rfl rfl hl.1 rfl rfl (Nat.le_of_ble_eq_true rfl) (zD_g DX6_carts 21 rfl) ⟨Nat.zero_le _, Nat.zero_le _⟩ (fun H locs hP hD hS => ?_)
      cases hf
      exact hret _ _ _ _ hP hD hS (zD_g DX6_carts 22 rfl)
    · replace hf := z_f c9 hf
      refine lv_iload_n hx hb (zD_g DX6_carts 9 rfl) rfl (lv_at hl 3 rfl) ?_
      refine lv_i2l (v := (a_near).toInt64) hx hb (zD_g DX6_carts 10 rfl) rfl ?_
      refine lv_lconst (v := (1 : Int64)) hx hb (zD_g DX6_carts 11 rfl) (by decide) ?_
      refine lv_ldc2 (v := (3 : Int64)) hx hb hown (hts _ (List.mem_of_getElem? (i := 2) rfl)) (zD_g DX6_carts 12 rfl) ?_
      obtain ⟨r13, hc14, hf⟩ := zb1_s hf
      refine z_Sp (As := [.long ((a_near).toInt64), .long (1 : Int64), .long (3 : Int64)]) (rest := []) ⟨hx, hb, hml, hown, hts⟩ hK (c6_in  hc14) (va_cwS 3 hts gX6_carts_X6_in rfl rfl rfl hd6_in ⟨Nat.le_of_ble_eq_true rfl, Nat.le_of_ble_eq_true rfl⟩) (hP.sub [] rfl) rfl hl.1 rfl rfl (Nat.le_of_ble_eq_true rfl) (zD_g DX6_carts 13 rfl) ⟨Nat.zero_le _, Nat.zero_le _⟩ ?_
      refine lv_if_eq (tgt := 37) hx hb (zD_g DX6_carts 14 rfl) (by decide) (fun c15 => ?_) (fun c15 => ?_)
      · replace hf := z_t c15 hf
        refine lv_aload_n hx hb (zD_g DX6_carts 18 rfl) rfl (lv_at hl 0 rfl) ?_
        refine lv_iconst (v := (0 : Int32)) hx hb (zD_g DX6_carts 19 rfl) (by decide) ?_
        refine lv_bipush (v := (-10 : Int32)) hx hb (zD_g DX6_carts 20 rfl) (by decide) ?_
        obtain ⟨r16, refused_17, hc18, hf⟩ := zb2_s hf
        refine z_Vm (As := [.int (0 : Int32), .int (-10 : Int32)]) (rest := []) (ws' := (cMod cI cZ q quiet mabove mbelow typed mat mstart mtoken mvalue many book images mkept aside refused_17 text items drawn row best)) ⟨hx, hb, hml, hown, hts⟩ hK (c6_refuses (quiet := quiet) (mabove := mabove) (mbelow := mbelow) (typed := typed) (mat := mat) (mstart := mstart) (mtoken := mtoken) (mvalue := mvalue) (many := many) (book := book) (images := images) (mkept := mkept) (aside := aside) (refused := refused) (text := text) (items := items) (drawn := drawn) (row := row) (best := best) (q := q) hc18) (cwV 2 hts gX6_carts_X6_refuses rfl rfl rfl hd6_refuses ⟨Nat.le_of_ble_eq_true rfl, Nat.le_of_ble_eq_true rfl⟩) hP hD hS hA 11 [0, 1, 2, 3, 4, 5, 6, 7, 8, 9, 10] [] [0, 1, 2, 3, 4, 5, 6, 7, 8, 9, 10] (by decide +kernel) rfl rfl rfl rfl rfl rfl rfl hl.1 rfl rfl (Nat.le_of_ble_eq_true rfl) (zD_g DX6_carts 21 rfl) ⟨Nat.zero_le _, Nat.zero_le _⟩ (fun H locs hP hD hS => ?_)
        cases hf
        exact hret _ _ _ _ hP hD hS (zD_g DX6_carts 22 rfl)
      · replace hf := z_f c15 hf
        refine lv_iload hx hb (zD_g DX6_carts 15 rfl) (lv_at hl 4 rfl) ?_
        refine lv_iconst (v := (-1 : Int32)) hx hb (zD_g DX6_carts 16 rfl) (by decide) ?_
        refine lv_icmp_ge (tgt := 45) hx hb (zD_g DX6_carts 17 rfl) (by decide) (fun c19 => ?_) (fun c19 => ?_)
        · replace hf := z_t c19 hf
          refine lv_iconst (v := (0 : Int32)) hx hb (zD_g DX6_carts 23 rfl) (by decide) ?_
          refine lv_istore (lv' := [(5, .int (0 : Int32)), (0, .ref (q 0)), (1, .int a_c), (2, .int a_b), (3, .int a_near), (4, .int a_place)]) hx hb (zD_g DX6_carts 24 rfl) hl (by decide) rfl (fun ls hl => ?_)
          refine lv_iconst (v := (0 : Int32)) hx hb (zD_g DX6_carts 25 rfl) (by decide) ?_
          refine lv_istore (lv' := [(6, .int (0 : Int32)), (5, .int (0 : Int32)), (0, .ref (q 0)), (1, .int a_c), (2, .int a_b), (3, .int a_near), (4, .int a_place)]) hx hb (zD_g DX6_carts 26 rfl) hl (by decide) rfl (fun ls hl => ?_)
          have hL23 : ∀ (k23 : Int32 → (Nat → Int32) → Option (Int32 × (Nat → Int32) × (Nat → Int32) × (Nat → Int32) × (Nat → Int32))) (hk23 : ∀ (y28 : Int32) (drawn_29 : Nat → Int32), k23 y28 drawn_29 = some (r, d_refused, d_drawn, d_row, d_best) → ∀ (H : Heap) (locs : List Loc), va_P D vwCl (cMod cI cZ q quiet mabove mbelow typed mat mstart mtoken mvalue many book images mkept aside refused text items drawn_29 row best) H → va_D A (cMod cI cZ q quiet mabove mbelow typed mat mstart mtoken mvalue many book images mkept aside refused text items drawn_29 row best) → va_S A s.heap H locs → ∀ (ls : Array Slot), lv_has ls 11 [(0, .ref (q 0)), (2, .int a_b), (3, .int a_near), (4, .int a_place), (5, .int y28)] → W p l e rm6_carts s m args below meth c H locs 0 0 Q (F0 m 94 ls [])) (n23 : Nat) (y20 : Int32) (y21 : Int32) (drawn_22 : Nat → Int32), L6_carts_51 k23 book a_c n23 y20 y21 drawn_22 = some (r, d_refused, d_drawn, d_row, d_best) → ∀ (H : Heap) (locs : List Loc), va_P D vwCl (cMod cI cZ q quiet mabove mbelow typed mat mstart mtoken mvalue many book images mkept aside refused text items drawn_22 row best) H → va_D A (cMod cI cZ q quiet mabove mbelow typed mat mstart mtoken mvalue many book images mkept aside refused text items drawn_22 row best) → va_S A s.heap H locs → ∀ (ls : Array Slot), lv_has ls 11 [(0, .ref (q 0)), (1, .int a_c), (2, .int a_b), (3, .int a_near), (4, .int a_place), (5, .int y20), (6, .int y21)] → W p l e rm6_carts s m args below meth c H locs 0 0 Q (F0 m 51 ls []) := by
            intro k23 hk23 n23
            induction n23 with
            | zero =>
              intro y20 y21 drawn_22 hf
              cases hf
            | succ n23 ih23 =>
              intro y20 y21 drawn_22 hf H locs hP hD hS ls hl
              rw [L6_carts_51] at hf
              refine lv_iload hx hb (zD_g DX6_carts 27 rfl) (lv_at hl 6 rfl) ?_
              refine lv_aload_n hx hb (zD_g DX6_carts 28 rfl) rfl (lv_at hl 0 rfl) ?_
              refine va_get (D := D) (ci := 5) (v := .ref (q 1)) (C := RX6) (T := TX6) (N := 19) hx hb hts in6_carts_6 hown hK.1 hP 0 rfl rfl 0 (by decide) (hts _ (List.mem_of_getElem? (i := 3) rfl)) (fun _ h9 => h9) rfl (zD_g DX6_carts 29 rfl) ?_
              refine lv_iconst (v := (1 : Int32)) hx hb (zD_g DX6_carts 30 rfl) (by decide) ?_
              refine z_iald (k := 1) hx hb hK.1 hP 1 0 rfl rfl (by decide) rfl (zD_g DX6_carts 31 rfl) ?_
              refine lv_icmp_ge (tgt := 94) hx hb (zD_g DX6_carts 32 rfl) (by decide) (fun c24 => ?_) (fun c24 => ?_)
              · replace hf := z_t c24 hf
                exact hk23 _ _ hf _ _ hP hD hS ls (lv_sub hl [0, 2, 3, 4, 5] rfl)
              · replace hf := z_f c24 hf
                refine lv_aload_n hx hb (zD_g DX6_carts 33 rfl) rfl (lv_at hl 0 rfl) ?_
                refine va_get (D := D) (ci := 5) (v := .ref (q 1)) (C := RX6) (T := TX6) (N := 19) hx hb hts in6_carts_6 hown hK.1 hP 0 rfl rfl 0 (by decide) (hts _ (List.mem_of_getElem? (i := 3) rfl)) (fun _ h9 => h9) rfl (zD_g DX6_carts 34 rfl) ?_
                refine lv_bipush (v := (68 : Int32)) hx hb (zD_g DX6_carts 35 rfl) (by decide) ?_
                refine lv_iload hx hb (zD_g DX6_carts 36 rfl) (lv_at hl 6 rfl) ?_
                refine lv_iadd hx hb (zD_g DX6_carts 37 rfl) ?_
                obtain ⟨h25, hf⟩ := zg_s hf
                refine z_iald (k := ((68 : Int32) + y21).toNatClampNeg) hx hb hK.1 hP 1 0 rfl rfl h25 rfl (zD_g DX6_carts 38 rfl) ?_
                refine lv_iload_n hx hb (zD_g DX6_carts 39 rfl) rfl (lv_at hl 1 rfl) ?_
                refine lv_icmp_ne (tgt := 88) hx hb (zD_g DX6_carts 40 rfl) (by decide) (fun c26 => ?_) (fun c26 => ?_)
                · replace hf := z_f c26 hf
                  refine lv_iinc (v := y21 + 1) (lv' := [(6, .int (y21 + 1)), (0, .ref (q 0)), (1, .int a_c), (2, .int a_b), (3, .int a_near), (4, .int a_place), (5, .int y20)]) (k := 6) hx hb (zD_g DX6_carts 47 rfl) hl rfl rfl (by decide) rfl (fun ls hl => ?_)
                  refine lv_goto (tgt := 51) hx hb (zD_g DX6_carts 48 rfl) (by decide) ?_
                  exact ih23 _ _ _ hf _ _ hP hD hS ls (lv_sub hl [1, 2, 3, 4, 5, 6, 0] rfl)
                · replace hf := z_t c26 hf
                  refine lv_aload_n hx hb (zD_g DX6_carts 41 rfl) rfl (lv_at hl 0 rfl) ?_
                  refine va_get (D := D) (ci := 5) (v := .ref (q 8)) (C := RX6) (T := TX6) (N := 19) hx hb hts in6_carts_6 hown hK.1 hP 0 rfl rfl 16 (by decide) (hts _ (List.mem_of_getElem? (i := 4) rfl)) (fun _ h9 => h9) rfl (zD_g DX6_carts 42 rfl) ?_
                  refine lv_iload hx hb (zD_g DX6_carts 43 rfl) (lv_at hl 5 rfl) ?_
                  refine lv_iload hx hb (zD_g DX6_carts 44 rfl) (lv_at hl 6 rfl) ?_
                  obtain ⟨h27, hf⟩ := zg_s hf
                  refine z_iast (k := y20.toNatClampNeg) (ws' := (cMod cI cZ q quiet mabove mbelow typed mat mstart mtoken mvalue many book images mkept aside refused text items (upd drawn_22 y20.toNatClampNeg y21) row best)) hx hb hK.1 hP hD hS 8 0 rfl rfl h27 rfl rfl (zD_g DX6_carts 45 rfl) (fun H locs hP hD hS => ?_)
                  refine lv_iinc (v := y20 + 1) (lv' := [(5, .int (y20 + 1)), (0, .ref (q 0)), (1, .int a_c), (2, .int a_b), (3, .int a_near), (4, .int a_place), (6, .int y21)]) (k := 5) hx hb (zD_g DX6_carts 46 rfl) hl rfl rfl (by decide) rfl (fun ls hl => ?_)
                  refine lv_iinc (v := y21 + 1) (lv' := [(6, .int (y21 + 1)), (5, .int (y20 + 1)), (0, .ref (q 0)), (1, .int a_c), (2, .int a_b), (3, .int a_near), (4, .int a_place)]) (k := 6) hx hb (zD_g DX6_carts 47 rfl) hl rfl rfl (by decide) rfl (fun ls hl => ?_)
                  refine lv_goto (tgt := 51) hx hb (zD_g DX6_carts 48 rfl) (by decide) ?_
                  exact ih23 _ _ _ hf _ _ hP hD hS ls (lv_sub hl [2, 3, 4, 5, 6, 1, 0] rfl)
          refine hL23 _ (fun y28 drawn_29 hf H locs hP hD hS ls hl => ?_) _ _ _ _ hf _ _ hP hD hS ls (lv_sub hl [2, 3, 4, 5, 6, 1, 0] rfl)
          refine lv_iconst (v := (1 : Int32)) hx hb (zD_g DX6_carts 49 rfl) (by decide) ?_
          refine lv_istore (lv' := [(6, .int (1 : Int32)), (0, .ref (q 0)), (2, .int a_b), (3, .int a_near), (4, .int a_place), (5, .int y28)]) hx hb (zD_g DX6_carts 50 rfl) hl (by decide) rfl (fun ls hl => ?_)
          refine lv_iconst (v := (0 : Int32)) hx hb (zD_g DX6_carts 51 rfl) (by decide) ?_
          refine lv_istore (lv' := [(7, .int (0 : Int32)), (6, .int (1 : Int32)), (0, .ref (q 0)), (2, .int a_b), (3, .int a_near), (4, .int a_place), (5, .int y28)]) hx hb (zD_g DX6_carts 52 rfl) hl (by decide) rfl (fun ls hl => ?_)
          have hL32 : ∀ (k32 : Int32 → Option (Int32 × (Nat → Int32) × (Nat → Int32) × (Nat → Int32) × (Nat → Int32))) (hk32 : ∀ (y35 : Int32), k32 y35 = some (r, d_refused, d_drawn, d_row, d_best) → ∀ (H : Heap) (locs : List Loc), va_P D vwCl (cMod cI cZ q quiet mabove mbelow typed mat mstart mtoken mvalue many book images mkept aside refused text items drawn_29 row best) H → va_D A (cMod cI cZ q quiet mabove mbelow typed mat mstart mtoken mvalue many book images mkept aside refused text items drawn_29 row best) → va_S A s.heap H locs → ∀ (ls : Array Slot), lv_has ls 11 [(0, .ref (q 0)), (2, .int a_b), (3, .int a_near), (4, .int a_place), (5, .int y28), (6, .int y35)] → W p l e rm6_carts s m args below meth c H locs 0 0 Q (F0 m 120 ls [])) (n32 : Nat) (y30 : Int32) (y31 : Int32), L6_carts_100 k32 y28 n32 y30 y31 = some (r, d_refused, d_drawn, d_row, d_best) → ∀ (H : Heap) (locs : List Loc), va_P D vwCl (cMod cI cZ q quiet mabove mbelow typed mat mstart mtoken mvalue many book images mkept aside refused text items drawn_29 row best) H → va_D A (cMod cI cZ q quiet mabove mbelow typed mat mstart mtoken mvalue many book images mkept aside refused text items drawn_29 row best) → va_S A s.heap H locs → ∀ (ls : Array Slot), lv_has ls 11 [(0, .ref (q 0)), (2, .int a_b), (3, .int a_near), (4, .int a_place), (5, .int y28), (6, .int y30), (7, .int y31)] → W p l e rm6_carts s m args below meth c H locs 0 0 Q (F0 m 100 ls []) := by
            intro k32 hk32 n32
            induction n32 with
            | zero =>
              intro y30 y31 hf
              cases hf
            | succ n32 ih32 =>
              intro y30 y31 hf H locs hP hD hS ls hl
              rw [L6_carts_100] at hf
              refine lv_iload hx hb (zD_g DX6_carts 53 rfl) (lv_at hl 6 rfl) ?_
              refine lv_iload hx hb (zD_g DX6_carts 54 rfl) (lv_at hl 4 rfl) ?_
              refine lv_icmp_ge (tgt := 120) hx hb (zD_g DX6_carts 55 rfl) (by decide) (fun c33 => ?_) (fun c33 => ?_)
              · replace hf := z_t c33 hf
                exact hk32 _ hf _ _ hP hD hS ls (lv_sub hl [0, 1, 2, 3, 4, 5] rfl)
              · replace hf := z_f c33 hf
                refine lv_iload hx hb (zD_g DX6_carts 56 rfl) (lv_at hl 5 rfl) ?_
                refine lv_iload hx hb (zD_g DX6_carts 57 rfl) (lv_at hl 4 rfl) ?_
                refine lv_imul hx hb (zD_g DX6_carts 58 rfl) ?_
                refine lv_topi (fun x34 ex34 => ?_)
                replace hf := zl_s hf x34 ex34
                refine lv_istore (lv' := [(6, .int x34), (0, .ref (q 0)), (2, .int a_b), (3, .int a_near), (4, .int a_place), (5, .int y28), (7, .int y31)]) hx hb (zD_g DX6_carts 59 rfl) hl (by decide) rfl (fun ls hl => ?_)
                refine lv_iinc (v := y31 + 1) (lv' := [(7, .int (y31 + 1)), (6, .int x34), (0, .ref (q 0)), (2, .int a_b), (3, .int a_near), (4, .int a_place), (5, .int y28)]) (k := 6) hx hb (zD_g DX6_carts 60 rfl) hl rfl rfl (by decide) rfl (fun ls hl => ?_)
                refine lv_goto (tgt := 100) hx hb (zD_g DX6_carts 61 rfl) (by decide) ?_
                exact ih32 _ _ hf _ _ hP hD hS ls (lv_sub hl [2, 3, 4, 5, 6, 1, 0] rfl)
          refine hL32 _ (fun y35 hf H locs hP hD hS ls hl => ?_) _ _ _ hf _ _ hP hD hS ls (lv_sub hl [2, 3, 4, 5, 6, 1, 0] rfl)
          refine lv_iconst (v := (-1 : Int32)) hx hb (zD_g DX6_carts 62 rfl) (by decide) ?_
          refine lv_istore (lv' := [(7, .int (-1 : Int32)), (0, .ref (q 0)), (2, .int a_b), (3, .int a_near), (4, .int a_place), (5, .int y28), (6, .int y35)]) hx hb (zD_g DX6_carts 63 rfl) hl (by decide) rfl (fun ls hl => ?_)
          refine lv_iconst (v := (0 : Int32)) hx hb (zD_g DX6_carts 64 rfl) (by decide) ?_
          refine lv_istore (lv' := [(8, .int (0 : Int32)), (7, .int (-1 : Int32)), (0, .ref (q 0)), (2, .int a_b), (3, .int a_near), (4, .int a_place), (5, .int y28), (6, .int y35)]) hx hb (zD_g DX6_carts 65 rfl) hl (by decide) rfl (fun ls hl => ?_)
          have hL40 : ∀ (k40 : Int32 → (Nat → Int32) → (Nat → Int32) → Option (Int32 × (Nat → Int32) × (Nat → Int32) × (Nat → Int32) × (Nat → Int32))) (hk40 : ∀ (y68 : Int32) (row_69 : Nat → Int32) (best_70 : Nat → Int32), k40 y68 row_69 best_70 = some (r, d_refused, d_drawn, d_row, d_best) → ∀ (H : Heap) (locs : List Loc), va_P D vwCl (cMod cI cZ q quiet mabove mbelow typed mat mstart mtoken mvalue many book images mkept aside refused text items drawn_29 row_69 best_70) H → va_D A (cMod cI cZ q quiet mabove mbelow typed mat mstart mtoken mvalue many book images mkept aside refused text items drawn_29 row_69 best_70) → va_S A s.heap H locs → ∀ (ls : Array Slot), lv_has ls 11 [(0, .ref (q 0)), (2, .int a_b), (4, .int a_place), (5, .int y28), (7, .int y68)] → W p l e rm6_carts s m args below meth c H locs 0 0 Q (F0 m 211 ls [])) (n40 : Nat) (y36 : Int32) (y37 : Int32) (row_38 : Nat → Int32) (best_39 : Nat → Int32), L6_carts_126 k40 book a_near y28 drawn_29 y35 n40 y36 y37 row_38 best_39 = some (r, d_refused, d_drawn, d_row, d_best) → ∀ (H : Heap) (locs : List Loc), va_P D vwCl (cMod cI cZ q quiet mabove mbelow typed mat mstart mtoken mvalue many book images mkept aside refused text items drawn_29 row_38 best_39) H → va_D A (cMod cI cZ q quiet mabove mbelow typed mat mstart mtoken mvalue many book images mkept aside refused text items drawn_29 row_38 best_39) → va_S A s.heap H locs → ∀ (ls : Array Slot), lv_has ls 11 [(0, .ref (q 0)), (2, .int a_b), (3, .int a_near), (4, .int a_place), (5, .int y28), (6, .int y35), (7, .int y36), (8, .int y37)] → W p l e rm6_carts s m args below meth c H locs 0 0 Q (F0 m 126 ls []) := by
            intro k40 hk40 n40
            induction n40 with
            | zero =>
              intro y36 y37 row_38 best_39 hf
              cases hf
            | succ n40 ih40 =>
              intro y36 y37 row_38 best_39 hf H locs hP hD hS ls hl
              rw [L6_carts_126] at hf
              refine lv_iload hx hb (zD_g DX6_carts 66 rfl) (lv_at hl 7 rfl) ?_
              refine lv_iload hx hb (zD_g DX6_carts 67 rfl) (lv_at hl 5 rfl) ?_
              refine lv_icmp_ge (tgt := 211) hx hb (zD_g DX6_carts 68 rfl) (by decide) (fun c41 => ?_) (fun c41 => ?_)
              · replace hf := z_t c41 hf
                exact hk40 _ _ _ hf _ _ hP hD hS ls (lv_sub hl [0, 1, 3, 4, 6] rfl)
              · replace hf := z_f c41 hf
                refine lv_aload_n hx hb (zD_g DX6_carts 69 rfl) rfl (lv_at hl 0 rfl) ?_
                refine lv_iload hx hb (zD_g DX6_carts 70 rfl) (lv_at hl 7 rfl) ?_
                refine lv_iload hx hb (zD_g DX6_carts 71 rfl) (lv_at hl 4 rfl) ?_
                obtain ⟨r42, row_43, hc44, hf⟩ := zb2_s hf
                refine z_Vm (As := [.int y37, .int y28]) (rest := []) (ws' := (cMod cI cZ q quiet mabove mbelow typed mat mstart mtoken mvalue many book images mkept aside refused text items drawn_29 row_43 best_39)) ⟨hx, hb, hml, hown, hts⟩ hK (c6_lays (quiet := quiet) (mabove := mabove) (mbelow := mbelow) (typed := typed) (mat := mat) (mstart := mstart) (mtoken := mtoken) (mvalue := mvalue) (many := many) (book := book) (images := images) (mkept := mkept) (aside := aside) (refused := refused) (text := text) (items := items) (drawn := drawn_29) (row := row_38) (best := best_39) (q := q) hc44) (cwV 2 hts gX6_carts_X6_lays rfl rfl rfl hd6_lays ⟨Nat.le_of_ble_eq_true rfl, Nat.le_of_ble_eq_true rfl⟩) hP hD hS hA 11 [0, 1, 2, 3, 4, 5, 6, 7, 8, 9, 10] [] [0, 1, 2, 3, 4, 5, 6, 7, 8, 9, 10] (by decide +kernel) rfl rfl rfl rfl rfl rfl rfl hl.1 rfl rfl (Nat.le_of_ble_eq_true rfl) (zD_g DX6_carts 72 rfl) ⟨Nat.zero_le _, Nat.zero_le _⟩ (fun H locs hP hD hS => ?_)
                refine lv_if_eq (tgt := 205) hx hb (zD_g DX6_carts 73 rfl) (by decide) (fun c45 => ?_) (fun c45 => ?_)
                · replace hf := z_t c45 hf
                  refine lv_iinc (v := y37 + 1) (lv' := [(8, .int (y37 + 1)), (0, .ref (q 0)), (2, .int a_b), (3, .int a_near), (4, .int a_place), (5, .int y28), (6, .int y35), (7, .int y36)]) (k := 7) hx hb (zD_g DX6_carts 105 rfl) hl rfl rfl (by decide) rfl (fun ls hl => ?_)
                  refine lv_goto (tgt := 126) hx hb (zD_g DX6_carts 106 rfl) (by decide) ?_
                  exact ih40 _ _ _ _ hf _ _ hP hD hS ls (lv_sub hl [1, 2, 3, 4, 5, 6, 7, 0] rfl)
                · replace hf := z_f c45 hf
                  refine lv_aload_n hx hb (zD_g DX6_carts 74 rfl) rfl (lv_at hl 0 rfl) ?_
                  refine lv_iload hx hb (zD_g DX6_carts 75 rfl) (lv_at hl 4 rfl) ?_
                  refine lv_iload_n hx hb (zD_g DX6_carts 76 rfl) rfl (lv_at hl 2 rfl) ?_
                  obtain ⟨r46, hc47, hf⟩ := zb1_s hf
                  refine z_Vp (As := [.int y28, .int a_near]) (rest := []) ⟨hx, hb, hml, hown, hts⟩ hK (c6_loadOf (quiet := quiet) (mabove := mabove) (mbelow := mbelow) (typed := typed) (mat := mat) (mstart := mstart) (mtoken := mtoken) (mvalue := mvalue) (many := many) (book := book) (images := images) (mkept := mkept) (aside := aside) (refused := refused) (text := text) (items := items) (drawn := drawn_29) (row := row_43) (best := best_39) (q := q) hc47) (cwV 2 hts gX6_carts_X6_loadOf rfl rfl rfl hd6_loadOf ⟨Nat.le_of_ble_eq_true rfl, Nat.le_of_ble_eq_true rfl⟩) hP rfl rfl rfl rfl hl.1 rfl rfl (Nat.le_of_ble_eq_true rfl) (zD_g DX6_carts 77 rfl) ⟨Nat.zero_le _, Nat.zero_le _⟩ ?_
                  refine lv_istore (lv' := [(9, .int r46), (0, .ref (q 0)), (2, .int a_b), (3, .int a_near), (4, .int a_place), (5, .int y28), (6, .int y35), (7, .int y36), (8, .int y37)]) hx hb (zD_g DX6_carts 78 rfl) hl (by decide) rfl (fun ls hl => ?_)
                  refine lv_iload hx hb (zD_g DX6_carts 79 rfl) (lv_at hl 7 rfl) ?_
                  refine lv_iconst (v := (-1 : Int32)) hx hb (zD_g DX6_carts 80 rfl) (by decide) ?_
                  refine lv_icmp_eq (tgt := 166) hx hb (zD_g DX6_carts 81 rfl) (by decide) (fun c48 => ?_) (fun c48 => ?_)
                  · replace hf := z_t c48 hf
                    refine lv_iload hx hb (zD_g DX6_carts 85 rfl) (lv_at hl 0 rfl) ?_
                    refine lv_istore (lv' := [(7, .int r46), (9, .int r46), (0, .ref (q 0)), (2, .int a_b), (3, .int a_near), (4, .int a_place), (5, .int y28), (6, .int y35), (8, .int y37)]) hx hb (zD_g DX6_carts 86 rfl) hl (by decide) rfl (fun ls hl => ?_)
                    refine lv_iconst (v := (0 : Int32)) hx hb (zD_g DX6_carts 87 rfl) (by decide) ?_
                    refine lv_istore (lv' := [(10, .int (0 : Int32)), (7, .int r46), (9, .int r46), (0, .ref (q 0)), (2, .int a_b), (3, .int a_near), (4, .int a_place), (5, .int y28), (6, .int y35), (8, .int y37)]) hx hb (zD_g DX6_carts 88 rfl) hl (by decide) rfl (fun ls hl => ?_)
                    have hL51 : ∀ (k51 : (Nat → Int32) → Option (Int32 × (Nat → Int32) × (Nat → Int32) × (Nat → Int32) × (Nat → Int32))) (hk51 : ∀ (best_57 : Nat → Int32), k51 best_57 = some (r, d_refused, d_drawn, d_row, d_best) → ∀ (H : Heap) (locs : List Loc), va_P D vwCl (cMod cI cZ q quiet mabove mbelow typed mat mstart mtoken mvalue many book images mkept aside refused text items drawn_29 row_43 best_57) H → va_D A (cMod cI cZ q quiet mabove mbelow typed mat mstart mtoken mvalue many book images mkept aside refused text items drawn_29 row_43 best_57) → va_S A s.heap H locs → ∀ (ls : Array Slot), lv_has ls 11 [(0, .ref (q 0)), (2, .int a_b), (3, .int a_near), (4, .int a_place), (5, .int y28), (6, .int y35), (7, .int r46), (8, .int y37)] → W p l e rm6_carts s m args below meth c H locs 0 0 Q (F0 m 205 ls [])) (n51 : Nat) (y49 : Int32) (best_50 : Nat → Int32), L6_carts_173 k51 y28 drawn_29 row_43 n51 y49 best_50 = some (r, d_refused, d_drawn, d_row, d_best) → ∀ (H : Heap) (locs : List Loc), va_P D vwCl (cMod cI cZ q quiet mabove mbelow typed mat mstart mtoken mvalue many book images mkept aside refused text items drawn_29 row_43 best_50) H → va_D A (cMod cI cZ q quiet mabove mbelow typed mat mstart mtoken mvalue many book images mkept aside refused text items drawn_29 row_43 best_50) → va_S A s.heap H locs → ∀ (ls : Array Slot), lv_has ls 11 [(0, .ref (q 0)), (2, .int a_b), (3, .int a_near), (4, .int a_place), (5, .int y28), (6, .int y35), (7, .int r46), (8, .int y37), (10, .int y49)] → W p l e rm6_carts s m args below meth c H locs 0 0 Q (F0 m 173 ls []) := by
                      intro k51 hk51 n51
                      induction n51 with
                      | zero =>
                        intro y49 best_50 hf
                        cases hf
                      | succ n51 ih51 =>
                        intro y49 best_50 hf H locs hP hD hS ls hl
                        rw [L6_carts_173] at hf
                        refine lv_iload hx hb (zD_g DX6_carts 89 rfl) (lv_at hl 8 rfl) ?_
                        refine lv_iload hx hb (zD_g DX6_carts 90 rfl) (lv_at hl 4 rfl) ?_
                        refine lv_icmp_ge (tgt := 205) hx hb (zD_g DX6_carts 91 rfl) (by decide) (fun c52 => ?_) (fun c52 => ?_)
                        · replace hf := z_t c52 hf
                          exact hk51 _ hf _ _ hP hD hS ls (lv_sub hl [0, 1, 2, 3, 4, 5, 6, 7] rfl)
                        · replace hf := z_f c52 hf
                          refine lv_aload_n hx hb (zD_g DX6_carts 92 rfl) rfl (lv_at hl 0 rfl) ?_
                          refine va_get (D := D) (ci := 5) (v := .ref (q 10)) (C := RX6) (T := TX6) (N := 19) hx hb hts in6_carts_6 hown hK.1 hP 0 rfl rfl 18 (by decide) (hts _ (List.mem_of_getElem? (i := 5) rfl)) (fun _ h9 => h9) rfl (zD_g DX6_carts 93 rfl) ?_
                          refine lv_iload hx hb (zD_g DX6_carts 94 rfl) (lv_at hl 8 rfl) ?_
                          refine lv_aload_n hx hb (zD_g DX6_carts 95 rfl) rfl (lv_at hl 0 rfl) ?_
                          refine va_get (D := D) (ci := 5) (v := .ref (q 8)) (C := RX6) (T := TX6) (N := 19) hx hb hts in6_carts_6 hown hK.1 hP 0 rfl rfl 16 (by decide) (hts _ (List.mem_of_getElem? (i := 4) rfl)) (fun _ h9 => h9) rfl (zD_g DX6_carts 96 rfl) ?_
                          refine lv_aload_n hx hb (zD_g DX6_carts 97 rfl) rfl (lv_at hl 0 rfl) ?_
                          refine va_get (D := D) (ci := 5) (v := .ref (q 9)) (C := RX6) (T := TX6) (N := 19) hx hb hts in6_carts_6 hown hK.1 hP 0 rfl rfl 17 (by decide) (hts _ (List.mem_of_getElem? (i := 6) rfl)) (fun _ h9 => h9) rfl (zD_g DX6_carts 98 rfl) ?_
                          refine lv_iload hx hb (zD_g DX6_carts 99 rfl) (lv_at hl 8 rfl) ?_
                          obtain ⟨h53, hf⟩ := zg_s hf
                          refine z_iald (k := y49.toNatClampNeg) hx hb hK.1 hP 9 0 rfl rfl h53 rfl (zD_g DX6_carts 100 rfl) ?_
                          obtain ⟨h54, hf⟩ := zg_s hf
                          refine z_iald (k := (row_43 y49.toNatClampNeg).toNatClampNeg) hx hb hK.1 hP 8 0 rfl rfl h54 rfl (zD_g DX6_carts 101 rfl) ?_
                          refine lv_topi (fun x55 ex55 => ?_)
                          replace hf := zl_s hf x55 ex55
                          obtain ⟨h56, hf⟩ := zg_s hf
                          refine z_iast (k := y49.toNatClampNeg) (ws' := (cMod cI cZ q quiet mabove mbelow typed mat mstart mtoken mvalue many book images mkept aside refused text items drawn_29 row_43 (upd best_50 y49.toNatClampNeg x55))) hx hb hK.1 hP hD hS 10 0 rfl rfl h56 rfl rfl (zD_g DX6_carts 102 rfl) (fun H locs hP hD hS => ?_)
                          refine lv_iinc (v := y49 + 1) (lv' := [(10, .int (y49 + 1)), (0, .ref (q 0)), (2, .int a_b), (3, .int a_near), (4, .int a_place), (5, .int y28), (6, .int y35), (7, .int r46), (8, .int y37)]) (k := 8) hx hb (zD_g DX6_carts 103 rfl) hl rfl rfl (by decide) rfl (fun ls hl => ?_)
                          refine lv_goto (tgt := 173) hx hb (zD_g DX6_carts 104 rfl) (by decide) ?_
                          exact ih51 _ _ hf _ _ hP hD hS ls (lv_sub hl [1, 2, 3, 4, 5, 6, 7, 8, 0] rfl)
                    refine hL51 _ (fun best_57 hf H locs hP hD hS ls hl => ?_) _ _ _ hf _ _ hP hD hS ls (lv_sub hl [3, 4, 5, 6, 7, 8, 1, 9, 0] rfl)
                    refine lv_iinc (v := y37 + 1) (lv' := [(8, .int (y37 + 1)), (0, .ref (q 0)), (2, .int a_b), (3, .int a_near), (4, .int a_place), (5, .int y28), (6, .int y35), (7, .int r46)]) (k := 7) hx hb (zD_g DX6_carts 105 rfl) hl rfl rfl (by decide) rfl (fun ls hl => ?_)
                    refine lv_goto (tgt := 126) hx hb (zD_g DX6_carts 106 rfl) (by decide) ?_
                    exact ih40 _ _ _ _ hf _ _ hP hD hS ls (lv_sub hl [1, 2, 3, 4, 5, 6, 7, 0] rfl)
                  · replace hf := z_f c48 hf
                    refine lv_iload hx hb (zD_g DX6_carts 82 rfl) (lv_at hl 0 rfl) ?_
                    refine lv_iload hx hb (zD_g DX6_carts 83 rfl) (lv_at hl 7 rfl) ?_
                    refine lv_icmp_ge (tgt := 205) hx hb (zD_g DX6_carts 84 rfl) (by decide) (fun c58 => ?_) (fun c58 => ?_)
                    · replace hf := z_t c58 hf
                      refine lv_iinc (v := y37 + 1) (lv' := [(8, .int (y37 + 1)), (9, .int r46), (0, .ref (q 0)), (2, .int a_b), (3, .int a_near), (4, .int a_place), (5, .int y28), (6, .int y35), (7, .int y36)]) (k := 8) hx hb (zD_g DX6_carts 105 rfl) hl rfl rfl (by decide) rfl (fun ls hl => ?_)
                      refine lv_goto (tgt := 126) hx hb (zD_g DX6_carts 106 rfl) (by decide) ?_
                      exact ih40 _ _ _ _ hf _ _ hP hD hS ls (lv_sub hl [2, 3, 4, 5, 6, 7, 8, 0] rfl)
                    · replace hf := z_f c58 hf
                      refine lv_iload hx hb (zD_g DX6_carts 85 rfl) (lv_at hl 0 rfl) ?_
                      refine lv_istore (lv' := [(7, .int r46), (9, .int r46), (0, .ref (q 0)), (2, .int a_b), (3, .int a_near), (4, .int a_place), (5, .int y28), (6, .int y35), (8, .int y37)]) hx hb (zD_g DX6_carts 86 rfl) hl (by decide) rfl (fun ls hl => ?_)
                      refine lv_iconst (v := (0 : Int32)) hx hb (zD_g DX6_carts 87 rfl) (by decide) ?_
                      refine lv_istore (lv' := [(10, .int (0 : Int32)), (7, .int r46), (9, .int r46), (0, .ref (q 0)), (2, .int a_b), (3, .int a_near), (4, .int a_place), (5, .int y28), (6, .int y35), (8, .int y37)]) hx hb (zD_g DX6_carts 88 rfl) hl (by decide) rfl (fun ls hl => ?_)
                      have hL61 : ∀ (k61 : (Nat → Int32) → Option (Int32 × (Nat → Int32) × (Nat → Int32) × (Nat → Int32) × (Nat → Int32))) (hk61 : ∀ (best_67 : Nat → Int32), k61 best_67 = some (r, d_refused, d_drawn, d_row, d_best) → ∀ (H : Heap) (locs : List Loc), va_P D vwCl (cMod cI cZ q quiet mabove mbelow typed mat mstart mtoken mvalue many book images mkept aside refused text items drawn_29 row_43 best_67) H → va_D A (cMod cI cZ q quiet mabove mbelow typed mat mstart mtoken mvalue many book images mkept aside refused text items drawn_29 row_43 best_67) → va_S A s.heap H locs → ∀ (ls : Array Slot), lv_has ls 11 [(0, .ref (q 0)), (2, .int a_b), (3, .int a_near), (4, .int a_place), (5, .int y28), (6, .int y35), (7, .int r46), (8, .int y37)] → W p l e rm6_carts s m args below meth c H locs 0 0 Q (F0 m 205 ls [])) (n61 : Nat) (y59 : Int32) (best_60 : Nat → Int32), L6_carts_173_61 k61 y28 drawn_29 row_43 n61 y59 best_60 = some (r, d_refused, d_drawn, d_row, d_best) → ∀ (H : Heap) (locs : List Loc), va_P D vwCl (cMod cI cZ q quiet mabove mbelow typed mat mstart mtoken mvalue many book images mkept aside refused text items drawn_29 row_43 best_60) H → va_D A (cMod cI cZ q quiet mabove mbelow typed mat mstart mtoken mvalue many book images mkept aside refused text items drawn_29 row_43 best_60) → va_S A s.heap H locs → ∀ (ls : Array Slot), lv_has ls 11 [(0, .ref (q 0)), (2, .int a_b), (3, .int a_near), (4, .int a_place), (5, .int y28), (6, .int y35), (7, .int r46), (8, .int y37), (10, .int y59)] → W p l e rm6_carts s m args below meth c H locs 0 0 Q (F0 m 173 ls []) := by
                        intro k61 hk61 n61
                        induction n61 with
                        | zero =>
                          intro y59 best_60 hf
                          cases hf
                        | succ n61 ih61 =>
                          intro y59 best_60 hf H locs hP hD hS ls hl
                          rw [L6_carts_173_61] at hf
                          refine lv_iload hx hb (zD_g DX6_carts 89 rfl) (lv_at hl 8 rfl) ?_
                          refine lv_iload hx hb (zD_g DX6_carts 90 rfl) (lv_at hl 4 rfl) ?_
                          refine lv_icmp_ge (tgt := 205) hx hb (zD_g DX6_carts 91 rfl) (by decide) (fun c62 => ?_) (fun c62 => ?_)
                          · replace hf := z_t c62 hf
                            exact hk61 _ hf _ _ hP hD hS ls (lv_sub hl [0, 1, 2, 3, 4, 5, 6, 7] rfl)
                          · replace hf := z_f c62 hf
                            refine lv_aload_n hx hb (zD_g DX6_carts 92 rfl) rfl (lv_at hl 0 rfl) ?_
                            refine va_get (D := D) (ci := 5) (v := .ref (q 10)) (C := RX6) (T := TX6) (N := 19) hx hb hts in6_carts_6 hown hK.1 hP 0 rfl rfl 18 (by decide) (hts _ (List.mem_of_getElem? (i := 5) rfl)) (fun _ h9 => h9) rfl (zD_g DX6_carts 93 rfl) ?_
                            refine lv_iload hx hb (zD_g DX6_carts 94 rfl) (lv_at hl 8 rfl) ?_
                            refine lv_aload_n hx hb (zD_g DX6_carts 95 rfl) rfl (lv_at hl 0 rfl) ?_
                            refine va_get (D := D) (ci := 5) (v := .ref (q 8)) (C := RX6) (T := TX6) (N := 19) hx hb hts in6_carts_6 hown hK.1 hP 0 rfl rfl 16 (by decide) (hts _ (List.mem_of_getElem? (i := 4) rfl)) (fun _ h9 => h9) rfl (zD_g DX6_carts 96 rfl) ?_
                            refine lv_aload_n hx hb (zD_g DX6_carts 97 rfl) rfl (lv_at hl 0 rfl) ?_
                            refine va_get (D := D) (ci := 5) (v := .ref (q 9)) (C := RX6) (T := TX6) (N := 19) hx hb hts in6_carts_6 hown hK.1 hP 0 rfl rfl 17 (by decide) (hts _ (List.mem_of_getElem? (i := 6) rfl)) (fun _ h9 => h9) rfl (zD_g DX6_carts 98 rfl) ?_
                            refine lv_iload hx hb (zD_g DX6_carts 99 rfl) (lv_at hl 8 rfl) ?_
                            obtain ⟨h63, hf⟩ := zg_s hf
                            refine z_iald (k := y59.toNatClampNeg) hx hb hK.1 hP 9 0 rfl rfl h63 rfl (zD_g DX6_carts 100 rfl) ?_
                            obtain ⟨h64, hf⟩ := zg_s hf
                            refine z_iald (k := (row_43 y59.toNatClampNeg).toNatClampNeg) hx hb hK.1 hP 8 0 rfl rfl h64 rfl (zD_g DX6_carts 101 rfl) ?_
                            refine lv_topi (fun x65 ex65 => ?_)
                            replace hf := zl_s hf x65 ex65
                            obtain ⟨h66, hf⟩ := zg_s hf
                            refine z_iast (k := y59.toNatClampNeg) (ws' := (cMod cI cZ q quiet mabove mbelow typed mat mstart mtoken mvalue many book images mkept aside refused text items drawn_29 row_43 (upd best_60 y59.toNatClampNeg x65))) hx hb hK.1 hP hD hS 10 0 rfl rfl h66 rfl rfl (zD_g DX6_carts 102 rfl) (fun H locs hP hD hS => ?_)
                            refine lv_iinc (v := y59 + 1) (lv' := [(10, .int (y59 + 1)), (0, .ref (q 0)), (2, .int a_b), (3, .int a_near), (4, .int a_place), (5, .int y28), (6, .int y35), (7, .int r46), (8, .int y37)]) (k := 8) hx hb (zD_g DX6_carts 103 rfl) hl rfl rfl (by decide) rfl (fun ls hl => ?_)
                            refine lv_goto (tgt := 173) hx hb (zD_g DX6_carts 104 rfl) (by decide) ?_
                            exact ih61 _ _ hf _ _ hP hD hS ls (lv_sub hl [1, 2, 3, 4, 5, 6, 7, 8, 0] rfl)
                      refine hL61 _ (fun best_67 hf H locs hP hD hS ls hl => ?_) _ _ _ hf _ _ hP hD hS ls (lv_sub hl [3, 4, 5, 6, 7, 8, 1, 9, 0] rfl)
                      refine lv_iinc (v := y37 + 1) (lv' := [(8, .int (y37 + 1)), (0, .ref (q 0)), (2, .int a_b), (3, .int a_near), (4, .int a_place), (5, .int y28), (6, .int y35), (7, .int r46)]) (k := 7) hx hb (zD_g DX6_carts 105 rfl) hl rfl rfl (by decide) rfl (fun ls hl => ?_)
                      refine lv_goto (tgt := 126) hx hb (zD_g DX6_carts 106 rfl) (by decide) ?_
                      exact ih40 _ _ _ _ hf _ _ hP hD hS ls (lv_sub hl [1, 2, 3, 4, 5, 6, 7, 0] rfl)
          refine hL40 _ (fun y68 row_69 best_70 hf H locs hP hD hS ls hl => ?_) _ _ _ _ _ hf _ _ hP hD hS ls (lv_sub hl [2, 3, 4, 5, 6, 7, 1, 0] rfl)
          refine lv_iload hx hb (zD_g DX6_carts 107 rfl) (lv_at hl 4 rfl) ?_
          refine lv_iload_n hx hb (zD_g DX6_carts 108 rfl) rfl (lv_at hl 1 rfl) ?_
          refine lv_icmp_le (tgt := 221) hx hb (zD_g DX6_carts 109 rfl) (by decide) (fun c71 => ?_) (fun c71 => ?_)
          · replace hf := z_t c71 hf
            refine lv_iload hx hb (zD_g DX6_carts 112 rfl) (lv_at hl 2 rfl) ?_
            refine lv_iconst (v := (-1 : Int32)) hx hb (zD_g DX6_carts 113 rfl) (by decide) ?_
            refine lv_icmp_ne (tgt := 232) hx hb (zD_g DX6_carts 114 rfl) (by decide) (fun c72 => ?_) (fun c72 => ?_)
            · replace hf := z_f c72 hf
              refine lv_iload hx hb (zD_g DX6_carts 117 rfl) (lv_at hl 2 rfl) ?_
              refine lv_iload hx hb (zD_g DX6_carts 118 rfl) (lv_at hl 3 rfl) ?_
              refine lv_icmp_ge (tgt := 249) hx hb (zD_g DX6_carts 119 rfl) (by decide) (fun c73 => ?_) (fun c73 => ?_)
              · replace hf := z_t c73 hf
                refine lv_bipush (v := (-5 : Int32)) hx hb (zD_g DX6_carts 125 rfl) (by decide) ?_
                cases hf
                exact hret _ _ _ _ hP hD hS (zD_g DX6_carts 126 rfl)
              · replace hf := z_f c73 hf
                refine lv_aload_n hx hb (zD_g DX6_carts 120 rfl) rfl (lv_at hl 0 rfl) ?_
                refine va_get (D := D) (ci := 5) (v := .ref (q 10)) (C := RX6) (T := TX6) (N := 19) hx hb hts in6_carts_6 hown hK.1 hP 0 rfl rfl 18 (by decide) (hts _ (List.mem_of_getElem? (i := 5) rfl)) (fun _ h9 => h9) rfl (zD_g DX6_carts 121 rfl) ?_
                refine lv_iload hx hb (zD_g DX6_carts 122 rfl) (lv_at hl 2 rfl) ?_
                obtain ⟨h74, hf⟩ := zg_s hf
                refine z_iald (k := a_place.toNatClampNeg) hx hb hK.1 hP 10 0 rfl rfl h74 rfl (zD_g DX6_carts 123 rfl) ?_
                refine lv_goto (tgt := 251) hx hb (zD_g DX6_carts 124 rfl) (by decide) ?_
                cases hf
                exact hret _ _ _ _ hP hD hS (zD_g DX6_carts 126 rfl)
            · replace hf := z_t c72 hf
              refine lv_iload hx hb (zD_g DX6_carts 115 rfl) (lv_at hl 4 rfl) ?_
              refine lv_goto (tgt := 251) hx hb (zD_g DX6_carts 116 rfl) (by decide) ?_
              cases hf
              exact hret _ _ _ _ hP hD hS (zD_g DX6_carts 126 rfl)
          · replace hf := z_f c71 hf
            refine lv_iconst (v := (-1 : Int32)) hx hb (zD_g DX6_carts 110 rfl) (by decide) ?_
            refine lv_goto (tgt := 251) hx hb (zD_g DX6_carts 111 rfl) (by decide) ?_
            cases hf
            exact hret _ _ _ _ hP hD hS (zD_g DX6_carts 126 rfl)
        · replace hf := z_f c19 hf
          refine lv_aload_n hx hb (zD_g DX6_carts 18 rfl) rfl (lv_at hl 0 rfl) ?_
          refine lv_iconst (v := (0 : Int32)) hx hb (zD_g DX6_carts 19 rfl) (by decide) ?_
          refine lv_bipush (v := (-10 : Int32)) hx hb (zD_g DX6_carts 20 rfl) (by decide) ?_
          obtain ⟨r75, refused_76, hc77, hf⟩ := zb2_s hf
          refine z_Vm (As := [.int (0 : Int32), .int (-10 : Int32)]) (rest := []) (ws' := (cMod cI cZ q quiet mabove mbelow typed mat mstart mtoken mvalue many book images mkept aside refused_76 text items drawn row best)) ⟨hx, hb, hml, hown, hts⟩ hK (c6_refuses (quiet := quiet) (mabove := mabove) (mbelow := mbelow) (typed := typed) (mat := mat) (mstart := mstart) (mtoken := mtoken) (mvalue := mvalue) (many := many) (book := book) (images := images) (mkept := mkept) (aside := aside) (refused := refused) (text := text) (items := items) (drawn := drawn) (row := row) (best := best) (q := q) hc77) (cwV 2 hts gX6_carts_X6_refuses rfl rfl rfl hd6_refuses ⟨Nat.le_of_ble_eq_true rfl, Nat.le_of_ble_eq_true rfl⟩) hP hD hS hA 11 [0, 1, 2, 3, 4, 5, 6, 7, 8, 9, 10] [] [0, 1, 2, 3, 4, 5, 6, 7, 8, 9, 10] (by decide +kernel) rfl rfl rfl rfl rfl rfl rfl hl.1 rfl rfl (Nat.le_of_ble_eq_true rfl) (zD_g DX6_carts 21 rfl) ⟨Nat.zero_le _, Nat.zero_le _⟩ (fun H locs hP hD hS => ?_)
          cases hf
          exact hret _ _ _ _ hP hD hS (zD_g DX6_carts 22 rfl)
theorem hd6_carts : yX6_carts.cls = RX6 ∧ yX6_carts.cls ≠ "java/lang/invoke/MethodHandle" ∧ yX6_carts.cls ≠ "java/lang/invoke/VarHandle" ∧ (parseMethodDescriptor yX6_carts.desc).map (fun d => d.parameters.length) = some 4 := by decide +kernel
abbrev dlX6_years : List (Nat × Instr × Nat) := [(0, .iload_n 1, 1), (1, .invokestatic 73, 3), (4, .ifCond .eq 27, 3), (7, .iload_n 2, 1), (8, .i2l, 1), (9, .lconst 0, 1), (10, .ldc2_w 253, 3), (13, .invokestatic 56, 3), (16, .ifCond .eq 15, 3), (19, .iload_n 3, 1), (20, .i2l, 1), (21, .lconst 0, 1), (22, .ldc2_w 255, 3), (25, .invokestatic 56, 3), (28, .ifCond .ne 8, 3), (31, .aload_n 0, 1), (32, .invokevirtual 66, 3), (35, .ireturn, 1), (36, .aload_n 0, 1), (37, .getfield 7, 3), (40, .iconst 1, 1), (41, .iaload, 1), (42, .ifCond .ne 8, 3), (45, .aload_n 0, 1), (46, .invokevirtual 94, 3), (49, .ireturn, 1), (50, .iconst 0, 1), (51, .istore 4, 2), (53, .iload 4, 2), (55, .sipush 230, 3), (58, .if_icmp .ge 23, 3), (61, .aload_n 0, 1), (62, .getfield 20, 3), (65, .iload 4, 2), (67, .aload_n 0, 1), (68, .getfield 7, 3), (71, .iload 4, 2), (73, .iaload, 1), (74, .iastore, 1), (75, .iinc 4 1, 3), (78, .goto (-25), 3), (81, .iload_n 3, 1), (82, .i2l, 1), (83, .lstore 4, 2), (85, .iconst 0, 1), (86, .istore 6, 2), (88, .iload 6, 2), (90, .iload_n 2, 1), (91, .if_icmp .ge 76, 3), (94, .lload 4, 2), (96, .ldc2_w 257, 3), (99, .lmul, 1), (100, .ldc2_w 259, 3), (103, .ladd, 1), (104, .ldc2_w 261, 3), (107, .lrem, 1), (108, .lstore 4, 2), (110, .lload 4, 2), (112, .ldc2_w 263, 3), (115, .ldiv, 1), (116, .aload_n 0, 1), (117, .getfield 7, 3), (120, .iconst 1, 1), (121, .iaload, 1), (122, .i2l, 1), (123, .lrem, 1), (124, .l2i, 1), (125, .istore 7, 2), (127, .lload 4, 2), (129, .ldc2_w 257, 3), (132, .lmul, 1), (133, .ldc2_w 259, 3), (136, .ladd, 1), (137, .ldc2_w 261, 3), (140, .lrem, 1), (141, .lstore 4, 2), (143, .aload_n 0, 1), (144, .iload 7, 2), (146, .lload 4, 2), (148, .ldc2_w 263, 3), (151, .ldiv, 1), (152, .ldc2_w 212, 3), (155, .lrem, 1), (156, .l2i, 1), (157, .invokevirtual 209, 3), (160, .pop, 1), (161, .iinc 6 1, 3), (164, .goto (-76), 3), (167, .aload_n 0, 1), (168, .getfield 7, 3), (171, .bipush 92, 2), (173, .iload_n 1, 1), (174, .iadd, 1), (175, .iaload, 1), (176, .istore 6, 2), (178, .iconst 0, 1), (179, .istore 7, 2), (181, .iload 7, 2), (183, .sipush 230, 3), (186, .if_icmp .ge 23, 3), (189, .aload_n 0, 1), (190, .getfield 7, 3), (193, .iload 7, 2), (195, .aload_n 0, 1), (196, .getfield 20, 3), (199, .iload 7, 2), (201, .iaload, 1), (202, .iastore, 1), (203, .iinc 7 1, 3), (206, .goto (-25), 3), (209, .iload 6, 2), (211, .ireturn, 1)]
theorem DX6_years : zD cX6_years dlX6_years = true := by decide +kernel
set_option maxRecDepth 20000 in
theorem ggX6_years_X6_isCity : GoodIn wsX6_years wsX6_isCity := goodIn_r _ [13, 14, 15, 12, 16] (by decide +kernel) (by decide +kernel)
set_option maxRecDepth 20000 in
theorem gX6_years_X6_isCity : GoodIn wsX6_years (va_wsS RX6 73 yX6_isCity wsX6_isCity) := goodIn_app (goodIn_of _ (by decide +kernel)) ggX6_years_X6_isCity
set_option maxRecDepth 20000 in
theorem ggX6_years_X6_in : GoodIn wsX6_years wsX6_in := goodIn_r _ [16] (by decide +kernel) (by decide +kernel)
set_option maxRecDepth 20000 in
theorem gX6_years_X6_in : GoodIn wsX6_years (va_wsS RX6 56 yX6_in wsX6_in) := goodIn_app (goodIn_of _ (by decide +kernel)) ggX6_years_X6_in
set_option maxRecDepth 20000 in
theorem ggX6_years_X6_bad : GoodIn wsX6_years wsX6_bad := goodIn_r _ [20, 21, 22, 23, 12, 24, 25, 26, 75, 76, 77, 78, 79, 80, 81, 82, 83, 84, 85, 86, 87, 88, 89, 90, 91, 92, 93] (by decide +kernel) (by decide +kernel)
set_option maxRecDepth 20000 in
theorem gX6_years_X6_bad : GoodIn wsX6_years (wsV RX6 66 RX6 yX6_bad wsX6_bad) := goodIn_app (goodIn_of _ (by decide +kernel)) ggX6_years_X6_bad
set_option maxRecDepth 20000 in
theorem ggX6_years_X6_no : GoodIn wsX6_years wsX6_no := goodIn_r _ [30, 21, 22, 23, 12, 24, 25, 26, 75, 76, 77, 78, 79, 80, 81, 82, 83, 84, 85, 86, 87, 88, 89, 90, 91, 92, 93] (by decide +kernel) (by decide +kernel)
set_option maxRecDepth 20000 in
theorem gX6_years_X6_no : GoodIn wsX6_years (wsV RX6 94 RX6 yX6_no wsX6_no) := goodIn_app (goodIn_of _ (by decide +kernel)) ggX6_years_X6_no
set_option maxRecDepth 20000 in
theorem ggX6_years_X6_sends : GoodIn wsX6_years wsX6_sends := goodIn_r _ [34, 3, 35, 36, 37, 12, 38, 39, 40, 41, 42, 43, 44, 45, 46, 47, 48, 49, 50, 51, 52, 53, 54, 55, 56, 57, 58, 59, 60, 61, 62, 63, 64, 65, 66, 67, 68, 69, 70, 71, 72, 73, 74, 75, 76, 77, 78, 79, 80, 81, 82, 83, 84, 85, 86, 87, 88, 89, 90, 91, 92, 93] (by decide +kernel) (by decide +kernel)
set_option maxRecDepth 20000 in
theorem gX6_years_X6_sends : GoodIn wsX6_years (wsV RX6 209 RX6 yX6_sends wsX6_sends) := goodIn_app (goodIn_of _ (by decide +kernel)) ggX6_years_X6_sends
def L6_years_53 (k19 : (Nat → Int32) → Option (Int32 × (Nat → Int32) × (Nat → Int32) × (Nat → Int32)))  (book : Nat → Int32) : Nat → Int32 → (Nat → Int32) → Option (Int32 × (Nat → Int32) × (Nat → Int32) × (Nat → Int32))
  | 0, _, _ => none
  | n19 + 1, y17, aside_18 => if (230 : Int32) ≤ y17 then k19 aside_18 else zg y17 230 (zl ((book y17.toNatClampNeg)) (fun x22 => zg y17 230 (L6_years_53 k19 book n19 (y17 + 1) (upd aside_18 y17.toNatClampNeg x22))))
def L6_years_88 (k29 : (Nat → Int32) → Option (Int32 × (Nat → Int32) × (Nat → Int32) × (Nat → Int32)))  (a_n : Int32) : Nat → Int64 → Int32 → (Nat → Int32) → Option (Int32 × (Nat → Int32) × (Nat → Int32) × (Nat → Int32))
  | 0, _, _, _ => none
  | n29 + 1, y26, y27, book_28 => if a_n ≤ y27 then k29 book_28 else zl (((y26 * (1103515245 : Int64)) + (12345 : Int64))) (fun x31 => zl ((x31 - x31 / (2147483648 : Int64) * (2147483648 : Int64))) (fun x32 => zl ((book_28 1)) (fun x33 => zdl ((x33).toInt64) (zl ((((x32 / (65536 : Int64)) - (x32 / (65536 : Int64)) / ((x33).toInt64) * ((x33).toInt64))).toInt32) (fun x35 => zl (((x32 * (1103515245 : Int64)) + (12345 : Int64))) (fun x36 => zl ((x36 - x36 / (2147483648 : Int64) * (2147483648 : Int64))) (fun x37 => zl ((x37 / (65536 : Int64))) (fun x38 => zb2 (f6_sends book_28 x35 (((x38 - x38 / (6 : Int64) * (6 : Int64))).toInt32)) (fun r39 book_40 => L6_years_88 k29 a_n n29 x37 (y27 + 1) book_40)))))))))
def L6_years_181 (k47 : (Nat → Int32) → Option (Int32 × (Nat → Int32) × (Nat → Int32) × (Nat → Int32)))  (aside_24 : Nat → Int32) : Nat → Int32 → (Nat → Int32) → Option (Int32 × (Nat → Int32) × (Nat → Int32) × (Nat → Int32))
  | 0, _, _ => none
  | n47 + 1, y45, book_46 => if (230 : Int32) ≤ y45 then k47 book_46 else zg y45 230 (zl ((aside_24 y45.toNatClampNeg)) (fun x50 => zg y45 230 (L6_years_181 k47 aside_24 n47 (y45 + 1) (upd book_46 y45.toNatClampNeg x50))))
def f6_years (quiet : Int32) (book : Nat → Int32) (aside : Nat → Int32) (refused : Nat → Int32) (a_c : Int32) (a_n : Int32) (a_seed : Int32) : Option (Int32 × (Nat → Int32) × (Nat → Int32) × (Nat → Int32)) := zb1 (f6_isCity a_c) (fun r1 => if r1 = 0 then zb2 (f6_bad quiet refused) (fun r4 refused_5 => some (r4, book, aside, refused_5)) else zb1 (f6_in ((a_n).toInt64) (0 : Int64) (90 : Int64)) (fun r7 => if r7 = 0 then zb2 (f6_bad quiet refused) (fun r10 refused_11 => some (r10, book, aside, refused_11)) else zb1 (f6_in ((a_seed).toInt64) (0 : Int64) (999999 : Int64)) (fun r13 => if r13 = 0 then zb2 (f6_bad quiet refused) (fun r56 refused_57 => some (r56, book, aside, refused_57)) else if (book 1) = 0 then zb2 (f6_no quiet refused) (fun r53 refused_54 => some (r53, book, aside, refused_54)) else L6_years_53 (fun aside_24 => zl ((a_seed).toInt64) (fun x25 => L6_years_88 (fun book_42 => zg ((92 : Int32) + a_c) 230 (zl ((book_42 ((92 : Int32) + a_c).toNatClampNeg)) (fun x44 => L6_years_181 (fun book_52 => some (x44, book_52, aside_24, refused)) aside_24 FU (0 : Int32) book_42))) a_n FU x25 (0 : Int32) book)) book FU (0 : Int32) aside)))
abbrev rm6_years : Room := { frames := 5, cells := 0, slots := 0, locals := 120 }
theorem in6_years_6 : ∀ w ∈ wsX60, w ∈ wsX6_years := fun w h => List.mem_cons_of_mem _ (List.mem_append_right _ h)
set_option maxHeartbeats 4000000 in
set_option maxRecDepth 100000 in
theorem c6_years {l : Launch} {D : va_G} {cI cZ cB : ClassId} {q : Nat → Nat} {sz : Nat} {quiet : Int32} {mabove : Int64} {mbelow : Int64} {typed : Int32} {mat : Int32} {mstart : Int32} {mtoken : Int32} {mvalue : Int32} {many : Int32} {book : Nat → Int32} {images : Nat → Int32} {mkept : Nat → Int32} {aside : Nat → Int32} {refused : Nat → Int32} {text : Nat → Int32} {items : Nat → Int32} {drawn : Nat → Int32} {row : Nat → Int32} {best : Nat → Int32} {a_c : Int32} {a_n : Int32} {a_seed : Int32} {r : Int32} {d_book : Nat → Int32} {d_aside : Nat → Int32} {d_refused : Nat → Int32} (hf : f6_years quiet book aside refused a_c a_n a_seed = some (r, d_book, d_aside, d_refused)) : Met l yX6_years wsX6_years rm6_years (zPm D cI cZ cB [.ref (q 0), .int a_c, .int a_n, .int a_seed] sz (cMod cI cZ q quiet mabove mbelow typed mat mstart mtoken mvalue many book images mkept aside refused text items drawn row best)) (zQm D (some (.int r)) (cMod cI cZ q quiet mabove mbelow typed mat mstart mtoken mvalue many d_book images mkept d_aside d_refused text items drawn row best) (va_A (cMod cI cZ q quiet mabove mbelow typed mat mstart mtoken mvalue many book images mkept aside refused text items drawn row best) sz)) 0 0 (va_A (cMod cI cZ q quiet mabove mbelow typed mat mstart mtoken mvalue many book images mkept aside refused text items drawn row best) sz) := by
  unfold f6_years at hf
  refine z_mutI RX6 (by decide +kernel) rfl rfl (Nat.le_of_ble_eq_true rfl) ?_
  intro p e s m args below meth c Q A ls hx hb hml hown hts hK hP hD hS hA hret hl
  have hl : lv_has ls 8 [(0, .ref (q 0)), (1, .int a_c), (2, .int a_n), (3, .int a_seed)] := hl
  refine lv_iload_n hx hb (zD_g DX6_years 0 rfl) rfl (lv_at hl 1 rfl) ?_
  obtain ⟨r1, hc2, hf⟩ := zb1_s hf
  refine z_Sp (As := [.int a_c]) (rest := []) ⟨hx, hb, hml, hown, hts⟩ hK (c6_isCity  hc2) (va_cwS 1 hts gX6_years_X6_isCity rfl rfl rfl hd6_isCity ⟨Nat.le_of_ble_eq_true rfl, Nat.le_of_ble_eq_true rfl⟩) (hP.sub [] rfl) rfl hl.1 rfl rfl (Nat.le_of_ble_eq_true rfl) (zD_g DX6_years 1 rfl) ⟨Nat.zero_le _, Nat.zero_le _⟩ ?_
  refine lv_if_eq (tgt := 31) hx hb (zD_g DX6_years 2 rfl) (by decide) (fun c3 => ?_) (fun c3 => ?_)
  · replace hf := z_t c3 hf
    refine lv_aload_n hx hb (zD_g DX6_years 15 rfl) rfl (lv_at hl 0 rfl) ?_
    obtain ⟨r4, refused_5, hc6, hf⟩ := zb2_s hf
    refine z_Vm (As := []) (rest := []) (ws' := (cMod cI cZ q quiet mabove mbelow typed mat mstart mtoken mvalue many book images mkept aside refused_5 text items drawn row best)) ⟨hx, hb, hml, hown, hts⟩ hK (c6_bad (quiet := quiet) (mabove := mabove) (mbelow := mbelow) (typed := typed) (mat := mat) (mstart := mstart) (mtoken := mtoken) (mvalue := mvalue) (many := many) (book := book) (images := images) (mkept := mkept) (aside := aside) (refused := refused) (text := text) (items := items) (drawn := drawn) (row := row) (best := best) (q := q) hc6) (cwV 0 hts gX6_years_X6_bad rfl rfl rfl hd6_bad ⟨Nat.le_of_ble_eq_true rfl, Nat.le_of_ble_eq_true rfl⟩) hP hD hS hA 11 [0, 1, 2, 3, 4, 5, 6, 7, 8, 9, 10] [] [0, 1, 2, 3, 4, 5, 6, 7, 8, 9, 10] (by decide +kernel) rfl rfl rfl rfl rfl rfl rfl hl.1 rfl rfl (Nat.le_of_ble_eq_true rfl) (zD_g DX6_years 16 rfl) ⟨Nat.zero_le _, Nat.zero_le _⟩ (fun H locs hP hD hS => ?_)
    cases hf
    exact hret _ _ _ _ hP hD hS (zD_g DX6_years 17 rfl)
  · replace hf := z_f c3 hf
    refine lv_iload_n hx hb (zD_g DX6_years 3 rfl) rfl (lv_at hl 2 rfl) ?_
    refine lv_i2l (v := (a_n).toInt64) hx hb (zD_g DX6_years 4 rfl) rfl ?_
    refine lv_lconst (v := (0 : Int64)) hx hb (zD_g DX6_years 5 rfl) (by decide) ?_
    refine lv_ldc2 (v := (90 : Int64)) hx hb hown (hts _ (List.mem_of_getElem? (i := 1) rfl)) (zD_g DX6_years 6 rfl) ?_
    obtain ⟨r7, hc8, hf⟩ := zb1_s hf
    refine z_Sp (As := [.long ((a_n).toInt64), .long (0 : Int64), .long (90 : Int64)]) (rest := []) ⟨hx, hb, hml, hown, hts⟩ hK (c6_in  hc8) (va_cwS 3 hts gX6_years_X6_in rfl rfl rfl hd6_in ⟨Nat.le_of_ble_eq_true rfl, Nat.le_of_ble_eq_true rfl⟩) (hP.sub [] rfl) rfl hl.1 rfl rfl (Nat.le_of_ble_eq_true rfl) (zD_g DX6_years 7 rfl) ⟨Nat.zero_le _, Nat.zero_le _⟩ ?_
    refine lv_if_eq (tgt := 31) hx hb (zD_g DX6_years 8 rfl) (by decide) (fun c9 => ?_) (fun c9 => ?_)
    · replace hf := z_t c9 hf
      refine lv_aload_n hx hb (zD_g DX6_years 15 rfl) rfl (lv_at hl 0 rfl) ?_
      obtain ⟨r10, refused_11, hc12, hf⟩ := zb2_s hf
      refine z_Vm (As := []) (rest := []) (ws' := (cMod cI cZ q quiet mabove mbelow typed mat mstart mtoken mvalue many book images mkept aside refused_11 text items drawn row best)) ⟨hx, hb, hml, hown, hts⟩ hK (c6_bad (quiet := quiet) (mabove := mabove) (mbelow := mbelow) (typed := typed) (mat := mat) (mstart := mstart) (mtoken := mtoken) (mvalue := mvalue) (many := many) (book := book) (images := images) (mkept := mkept) (aside := aside) (refused := refused) (text := text) (items := items) (drawn := drawn) (row := row) (best := best) (q := q) hc12) (cwV 0 hts gX6_years_X6_bad rfl rfl rfl hd6_bad ⟨Nat.le_of_ble_eq_true rfl, Nat.le_of_ble_eq_true rfl⟩) hP hD hS hA 11 [0, 1, 2, 3, 4, 5, 6, 7, 8, 9, 10] [] [0, 1, 2, 3, 4, 5, 6, 7, 8, 9, 10] (by decide +kernel) rfl rfl rfl rfl rfl rfl rfl hl.1 rfl rfl (Nat.le_of_ble_eq_true rfl) (zD_g DX6_years 16 rfl) ⟨Nat.zero_le _, Nat.zero_le _⟩ (fun H locs hP hD hS => ?_)
      cases hf
      exact hret _ _ _ _ hP hD hS (zD_g DX6_years 17 rfl)
    · replace hf := z_f c9 hf
      refine lv_iload_n hx hb (zD_g DX6_years 9 rfl) rfl (lv_at hl 3 rfl) ?_
      refine lv_i2l (v := (a_seed).toInt64) hx hb (zD_g DX6_years 10 rfl) rfl ?_
      refine lv_lconst (v := (0 : Int64)) hx hb (zD_g DX6_years 11 rfl) (by decide) ?_
      refine lv_ldc2 (v := (999999 : Int64)) hx hb hown (hts _ (List.mem_of_getElem? (i := 2) rfl)) (zD_g DX6_years 12 rfl) ?_
      obtain ⟨r13, hc14, hf⟩ := zb1_s hf
      refine z_Sp (As := [.long ((a_seed).toInt64), .long (0 : Int64), .long (999999 : Int64)]) (rest := []) ⟨hx, hb, hml, hown, hts⟩ hK (c6_in  hc14) (va_cwS 3 hts gX6_years_X6_in rfl rfl rfl hd6_in ⟨Nat.le_of_ble_eq_true rfl, Nat.le_of_ble_eq_true rfl⟩) (hP.sub [] rfl) rfl hl.1 rfl rfl (Nat.le_of_ble_eq_true rfl) (zD_g DX6_years 13 rfl) ⟨Nat.zero_le _, Nat.zero_le _⟩ ?_
      refine lv_if_ne (tgt := 36) hx hb (zD_g DX6_years 14 rfl) (by decide) (fun c15 => ?_) (fun c15 => ?_)
      · replace hf := z_f c15 hf
        refine lv_aload_n hx hb (zD_g DX6_years 18 rfl) rfl (lv_at hl 0 rfl) ?_
        refine va_get (D := D) (ci := 5) (v := .ref (q 1)) (C := RX6) (T := TX6) (N := 19) hx hb hts in6_years_6 hown hK.1 hP 0 rfl rfl 0 (by decide) (hts _ (List.mem_of_getElem? (i := 3) rfl)) (fun _ h9 => h9) rfl (zD_g DX6_years 19 rfl) ?_
        refine lv_iconst (v := (1 : Int32)) hx hb (zD_g DX6_years 20 rfl) (by decide) ?_
        refine z_iald (k := 1) hx hb hK.1 hP 1 0 rfl rfl (by decide) rfl (zD_g DX6_years 21 rfl) ?_
        refine lv_if_ne (tgt := 50) hx hb (zD_g DX6_years 22 rfl) (by decide) (fun c16 => ?_) (fun c16 => ?_)
        · replace hf := z_f c16 hf
          refine lv_iconst (v := (0 : Int32)) hx hb (zD_g DX6_years 26 rfl) (by decide) ?_
          refine lv_istore (lv' := [(4, .int (0 : Int32)), (0, .ref (q 0)), (1, .int a_c), (2, .int a_n), (3, .int a_seed)]) hx hb (zD_g DX6_years 27 rfl) hl (by decide) rfl (fun ls hl => ?_)
          have hL19 : ∀ (k19 : (Nat → Int32) → Option (Int32 × (Nat → Int32) × (Nat → Int32) × (Nat → Int32))) (hk19 : ∀ (aside_24 : Nat → Int32), k19 aside_24 = some (r, d_book, d_aside, d_refused) → ∀ (H : Heap) (locs : List Loc), va_P D vwCl (cMod cI cZ q quiet mabove mbelow typed mat mstart mtoken mvalue many book images mkept aside_24 refused text items drawn row best) H → va_D A (cMod cI cZ q quiet mabove mbelow typed mat mstart mtoken mvalue many book images mkept aside_24 refused text items drawn row best) → va_S A s.heap H locs → ∀ (ls : Array Slot), lv_has ls 8 [(0, .ref (q 0)), (1, .int a_c), (2, .int a_n), (3, .int a_seed)] → W p l e rm6_years s m args below meth c H locs 0 0 Q (F0 m 81 ls [])) (n19 : Nat) (y17 : Int32) (aside_18 : Nat → Int32), L6_years_53 k19 book n19 y17 aside_18 = some (r, d_book, d_aside, d_refused) → ∀ (H : Heap) (locs : List Loc), va_P D vwCl (cMod cI cZ q quiet mabove mbelow typed mat mstart mtoken mvalue many book images mkept aside_18 refused text items drawn row best) H → va_D A (cMod cI cZ q quiet mabove mbelow typed mat mstart mtoken mvalue many book images mkept aside_18 refused text items drawn row best) → va_S A s.heap H locs → ∀ (ls : Array Slot), lv_has ls 8 [(0, .ref (q 0)), (1, .int a_c), (2, .int a_n), (3, .int a_seed), (4, .int y17)] → W p l e rm6_years s m args below meth c H locs 0 0 Q (F0 m 53 ls []) := by
            intro k19 hk19 n19
            induction n19 with
            | zero =>
              intro y17 aside_18 hf
              cases hf
            | succ n19 ih19 =>
              intro y17 aside_18 hf H locs hP hD hS ls hl
              rw [L6_years_53] at hf
              refine lv_iload hx hb (zD_g DX6_years 28 rfl) (lv_at hl 4 rfl) ?_
              refine lv_sipush (v := (230 : Int32)) hx hb (zD_g DX6_years 29 rfl) (by decide) ?_
              refine lv_icmp_ge (tgt := 81) hx hb (zD_g DX6_years 30 rfl) (by decide) (fun c20 => ?_) (fun c20 => ?_)
              · replace hf := z_t c20 hf
                exact hk19 _ hf _ _ hP hD hS ls (lv_sub hl [0, 1, 2, 3] rfl)
              · replace hf := z_f c20 hf
                refine lv_aload_n hx hb (zD_g DX6_years 31 rfl) rfl (lv_at hl 0 rfl) ?_
                refine va_get (D := D) (ci := 5) (v := .ref (q 4)) (C := RX6) (T := TX6) (N := 19) hx hb hts in6_years_6 hown hK.1 hP 0 rfl rfl 3 (by decide) (hts _ (List.mem_of_getElem? (i := 4) rfl)) (fun _ h9 => h9) rfl (zD_g DX6_years 32 rfl) ?_
                refine lv_iload hx hb (zD_g DX6_years 33 rfl) (lv_at hl 4 rfl) ?_
                refine lv_aload_n hx hb (zD_g DX6_years 34 rfl) rfl (lv_at hl 0 rfl) ?_
                refine va_get (D := D) (ci := 5) (v := .ref (q 1)) (C := RX6) (T := TX6) (N := 19) hx hb hts in6_years_6 hown hK.1 hP 0 rfl rfl 0 (by decide) (hts _ (List.mem_of_getElem? (i := 3) rfl)) (fun _ h9 => h9) rfl (zD_g DX6_years 35 rfl) ?_
                refine lv_iload hx hb (zD_g DX6_years 36 rfl) (lv_at hl 4 rfl) ?_
                obtain ⟨h21, hf⟩ := zg_s hf
                refine z_iald (k := y17.toNatClampNeg) hx hb hK.1 hP 1 0 rfl rfl h21 rfl (zD_g DX6_years 37 rfl) ?_
                refine lv_topi (fun x22 ex22 => ?_)
                replace hf := zl_s hf x22 ex22
                obtain ⟨h23, hf⟩ := zg_s hf
                refine z_iast (k := y17.toNatClampNeg) (ws' := (cMod cI cZ q quiet mabove mbelow typed mat mstart mtoken mvalue many book images mkept (upd aside_18 y17.toNatClampNeg x22) refused text items drawn row best)) hx hb hK.1 hP hD hS 4 0 rfl rfl h23 rfl rfl (zD_g DX6_years 38 rfl) (fun H locs hP hD hS => ?_)
                refine lv_iinc (v := y17 + 1) (lv' := [(4, .int (y17 + 1)), (0, .ref (q 0)), (1, .int a_c), (2, .int a_n), (3, .int a_seed)]) (k := 4) hx hb (zD_g DX6_years 39 rfl) hl rfl rfl (by decide) rfl (fun ls hl => ?_)
                refine lv_goto (tgt := 53) hx hb (zD_g DX6_years 40 rfl) (by decide) ?_
                exact ih19 _ _ hf _ _ hP hD hS ls (lv_sub hl [1, 2, 3, 4, 0] rfl)
          refine hL19 _ (fun aside_24 hf H locs hP hD hS ls hl => ?_) _ _ _ hf _ _ hP hD hS ls (lv_sub hl [1, 2, 3, 4, 0] rfl)
          refine lv_iload_n hx hb (zD_g DX6_years 41 rfl) rfl (lv_at hl 3 rfl) ?_
          refine lv_i2l (v := (a_seed).toInt64) hx hb (zD_g DX6_years 42 rfl) rfl ?_
          refine lv_topl (fun x25 ex25 => ?_)
          replace hf := zl_s hf x25 ex25
          refine lv_lstore (lv' := [(4, .long x25), (0, .ref (q 0)), (1, .int a_c), (2, .int a_n), (3, .int a_seed)]) hx hb (zD_g DX6_years 43 rfl) hl (by decide) rfl (fun ls hl => ?_)
          refine lv_iconst (v := (0 : Int32)) hx hb (zD_g DX6_years 44 rfl) (by decide) ?_
          refine lv_istore (lv' := [(6, .int (0 : Int32)), (4, .long x25), (0, .ref (q 0)), (1, .int a_c), (2, .int a_n), (3, .int a_seed)]) hx hb (zD_g DX6_years 45 rfl) hl (by decide) rfl (fun ls hl => ?_)
          have hL29 : ∀ (k29 : (Nat → Int32) → Option (Int32 × (Nat → Int32) × (Nat → Int32) × (Nat → Int32))) (hk29 : ∀ (book_42 : Nat → Int32), k29 book_42 = some (r, d_book, d_aside, d_refused) → ∀ (H : Heap) (locs : List Loc), va_P D vwCl (cMod cI cZ q quiet mabove mbelow typed mat mstart mtoken mvalue many book_42 images mkept aside_24 refused text items drawn row best) H → va_D A (cMod cI cZ q quiet mabove mbelow typed mat mstart mtoken mvalue many book_42 images mkept aside_24 refused text items drawn row best) → va_S A s.heap H locs → ∀ (ls : Array Slot), lv_has ls 8 [(0, .ref (q 0)), (1, .int a_c)] → W p l e rm6_years s m args below meth c H locs 0 0 Q (F0 m 167 ls [])) (n29 : Nat) (y26 : Int64) (y27 : Int32) (book_28 : Nat → Int32), L6_years_88 k29 a_n n29 y26 y27 book_28 = some (r, d_book, d_aside, d_refused) → ∀ (H : Heap) (locs : List Loc), va_P D vwCl (cMod cI cZ q quiet mabove mbelow typed mat mstart mtoken mvalue many book_28 images mkept aside_24 refused text items drawn row best) H → va_D A (cMod cI cZ q quiet mabove mbelow typed mat mstart mtoken mvalue many book_28 images mkept aside_24 refused text items drawn row best) → va_S A s.heap H locs → ∀ (ls : Array Slot), lv_has ls 8 [(0, .ref (q 0)), (1, .int a_c), (2, .int a_n), (4, .long y26), (6, .int y27)] → W p l e rm6_years s m args below meth c H locs 0 0 Q (F0 m 88 ls []) := by
            intro k29 hk29 n29
            induction n29 with
            | zero =>
              intro y26 y27 book_28 hf
              cases hf
            | succ n29 ih29 =>
              intro y26 y27 book_28 hf H locs hP hD hS ls hl
              rw [L6_years_88] at hf
              refine lv_iload hx hb (zD_g DX6_years 46 rfl) (lv_at hl 4 rfl) ?_
              refine lv_iload_n hx hb (zD_g DX6_years 47 rfl) rfl (lv_at hl 2 rfl) ?_
              refine lv_icmp_ge (tgt := 167) hx hb (zD_g DX6_years 48 rfl) (by decide) (fun c30 => ?_) (fun c30 => ?_)
              · replace hf := z_t c30 hf
                exact hk29 _ hf _ _ hP hD hS ls (lv_sub hl [0, 1] rfl)
              · replace hf := z_f c30 hf
                refine lv_lload hx hb (zD_g DX6_years 49 rfl) (lv_at hl 3 rfl) ?_
                refine lv_ldc2 (v := (1103515245 : Int64)) hx hb hown (hts _ (List.mem_of_getElem? (i := 5) rfl)) (zD_g DX6_years 50 rfl) ?_
                refine lv_lmul hx hb (zD_g DX6_years 51 rfl) ?_
                refine lv_ldc2 (v := (12345 : Int64)) hx hb hown (hts _ (List.mem_of_getElem? (i := 6) rfl)) (zD_g DX6_years 52 rfl) ?_
                refine lv_ladd hx hb (zD_g DX6_years 53 rfl) ?_
                refine lv_topl (fun x31 ex31 => ?_)
                replace hf := zl_s hf x31 ex31
                refine lv_ldc2 (v := (2147483648 : Int64)) hx hb hown (hts _ (List.mem_of_getElem? (i := 7) rfl)) (zD_g DX6_years 54 rfl) ?_
                refine lv_lrem hx hb (zD_g DX6_years 55 rfl) (by decide) ?_
                refine lv_topl (fun x32 ex32 => ?_)
                replace hf := zl_s hf x32 ex32
                refine lv_lstore (lv' := [(4, .long x32), (0, .ref (q 0)), (1, .int a_c), (2, .int a_n), (6, .int y27)]) hx hb (zD_g DX6_years 56 rfl) hl (by decide) rfl (fun ls hl => ?_)
                refine lv_lload hx hb (zD_g DX6_years 57 rfl) (lv_at hl 0 rfl) ?_
                refine lv_ldc2 (v := (65536 : Int64)) hx hb hown (hts _ (List.mem_of_getElem? (i := 8) rfl)) (zD_g DX6_years 58 rfl) ?_
                refine lv_ldiv hx hb (zD_g DX6_years 59 rfl) (by decide) ?_
                refine lv_aload_n hx hb (zD_g DX6_years 60 rfl) rfl (lv_at hl 1 rfl) ?_
                refine va_get (D := D) (ci := 5) (v := .ref (q 1)) (C := RX6) (T := TX6) (N := 19) hx hb hts in6_years_6 hown hK.1 hP 0 rfl rfl 0 (by decide) (hts _ (List.mem_of_getElem? (i := 3) rfl)) (fun _ h9 => h9) rfl (zD_g DX6_years 61 rfl) ?_
                refine lv_iconst (v := (1 : Int32)) hx hb (zD_g DX6_years 62 rfl) (by decide) ?_
                refine z_iald (k := 1) hx hb hK.1 hP 1 0 rfl rfl (by decide) rfl (zD_g DX6_years 63 rfl) ?_
                refine lv_topi (fun x33 ex33 => ?_)
                replace hf := zl_s hf x33 ex33
                refine lv_i2l (v := (x33).toInt64) hx hb (zD_g DX6_years 64 rfl) rfl ?_
                obtain ⟨h34, hf⟩ := zdl_s hf
                refine lv_lrem hx hb (zD_g DX6_years 65 rfl) h34 ?_
                refine lv_l2i (v := (((x32 / (65536 : Int64)) - (x32 / (65536 : Int64)) / ((x33).toInt64) * ((x33).toInt64))).toInt32) hx hb (zD_g DX6_years 66 rfl) rfl ?_
                refine lv_topi (fun x35 ex35 => ?_)
                replace hf := zl_s hf x35 ex35
                refine lv_istore (lv' := [(7, .int x35), (4, .long x32), (0, .ref (q 0)), (1, .int a_c), (2, .int a_n), (6, .int y27)]) hx hb (zD_g DX6_years 67 rfl) hl (by decide) rfl (fun ls hl => ?_)
                refine lv_lload hx hb (zD_g DX6_years 68 rfl) (lv_at hl 1 rfl) ?_
                refine lv_ldc2 (v := (1103515245 : Int64)) hx hb hown (hts _ (List.mem_of_getElem? (i := 5) rfl)) (zD_g DX6_years 69 rfl) ?_
                refine lv_lmul hx hb (zD_g DX6_years 70 rfl) ?_
                refine lv_ldc2 (v := (12345 : Int64)) hx hb hown (hts _ (List.mem_of_getElem? (i := 6) rfl)) (zD_g DX6_years 71 rfl) ?_
                refine lv_ladd hx hb (zD_g DX6_years 72 rfl) ?_
                refine lv_topl (fun x36 ex36 => ?_)
                replace hf := zl_s hf x36 ex36
                refine lv_ldc2 (v := (2147483648 : Int64)) hx hb hown (hts _ (List.mem_of_getElem? (i := 7) rfl)) (zD_g DX6_years 73 rfl) ?_
                refine lv_lrem hx hb (zD_g DX6_years 74 rfl) (by decide) ?_
                refine lv_topl (fun x37 ex37 => ?_)
                replace hf := zl_s hf x37 ex37
                refine lv_lstore (lv' := [(4, .long x37), (7, .int x35), (0, .ref (q 0)), (1, .int a_c), (2, .int a_n), (6, .int y27)]) hx hb (zD_g DX6_years 75 rfl) hl (by decide) rfl (fun ls hl => ?_)
                refine lv_aload_n hx hb (zD_g DX6_years 76 rfl) rfl (lv_at hl 2 rfl) ?_
                refine lv_iload hx hb (zD_g DX6_years 77 rfl) (lv_at hl 1 rfl) ?_
                refine lv_lload hx hb (zD_g DX6_years 78 rfl) (lv_at hl 0 rfl) ?_
                refine lv_ldc2 (v := (65536 : Int64)) hx hb hown (hts _ (List.mem_of_getElem? (i := 8) rfl)) (zD_g DX6_years 79 rfl) ?_
                refine lv_ldiv hx hb (zD_g DX6_years 80 rfl) (by decide) ?_
                refine lv_topl (fun x38 ex38 => ?_)
                replace hf := zl_s hf x38 ex38
                refine lv_ldc2 (v := (6 : Int64)) hx hb hown (hts _ (List.mem_of_getElem? (i := 9) rfl)) (zD_g DX6_years 81 rfl) ?_
                refine lv_lrem hx hb (zD_g DX6_years 82 rfl) (by decide) ?_
                refine lv_l2i (v := ((x38 - x38 / (6 : Int64) * (6 : Int64))).toInt32) hx hb (zD_g DX6_years 83 rfl) rfl ?_
                obtain ⟨r39, book_40, hc41, hf⟩ := zb2_s hf
                refine z_Vm (As := [.int x35, .int (((x38 - x38 / (6 : Int64) * (6 : Int64))).toInt32)]) (rest := []) (ws' := (cMod cI cZ q quiet mabove mbelow typed mat mstart mtoken mvalue many book_40 images mkept aside_24 refused text items drawn row best)) ⟨hx, hb, hml, hown, hts⟩ hK (c6_sends (quiet := quiet) (mabove := mabove) (mbelow := mbelow) (typed := typed) (mat := mat) (mstart := mstart) (mtoken := mtoken) (mvalue := mvalue) (many := many) (book := book_28) (images := images) (mkept := mkept) (aside := aside_24) (refused := refused) (text := text) (items := items) (drawn := drawn) (row := row) (best := best) (q := q) hc41) (cwV 2 hts gX6_years_X6_sends rfl rfl rfl hd6_sends ⟨Nat.le_of_ble_eq_true rfl, Nat.le_of_ble_eq_true rfl⟩) hP hD hS hA 11 [0, 1, 2, 3, 4, 5, 6, 7, 8, 9, 10] [] [0, 1, 2, 3, 4, 5, 6, 7, 8, 9, 10] (by decide +kernel) rfl rfl rfl rfl rfl rfl rfl hl.1 rfl rfl (Nat.le_of_ble_eq_true rfl) (zD_g DX6_years 84 rfl) ⟨Nat.zero_le _, Nat.zero_le _⟩ (fun H locs hP hD hS => ?_)
                refine lv_pop hx hb (zD_g DX6_years 85 rfl) rfl ?_
                refine lv_iinc (v := y27 + 1) (lv' := [(6, .int (y27 + 1)), (4, .long x37), (7, .int x35), (0, .ref (q 0)), (1, .int a_c), (2, .int a_n)]) (k := 5) hx hb (zD_g DX6_years 86 rfl) hl rfl rfl (by decide) rfl (fun ls hl => ?_)
                refine lv_goto (tgt := 88) hx hb (zD_g DX6_years 87 rfl) (by decide) ?_
                exact ih29 _ _ _ hf _ _ hP hD hS ls (lv_sub hl [3, 4, 5, 1, 0] rfl)
          refine hL29 _ (fun book_42 hf H locs hP hD hS ls hl => ?_) _ _ _ _ hf _ _ hP hD hS ls (lv_sub hl [2, 3, 4, 1, 0] rfl)
          refine lv_aload_n hx hb (zD_g DX6_years 88 rfl) rfl (lv_at hl 0 rfl) ?_
          refine va_get (D := D) (ci := 5) (v := .ref (q 1)) (C := RX6) (T := TX6) (N := 19) hx hb hts in6_years_6 hown hK.1 hP 0 rfl rfl 0 (by decide) (hts _ (List.mem_of_getElem? (i := 3) rfl)) (fun _ h9 => h9) rfl (zD_g DX6_years 89 rfl) ?_
          refine lv_bipush (v := (92 : Int32)) hx hb (zD_g DX6_years 90 rfl) (by decide) ?_
          refine lv_iload_n hx hb (zD_g DX6_years 91 rfl) rfl (lv_at hl 1 rfl) ?_
          refine lv_iadd hx hb (zD_g DX6_years 92 rfl) ?_
          obtain ⟨h43, hf⟩ := zg_s hf
          refine z_iald (k := ((92 : Int32) + a_c).toNatClampNeg) hx hb hK.1 hP 1 0 rfl rfl h43 rfl (zD_g DX6_years 93 rfl) ?_
          refine lv_topi (fun x44 ex44 => ?_)
          replace hf := zl_s hf x44 ex44
          refine lv_istore (lv' := [(6, .int x44), (0, .ref (q 0)), (1, .int a_c)]) hx hb (zD_g DX6_years 94 rfl) hl (by decide) rfl (fun ls hl => ?_)
          refine lv_iconst (v := (0 : Int32)) hx hb (zD_g DX6_years 95 rfl) (by decide) ?_
          refine lv_istore (lv' := [(7, .int (0 : Int32)), (6, .int x44), (0, .ref (q 0)), (1, .int a_c)]) hx hb (zD_g DX6_years 96 rfl) hl (by decide) rfl (fun ls hl => ?_)
          have hL47 : ∀ (k47 : (Nat → Int32) → Option (Int32 × (Nat → Int32) × (Nat → Int32) × (Nat → Int32))) (hk47 : ∀ (book_52 : Nat → Int32), k47 book_52 = some (r, d_book, d_aside, d_refused) → ∀ (H : Heap) (locs : List Loc), va_P D vwCl (cMod cI cZ q quiet mabove mbelow typed mat mstart mtoken mvalue many book_52 images mkept aside_24 refused text items drawn row best) H → va_D A (cMod cI cZ q quiet mabove mbelow typed mat mstart mtoken mvalue many book_52 images mkept aside_24 refused text items drawn row best) → va_S A s.heap H locs → ∀ (ls : Array Slot), lv_has ls 8 [(6, .int x44)] → W p l e rm6_years s m args below meth c H locs 0 0 Q (F0 m 209 ls [])) (n47 : Nat) (y45 : Int32) (book_46 : Nat → Int32), L6_years_181 k47 aside_24 n47 y45 book_46 = some (r, d_book, d_aside, d_refused) → ∀ (H : Heap) (locs : List Loc), va_P D vwCl (cMod cI cZ q quiet mabove mbelow typed mat mstart mtoken mvalue many book_46 images mkept aside_24 refused text items drawn row best) H → va_D A (cMod cI cZ q quiet mabove mbelow typed mat mstart mtoken mvalue many book_46 images mkept aside_24 refused text items drawn row best) → va_S A s.heap H locs → ∀ (ls : Array Slot), lv_has ls 8 [(0, .ref (q 0)), (6, .int x44), (7, .int y45)] → W p l e rm6_years s m args below meth c H locs 0 0 Q (F0 m 181 ls []) := by
            intro k47 hk47 n47
            induction n47 with
            | zero =>
              intro y45 book_46 hf
              cases hf
            | succ n47 ih47 =>
              intro y45 book_46 hf H locs hP hD hS ls hl
              rw [L6_years_181] at hf
              refine lv_iload hx hb (zD_g DX6_years 97 rfl) (lv_at hl 2 rfl) ?_
              refine lv_sipush (v := (230 : Int32)) hx hb (zD_g DX6_years 98 rfl) (by decide) ?_
              refine lv_icmp_ge (tgt := 209) hx hb (zD_g DX6_years 99 rfl) (by decide) (fun c48 => ?_) (fun c48 => ?_)
              · replace hf := z_t c48 hf
                exact hk47 _ hf _ _ hP hD hS ls (lv_sub hl [1] rfl)
              · replace hf := z_f c48 hf
                refine lv_aload_n hx hb (zD_g DX6_years 100 rfl) rfl (lv_at hl 0 rfl) ?_
                refine va_get (D := D) (ci := 5) (v := .ref (q 1)) (C := RX6) (T := TX6) (N := 19) hx hb hts in6_years_6 hown hK.1 hP 0 rfl rfl 0 (by decide) (hts _ (List.mem_of_getElem? (i := 3) rfl)) (fun _ h9 => h9) rfl (zD_g DX6_years 101 rfl) ?_
                refine lv_iload hx hb (zD_g DX6_years 102 rfl) (lv_at hl 2 rfl) ?_
                refine lv_aload_n hx hb (zD_g DX6_years 103 rfl) rfl (lv_at hl 0 rfl) ?_
                refine va_get (D := D) (ci := 5) (v := .ref (q 4)) (C := RX6) (T := TX6) (N := 19) hx hb hts in6_years_6 hown hK.1 hP 0 rfl rfl 3 (by decide) (hts _ (List.mem_of_getElem? (i := 4) rfl)) (fun _ h9 => h9) rfl (zD_g DX6_years 104 rfl) ?_
                refine lv_iload hx hb (zD_g DX6_years 105 rfl) (lv_at hl 2 rfl) ?_
                obtain ⟨h49, hf⟩ := zg_s hf
                refine z_iald (k := y45.toNatClampNeg) hx hb hK.1 hP 4 0 rfl rfl h49 rfl (zD_g DX6_years 106 rfl) ?_
                refine lv_topi (fun x50 ex50 => ?_)
                replace hf := zl_s hf x50 ex50
                obtain ⟨h51, hf⟩ := zg_s hf
                refine z_iast (k := y45.toNatClampNeg) (ws' := (cMod cI cZ q quiet mabove mbelow typed mat mstart mtoken mvalue many (upd book_46 y45.toNatClampNeg x50) images mkept aside_24 refused text items drawn row best)) hx hb hK.1 hP hD hS 1 0 rfl rfl h51 rfl rfl (zD_g DX6_years 107 rfl) (fun H locs hP hD hS => ?_)
                refine lv_iinc (v := y45 + 1) (lv' := [(7, .int (y45 + 1)), (0, .ref (q 0)), (6, .int x44)]) (k := 2) hx hb (zD_g DX6_years 108 rfl) hl rfl rfl (by decide) rfl (fun ls hl => ?_)
                refine lv_goto (tgt := 181) hx hb (zD_g DX6_years 109 rfl) (by decide) ?_
                exact ih47 _ _ hf _ _ hP hD hS ls (lv_sub hl [1, 2, 0] rfl)
          refine hL47 _ (fun book_52 hf H locs hP hD hS ls hl => ?_) _ _ _ hf _ _ hP hD hS ls (lv_sub hl [2, 1, 0] rfl)
          refine lv_iload hx hb (zD_g DX6_years 110 rfl) (lv_at hl 0 rfl) ?_
          cases hf
          exact hret _ _ _ _ hP hD hS (zD_g DX6_years 111 rfl)
        · replace hf := z_t c16 hf
          refine lv_aload_n hx hb (zD_g DX6_years 23 rfl) rfl (lv_at hl 0 rfl) ?_
          obtain ⟨r53, refused_54, hc55, hf⟩ := zb2_s hf
          refine z_Vm (As := []) (rest := []) (ws' := (cMod cI cZ q quiet mabove mbelow typed mat mstart mtoken mvalue many book images mkept aside refused_54 text items drawn row best)) ⟨hx, hb, hml, hown, hts⟩ hK (c6_no (quiet := quiet) (mabove := mabove) (mbelow := mbelow) (typed := typed) (mat := mat) (mstart := mstart) (mtoken := mtoken) (mvalue := mvalue) (many := many) (book := book) (images := images) (mkept := mkept) (aside := aside) (refused := refused) (text := text) (items := items) (drawn := drawn) (row := row) (best := best) (q := q) hc55) (cwV 0 hts gX6_years_X6_no rfl rfl rfl hd6_no ⟨Nat.le_of_ble_eq_true rfl, Nat.le_of_ble_eq_true rfl⟩) hP hD hS hA 11 [0, 1, 2, 3, 4, 5, 6, 7, 8, 9, 10] [] [0, 1, 2, 3, 4, 5, 6, 7, 8, 9, 10] (by decide +kernel) rfl rfl rfl rfl rfl rfl rfl hl.1 rfl rfl (Nat.le_of_ble_eq_true rfl) (zD_g DX6_years 24 rfl) ⟨Nat.zero_le _, Nat.zero_le _⟩ (fun H locs hP hD hS => ?_)
          cases hf
          exact hret _ _ _ _ hP hD hS (zD_g DX6_years 25 rfl)
      · replace hf := z_t c15 hf
        refine lv_aload_n hx hb (zD_g DX6_years 15 rfl) rfl (lv_at hl 0 rfl) ?_
        obtain ⟨r56, refused_57, hc58, hf⟩ := zb2_s hf
        refine z_Vm (As := []) (rest := []) (ws' := (cMod cI cZ q quiet mabove mbelow typed mat mstart mtoken mvalue many book images mkept aside refused_57 text items drawn row best)) ⟨hx, hb, hml, hown, hts⟩ hK (c6_bad (quiet := quiet) (mabove := mabove) (mbelow := mbelow) (typed := typed) (mat := mat) (mstart := mstart) (mtoken := mtoken) (mvalue := mvalue) (many := many) (book := book) (images := images) (mkept := mkept) (aside := aside) (refused := refused) (text := text) (items := items) (drawn := drawn) (row := row) (best := best) (q := q) hc58) (cwV 0 hts gX6_years_X6_bad rfl rfl rfl hd6_bad ⟨Nat.le_of_ble_eq_true rfl, Nat.le_of_ble_eq_true rfl⟩) hP hD hS hA 11 [0, 1, 2, 3, 4, 5, 6, 7, 8, 9, 10] [] [0, 1, 2, 3, 4, 5, 6, 7, 8, 9, 10] (by decide +kernel) rfl rfl rfl rfl rfl rfl rfl hl.1 rfl rfl (Nat.le_of_ble_eq_true rfl) (zD_g DX6_years 16 rfl) ⟨Nat.zero_le _, Nat.zero_le _⟩ (fun H locs hP hD hS => ?_)
        cases hf
        exact hret _ _ _ _ hP hD hS (zD_g DX6_years 17 rfl)
theorem hd6_years : yX6_years.cls = RX6 ∧ yX6_years.cls ≠ "java/lang/invoke/MethodHandle" ∧ yX6_years.cls ≠ "java/lang/invoke/VarHandle" ∧ (parseMethodDescriptor yX6_years.desc).map (fun d => d.parameters.length) = some 3 := by decide +kernel
abbrev dlX6_part : List (Nat × Instr × Nat) := [(0, .iload_n 1, 1), (1, .ifCond .ne 10, 3), (4, .aload_n 0, 1), (5, .getfield 228, 3), (8, .goto 20, 3), (11, .iload_n 1, 1), (12, .iconst 1, 1), (13, .if_icmp .ne 10, 3), (16, .aload_n 0, 1), (17, .getfield 41, 3), (20, .goto 8, 3), (23, .aload_n 0, 1), (24, .invokevirtual 66, 3), (27, .i2l, 1), (28, .lreturn, 1)]
theorem DX6_part : zD cX6_part dlX6_part = true := by decide +kernel
set_option maxRecDepth 20000 in
theorem ggX6_part_X6_bad : GoodIn wsX6_part wsX6_bad := goodIn_r _ [7, 8, 9, 10, 6, 11, 12, 13, 14, 15, 16, 17, 18, 19, 20, 21, 22, 23, 24, 25, 26, 27, 28, 29, 30, 31, 32] (by decide +kernel) (by decide +kernel)
set_option maxRecDepth 20000 in
theorem gX6_part_X6_bad : GoodIn wsX6_part (wsV RX6 66 RX6 yX6_bad wsX6_bad) := goodIn_app (goodIn_of _ (by decide +kernel)) ggX6_part_X6_bad
def f6_part (quiet : Int32) (mabove : Int64) (mbelow : Int64) (refused : Nat → Int32) (a_what : Int32) : Option (Int64 × (Nat → Int32)) := if a_what = 0 then some (mabove, refused) else if a_what = (1 : Int32) then some (mbelow, refused) else zb2 (f6_bad quiet refused) (fun r3 refused_4 => some ((r3).toInt64, refused_4))
abbrev rm6_part : Room := { frames := 2, cells := 0, slots := 0, locals := 42 }
theorem in6_part_6 : ∀ w ∈ wsX60, w ∈ wsX6_part := fun w h => List.mem_cons_of_mem _ (List.mem_append_right _ h)
set_option maxHeartbeats 4000000 in
set_option maxRecDepth 100000 in
theorem c6_part {l : Launch} {D : va_G} {cI cZ cB : ClassId} {q : Nat → Nat} {sz : Nat} {quiet : Int32} {mabove : Int64} {mbelow : Int64} {typed : Int32} {mat : Int32} {mstart : Int32} {mtoken : Int32} {mvalue : Int32} {many : Int32} {book : Nat → Int32} {images : Nat → Int32} {mkept : Nat → Int32} {aside : Nat → Int32} {refused : Nat → Int32} {text : Nat → Int32} {items : Nat → Int32} {drawn : Nat → Int32} {row : Nat → Int32} {best : Nat → Int32} {a_what : Int32} {r : Int64} {d_refused : Nat → Int32} (hf : f6_part quiet mabove mbelow refused a_what = some (r, d_refused)) : Met l yX6_part wsX6_part rm6_part (zPm D cI cZ cB [.ref (q 0), .int a_what] sz (cMod cI cZ q quiet mabove mbelow typed mat mstart mtoken mvalue many book images mkept aside refused text items drawn row best)) (zQm D (some (.long r)) (cMod cI cZ q quiet mabove mbelow typed mat mstart mtoken mvalue many book images mkept aside d_refused text items drawn row best) (va_A (cMod cI cZ q quiet mabove mbelow typed mat mstart mtoken mvalue many book images mkept aside refused text items drawn row best) sz)) 0 0 (va_A (cMod cI cZ q quiet mabove mbelow typed mat mstart mtoken mvalue many book images mkept aside refused text items drawn row best) sz) := by
  unfold f6_part at hf
  refine z_mutL RX6 (by decide +kernel) rfl rfl (Nat.le_of_ble_eq_true rfl) ?_
  intro p e s m args below meth c Q A ls hx hb hml hown hts hK hP hD hS hA hret hl
  have hl : lv_has ls 2 [(0, .ref (q 0)), (1, .int a_what)] := hl
  refine lv_iload_n hx hb (zD_g DX6_part 0 rfl) rfl (lv_at hl 1 rfl) ?_
  refine lv_if_ne (tgt := 11) hx hb (zD_g DX6_part 1 rfl) (by decide) (fun c1 => ?_) (fun c1 => ?_)
  · replace hf := z_f c1 hf
    refine lv_iload_n hx hb (zD_g DX6_part 5 rfl) rfl (lv_at hl 1 rfl) ?_
    refine lv_iconst (v := (1 : Int32)) hx hb (zD_g DX6_part 6 rfl) (by decide) ?_
    refine lv_icmp_ne (tgt := 23) hx hb (zD_g DX6_part 7 rfl) (by decide) (fun c2 => ?_) (fun c2 => ?_)
    · replace hf := z_f c2 hf
      refine lv_aload_n hx hb (zD_g DX6_part 11 rfl) rfl (lv_at hl 0 rfl) ?_
      obtain ⟨r3, refused_4, hc5, hf⟩ := zb2_s hf
      refine z_Vm (As := []) (rest := []) (ws' := (cMod cI cZ q quiet mabove mbelow typed mat mstart mtoken mvalue many book images mkept aside refused_4 text items drawn row best)) ⟨hx, hb, hml, hown, hts⟩ hK (c6_bad (quiet := quiet) (mabove := mabove) (mbelow := mbelow) (typed := typed) (mat := mat) (mstart := mstart) (mtoken := mtoken) (mvalue := mvalue) (many := many) (book := book) (images := images) (mkept := mkept) (aside := aside) (refused := refused) (text := text) (items := items) (drawn := drawn) (row := row) (best := best) (q := q) hc5) (cwV 0 hts gX6_part_X6_bad rfl rfl rfl hd6_bad ⟨Nat.le_of_ble_eq_true rfl, Nat.le_of_ble_eq_true rfl⟩) hP hD hS hA 11 [0, 1, 2, 3, 4, 5, 6, 7, 8, 9, 10] [] [0, 1, 2, 3, 4, 5, 6, 7, 8, 9, 10] (by decide +kernel) rfl rfl rfl rfl rfl rfl rfl hl.1 rfl rfl (Nat.le_of_ble_eq_true rfl) (zD_g DX6_part 12 rfl) ⟨Nat.zero_le _, Nat.zero_le _⟩ (fun H locs hP hD hS => ?_)
      refine lv_i2l (v := (r3).toInt64) hx hb (zD_g DX6_part 13 rfl) rfl ?_
      cases hf
      exact hret _ _ _ _ hP hD hS (zD_g DX6_part 14 rfl)
    · replace hf := z_t c2 hf
      refine lv_aload_n hx hb (zD_g DX6_part 8 rfl) rfl (lv_at hl 0 rfl) ?_
      refine va_get (D := D) (ci := 5) (v := .long mbelow) (C := RX6) (T := TX6) (N := 19) hx hb hts in6_part_6 hown hK.1 hP 0 rfl rfl 7 (by decide) (hts _ (List.mem_of_getElem? (i := 2) rfl)) (fun _ h9 => h9) rfl (zD_g DX6_part 9 rfl) ?_
      refine lv_goto (tgt := 28) hx hb (zD_g DX6_part 10 rfl) (by decide) ?_
      cases hf
      exact hret _ _ _ _ hP hD hS (zD_g DX6_part 14 rfl)
  · replace hf := z_t c1 hf
    refine lv_aload_n hx hb (zD_g DX6_part 2 rfl) rfl (lv_at hl 0 rfl) ?_
    refine va_get (D := D) (ci := 5) (v := .long mabove) (C := RX6) (T := TX6) (N := 19) hx hb hts in6_part_6 hown hK.1 hP 0 rfl rfl 6 (by decide) (hts _ (List.mem_of_getElem? (i := 1) rfl)) (fun _ h9 => h9) rfl (zD_g DX6_part 3 rfl) ?_
    refine lv_goto (tgt := 28) hx hb (zD_g DX6_part 4 rfl) (by decide) ?_
    cases hf
    exact hret _ _ _ _ hP hD hS (zD_g DX6_part 14 rfl)
theorem hd6_part : yX6_part.cls = RX6 ∧ yX6_part.cls ≠ "java/lang/invoke/MethodHandle" ∧ yX6_part.cls ≠ "java/lang/invoke/VarHandle" ∧ (parseMethodDescriptor yX6_part.desc).map (fun d => d.parameters.length) = some 1 := by decide +kernel
abbrev dlX6_image : List (Nat × Instr × Nat) := [(0, .iload_n 1, 1), (1, .i2l, 1), (2, .lconst 0, 1), (3, .lconst 1, 1), (4, .invokestatic 56, 3), (7, .ifCond .ne 8, 3), (10, .aload_n 0, 1), (11, .invokevirtual 66, 3), (14, .ireturn, 1), (15, .iconst 0, 1), (16, .istore_n 2, 1), (17, .iload_n 2, 1), (18, .sipush 230, 3), (21, .if_icmp .ge 27, 3), (24, .aload_n 0, 1), (25, .getfield 13, 3), (28, .sipush 230, 3), (31, .iload_n 1, 1), (32, .imul, 1), (33, .iload_n 2, 1), (34, .iadd, 1), (35, .aload_n 0, 1), (36, .getfield 7, 3), (39, .iload_n 2, 1), (40, .iaload, 1), (41, .iastore, 1), (42, .iinc 2 1, 3), (45, .goto (-28), 3), (48, .aload_n 0, 1), (49, .getfield 16, 3), (52, .iload_n 1, 1), (53, .iconst 1, 1), (54, .bastore, 1), (55, .iconst 1, 1), (56, .ireturn, 1)]
theorem DX6_image : zD cX6_image dlX6_image = true := by decide +kernel
set_option maxRecDepth 20000 in
theorem ggX6_image_X6_in : GoodIn wsX6_image wsX6_in := goodIn_r _ [7] (by decide +kernel) (by decide +kernel)
set_option maxRecDepth 20000 in
theorem gX6_image_X6_in : GoodIn wsX6_image (va_wsS RX6 56 yX6_in wsX6_in) := goodIn_app (goodIn_of _ (by decide +kernel)) ggX6_image_X6_in
set_option maxRecDepth 20000 in
theorem ggX6_image_X6_bad : GoodIn wsX6_image wsX6_bad := goodIn_r _ [11, 12, 13, 14, 6, 15, 16, 17, 18, 19, 20, 21, 22, 23, 24, 25, 26, 27, 28, 29, 30, 31, 32, 33, 34, 35, 36] (by decide +kernel) (by decide +kernel)
set_option maxRecDepth 20000 in
theorem gX6_image_X6_bad : GoodIn wsX6_image (wsV RX6 66 RX6 yX6_bad wsX6_bad) := goodIn_app (goodIn_of _ (by decide +kernel)) ggX6_image_X6_bad
def L6_image_17 (k6 : (Nat → Int32) → Option (Int32 × (Nat → Int32) × (Nat → Int32) × (Nat → Int32)))  (book : Nat → Int32) (a_i : Int32) : Nat → Int32 → (Nat → Int32) → Option (Int32 × (Nat → Int32) × (Nat → Int32) × (Nat → Int32))
  | 0, _, _ => none
  | n6 + 1, y4, images_5 => if (230 : Int32) ≤ y4 then k6 images_5 else zg y4 230 (zl ((book y4.toNatClampNeg)) (fun x9 => zg (((230 : Int32) * a_i) + y4) 460 (L6_image_17 k6 book a_i n6 (y4 + 1) (upd images_5 ((((230 : Int32) * a_i) + y4).toNatClampNeg) x9))))
def f6_image (quiet : Int32) (book : Nat → Int32) (images : Nat → Int32) (mkept : Nat → Int32) (refused : Nat → Int32) (a_i : Int32) : Option (Int32 × (Nat → Int32) × (Nat → Int32) × (Nat → Int32)) := zb1 (f6_in ((a_i).toInt64) (0 : Int64) (1 : Int64)) (fun r1 => if r1 = 0 then zb2 (f6_bad quiet refused) (fun r13 refused_14 => some (r13, images, mkept, refused_14)) else L6_image_17 (fun images_11 => zg a_i 2 (some ((1 : Int32), images_11, (upd mkept a_i.toNatClampNeg (vp_nar .boolean (1 : Int32))), refused))) book a_i FU (0 : Int32) images)
abbrev rm6_image : Room := { frames := 2, cells := 0, slots := 0, locals := 42 }
theorem in6_image_6 : ∀ w ∈ wsX60, w ∈ wsX6_image := fun w h => List.mem_cons_of_mem _ (List.mem_append_right _ h)
set_option maxHeartbeats 4000000 in
set_option maxRecDepth 100000 in
theorem c6_image {l : Launch} {D : va_G} {cI cZ cB : ClassId} {q : Nat → Nat} {sz : Nat} {quiet : Int32} {mabove : Int64} {mbelow : Int64} {typed : Int32} {mat : Int32} {mstart : Int32} {mtoken : Int32} {mvalue : Int32} {many : Int32} {book : Nat → Int32} {images : Nat → Int32} {mkept : Nat → Int32} {aside : Nat → Int32} {refused : Nat → Int32} {text : Nat → Int32} {items : Nat → Int32} {drawn : Nat → Int32} {row : Nat → Int32} {best : Nat → Int32} {a_i : Int32} {r : Int32} {d_images : Nat → Int32} {d_mkept : Nat → Int32} {d_refused : Nat → Int32} (hf : f6_image quiet book images mkept refused a_i = some (r, d_images, d_mkept, d_refused)) : Met l yX6_image wsX6_image rm6_image (zPm D cI cZ cB [.ref (q 0), .int a_i] sz (cMod cI cZ q quiet mabove mbelow typed mat mstart mtoken mvalue many book images mkept aside refused text items drawn row best)) (zQm D (some (.int r)) (cMod cI cZ q quiet mabove mbelow typed mat mstart mtoken mvalue many book d_images d_mkept aside d_refused text items drawn row best) (va_A (cMod cI cZ q quiet mabove mbelow typed mat mstart mtoken mvalue many book images mkept aside refused text items drawn row best) sz)) 0 0 (va_A (cMod cI cZ q quiet mabove mbelow typed mat mstart mtoken mvalue many book images mkept aside refused text items drawn row best) sz) := by
  unfold f6_image at hf
  refine z_mutI RX6 (by decide +kernel) rfl rfl (Nat.le_of_ble_eq_true rfl) ?_
  intro p e s m args below meth c Q A ls hx hb hml hown hts hK hP hD hS hA hret hl
  have hl : lv_has ls 3 [(0, .ref (q 0)), (1, .int a_i)] := hl
  refine lv_iload_n hx hb (zD_g DX6_image 0 rfl) rfl (lv_at hl 1 rfl) ?_
  refine lv_i2l (v := (a_i).toInt64) hx hb (zD_g DX6_image 1 rfl) rfl ?_
  refine lv_lconst (v := (0 : Int64)) hx hb (zD_g DX6_image 2 rfl) (by decide) ?_
  refine lv_lconst (v := (1 : Int64)) hx hb (zD_g DX6_image 3 rfl) (by decide) ?_
  obtain ⟨r1, hc2, hf⟩ := zb1_s hf
  refine z_Sp (As := [.long ((a_i).toInt64), .long (0 : Int64), .long (1 : Int64)]) (rest := []) ⟨hx, hb, hml, hown, hts⟩ hK (c6_in  hc2) (va_cwS 3 hts gX6_image_X6_in rfl rfl rfl hd6_in ⟨Nat.le_of_ble_eq_true rfl, Nat.le_of_ble_eq_true rfl⟩) (hP.sub [] rfl) rfl hl.1 rfl rfl (Nat.le_of_ble_eq_true rfl) (zD_g DX6_image 4 rfl) ⟨Nat.zero_le _, Nat.zero_le _⟩ ?_
  refine lv_if_ne (tgt := 15) hx hb (zD_g DX6_image 5 rfl) (by decide) (fun c3 => ?_) (fun c3 => ?_)
  · replace hf := z_f c3 hf
    refine lv_iconst (v := (0 : Int32)) hx hb (zD_g DX6_image 9 rfl) (by decide) ?_
    refine lv_istore_n (lv' := [(2, .int (0 : Int32)), (0, .ref (q 0)), (1, .int a_i)]) hx hb (zD_g DX6_image 10 rfl) rfl hl (by decide) rfl (fun ls hl => ?_)
    have hL6 : ∀ (k6 : (Nat → Int32) → Option (Int32 × (Nat → Int32) × (Nat → Int32) × (Nat → Int32))) (hk6 : ∀ (images_11 : Nat → Int32), k6 images_11 = some (r, d_images, d_mkept, d_refused) → ∀ (H : Heap) (locs : List Loc), va_P D vwCl (cMod cI cZ q quiet mabove mbelow typed mat mstart mtoken mvalue many book images_11 mkept aside refused text items drawn row best) H → va_D A (cMod cI cZ q quiet mabove mbelow typed mat mstart mtoken mvalue many book images_11 mkept aside refused text items drawn row best) → va_S A s.heap H locs → ∀ (ls : Array Slot), lv_has ls 3 [(0, .ref (q 0)), (1, .int a_i)] → W p l e rm6_image s m args below meth c H locs 0 0 Q (F0 m 48 ls [])) (n6 : Nat) (y4 : Int32) (images_5 : Nat → Int32), L6_image_17 k6 book a_i n6 y4 images_5 = some (r, d_images, d_mkept, d_refused) → ∀ (H : Heap) (locs : List Loc), va_P D vwCl (cMod cI cZ q quiet mabove mbelow typed mat mstart mtoken mvalue many book images_5 mkept aside refused text items drawn row best) H → va_D A (cMod cI cZ q quiet mabove mbelow typed mat mstart mtoken mvalue many book images_5 mkept aside refused text items drawn row best) → va_S A s.heap H locs → ∀ (ls : Array Slot), lv_has ls 3 [(0, .ref (q 0)), (1, .int a_i), (2, .int y4)] → W p l e rm6_image s m args below meth c H locs 0 0 Q (F0 m 17 ls []) := by
      intro k6 hk6 n6
      induction n6 with
      | zero =>
        intro y4 images_5 hf
        cases hf
      | succ n6 ih6 =>
        intro y4 images_5 hf H locs hP hD hS ls hl
        rw [L6_image_17] at hf
        refine lv_iload_n hx hb (zD_g DX6_image 11 rfl) rfl (lv_at hl 2 rfl) ?_
        refine lv_sipush (v := (230 : Int32)) hx hb (zD_g DX6_image 12 rfl) (by decide) ?_
        refine lv_icmp_ge (tgt := 48) hx hb (zD_g DX6_image 13 rfl) (by decide) (fun c7 => ?_) (fun c7 => ?_)
        · replace hf := z_t c7 hf
          exact hk6 _ hf _ _ hP hD hS ls (lv_sub hl [0, 1] rfl)
        · replace hf := z_f c7 hf
          refine lv_aload_n hx hb (zD_g DX6_image 14 rfl) rfl (lv_at hl 0 rfl) ?_
          refine va_get (D := D) (ci := 5) (v := .ref (q 2)) (C := RX6) (T := TX6) (N := 19) hx hb hts in6_image_6 hown hK.1 hP 0 rfl rfl 1 (by decide) (hts _ (List.mem_of_getElem? (i := 1) rfl)) (fun _ h9 => h9) rfl (zD_g DX6_image 15 rfl) ?_
          refine lv_sipush (v := (230 : Int32)) hx hb (zD_g DX6_image 16 rfl) (by decide) ?_
          refine lv_iload_n hx hb (zD_g DX6_image 17 rfl) rfl (lv_at hl 1 rfl) ?_
          refine lv_imul hx hb (zD_g DX6_image 18 rfl) ?_
          refine lv_iload_n hx hb (zD_g DX6_image 19 rfl) rfl (lv_at hl 2 rfl) ?_
          refine lv_iadd hx hb (zD_g DX6_image 20 rfl) ?_
          refine lv_aload_n hx hb (zD_g DX6_image 21 rfl) rfl (lv_at hl 0 rfl) ?_
          refine va_get (D := D) (ci := 5) (v := .ref (q 1)) (C := RX6) (T := TX6) (N := 19) hx hb hts in6_image_6 hown hK.1 hP 0 rfl rfl 0 (by decide) (hts _ (List.mem_of_getElem? (i := 2) rfl)) (fun _ h9 => h9) rfl (zD_g DX6_image 22 rfl) ?_
          refine lv_iload_n hx hb (zD_g DX6_image 23 rfl) rfl (lv_at hl 2 rfl) ?_
          obtain ⟨h8, hf⟩ := zg_s hf
          refine z_iald (k := y4.toNatClampNeg) hx hb hK.1 hP 1 0 rfl rfl h8 rfl (zD_g DX6_image 24 rfl) ?_
          refine lv_topi (fun x9 ex9 => ?_)
          replace hf := zl_s hf x9 ex9
          obtain ⟨h10, hf⟩ := zg_s hf
          refine z_iast (k := (((230 : Int32) * a_i) + y4).toNatClampNeg) (ws' := (cMod cI cZ q quiet mabove mbelow typed mat mstart mtoken mvalue many book (upd images_5 ((((230 : Int32) * a_i) + y4).toNatClampNeg) x9) mkept aside refused text items drawn row best)) hx hb hK.1 hP hD hS 2 0 rfl rfl h10 rfl rfl (zD_g DX6_image 25 rfl) (fun H locs hP hD hS => ?_)
          refine lv_iinc (v := y4 + 1) (lv' := [(2, .int (y4 + 1)), (0, .ref (q 0)), (1, .int a_i)]) (k := 2) hx hb (zD_g DX6_image 26 rfl) hl rfl rfl (by decide) rfl (fun ls hl => ?_)
          refine lv_goto (tgt := 17) hx hb (zD_g DX6_image 27 rfl) (by decide) ?_
          exact ih6 _ _ hf _ _ hP hD hS ls (lv_sub hl [1, 2, 0] rfl)
    refine hL6 _ (fun images_11 hf H locs hP hD hS ls hl => ?_) _ _ _ hf _ _ hP hD hS ls (lv_sub hl [1, 2, 0] rfl)
    refine lv_aload_n hx hb (zD_g DX6_image 28 rfl) rfl (lv_at hl 0 rfl) ?_
    refine va_get (D := D) (ci := 5) (v := .ref (q 3)) (C := RX6) (T := TX6) (N := 19) hx hb hts in6_image_6 hown hK.1 hP 0 rfl rfl 2 (by decide) (hts _ (List.mem_of_getElem? (i := 3) rfl)) (fun _ h9 => h9) rfl (zD_g DX6_image 29 rfl) ?_
    refine lv_iload_n hx hb (zD_g DX6_image 30 rfl) rfl (lv_at hl 1 rfl) ?_
    refine lv_iconst (v := (1 : Int32)) hx hb (zD_g DX6_image 31 rfl) (by decide) ?_
    obtain ⟨h12, hf⟩ := zg_s hf
    refine z_zast (k := a_i.toNatClampNeg) (ws' := (cMod cI cZ q quiet mabove mbelow typed mat mstart mtoken mvalue many book images_11 (upd mkept a_i.toNatClampNeg (vp_nar .boolean (1 : Int32))) aside refused text items drawn row best)) hx hb hK.1 hP hD hS 3 1 rfl rfl h12 rfl rfl (zD_g DX6_image 32 rfl) (fun H locs hP hD hS => ?_)
    refine lv_iconst (v := (1 : Int32)) hx hb (zD_g DX6_image 33 rfl) (by decide) ?_
    cases hf
    exact hret _ _ _ _ hP hD hS (zD_g DX6_image 34 rfl)
  · replace hf := z_t c3 hf
    refine lv_aload_n hx hb (zD_g DX6_image 6 rfl) rfl (lv_at hl 0 rfl) ?_
    obtain ⟨r13, refused_14, hc15, hf⟩ := zb2_s hf
    refine z_Vm (As := []) (rest := []) (ws' := (cMod cI cZ q quiet mabove mbelow typed mat mstart mtoken mvalue many book images mkept aside refused_14 text items drawn row best)) ⟨hx, hb, hml, hown, hts⟩ hK (c6_bad (quiet := quiet) (mabove := mabove) (mbelow := mbelow) (typed := typed) (mat := mat) (mstart := mstart) (mtoken := mtoken) (mvalue := mvalue) (many := many) (book := book) (images := images) (mkept := mkept) (aside := aside) (refused := refused) (text := text) (items := items) (drawn := drawn) (row := row) (best := best) (q := q) hc15) (cwV 0 hts gX6_image_X6_bad rfl rfl rfl hd6_bad ⟨Nat.le_of_ble_eq_true rfl, Nat.le_of_ble_eq_true rfl⟩) hP hD hS hA 11 [0, 1, 2, 3, 4, 5, 6, 7, 8, 9, 10] [] [0, 1, 2, 3, 4, 5, 6, 7, 8, 9, 10] (by decide +kernel) rfl rfl rfl rfl rfl rfl rfl hl.1 rfl rfl (Nat.le_of_ble_eq_true rfl) (zD_g DX6_image 7 rfl) ⟨Nat.zero_le _, Nat.zero_le _⟩ (fun H locs hP hD hS => ?_)
    cases hf
    exact hret _ _ _ _ hP hD hS (zD_g DX6_image 8 rfl)
theorem hd6_image : yX6_image.cls = RX6 ∧ yX6_image.cls ≠ "java/lang/invoke/MethodHandle" ∧ yX6_image.cls ≠ "java/lang/invoke/VarHandle" ∧ (parseMethodDescriptor yX6_image.desc).map (fun d => d.parameters.length) = some 1 := by decide +kernel
