abbrev dlX6_of : List (Nat × Instr × Nat) := [(0, .aload_n 0, 1), (1, .iload_n 1, 1), (2, .invokevirtual 84, 3), (5, .ifCond .eq 15, 3), (8, .iload_n 2, 1), (9, .i2l, 1), (10, .lconst 0, 1), (11, .ldc2_w 212, 3), (14, .invokestatic 56, 3), (17, .ifCond .ne 8, 3), (20, .aload_n 0, 1), (21, .invokevirtual 66, 3), (24, .ireturn, 1), (25, .aload_n 0, 1), (26, .iload_n 1, 1), (27, .invokevirtual 87, 3), (30, .istore_n 3, 1), (31, .iload_n 2, 1), (32, .iconst 4, 1), (33, .if_icmp .ne 12, 3), (36, .aload_n 0, 1), (37, .iload_n 1, 1), (38, .iload_n 3, 1), (39, .invokevirtual 200, 3), (42, .goto 26, 3), (45, .iload_n 2, 1), (46, .iconst 5, 1), (47, .if_icmp .ne 7, 3), (50, .iload_n 3, 1), (51, .goto 17, 3), (54, .aload_n 0, 1), (55, .iload_n 1, 1), (56, .iload_n 3, 1), (57, .invokevirtual 203, 3), (60, .ifCond .eq 7, 3), (63, .iconst 1, 1), (64, .goto 4, 3), (67, .iconst 0, 1), (68, .istore 4, 2), (70, .iload_n 2, 1), (71, .ifCond .ne 15, 3), (74, .aload_n 0, 1), (75, .getfield 7, 3), (78, .bipush 44, 2), (80, .iload_n 1, 1), (81, .iadd, 1), (82, .iaload, 1), (83, .goto 50, 3), (86, .iload_n 2, 1), (87, .iconst 1, 1), (88, .if_icmp .ne 15, 3), (91, .aload_n 0, 1), (92, .getfield 7, 3), (95, .bipush 68, 2), (97, .iload_n 1, 1), (98, .iadd, 1), (99, .iaload, 1), (100, .goto 33, 3), (103, .iload_n 2, 1), (104, .iconst 2, 1), (105, .if_icmp .ne 12, 3), (108, .aload_n 0, 1), (109, .iload_n 1, 1), (110, .iload_n 3, 1), (111, .invokevirtual 191, 3), (114, .goto 19, 3), (117, .iload_n 2, 1), (118, .iconst 3, 1), (119, .if_icmp .ne 12, 3), (122, .aload_n 0, 1), (123, .iload_n 1, 1), (124, .iload_n 3, 1), (125, .invokevirtual 185, 3), (128, .goto 5, 3), (131, .iload 4, 2), (133, .ireturn, 1)]
theorem DX6_of : zD cX6_of dlX6_of = true := by decide +kernel
set_option maxRecDepth 20000 in
theorem ggX6_of_X6_isGift : GoodIn wsX6_of wsX6_isGift := goodIn_r _ [7, 2, 8, 9, 6, 10, 57, 58, 59, 60, 61, 62, 63, 64, 65, 66, 67, 68, 69, 70, 71, 72, 73, 74, 75] (by decide +kernel) (by decide +kernel)
set_option maxRecDepth 20000 in
theorem gX6_of_X6_isGift : GoodIn wsX6_of (wsV RX6 84 RX6 yX6_isGift wsX6_isGift) := goodIn_app (goodIn_of _ (by decide +kernel)) ggX6_of_X6_isGift
set_option maxRecDepth 20000 in
theorem ggX6_of_X6_in : GoodIn wsX6_of wsX6_in := goodIn_r _ [10] (by decide +kernel) (by decide +kernel)
set_option maxRecDepth 20000 in
theorem gX6_of_X6_in : GoodIn wsX6_of (va_wsS RX6 56 yX6_in wsX6_in) := goodIn_app (goodIn_of _ (by decide +kernel)) ggX6_of_X6_in
set_option maxRecDepth 20000 in
theorem ggX6_of_X6_bad : GoodIn wsX6_of wsX6_bad := goodIn_r _ [14, 15, 16, 17, 6, 18, 19, 20, 57, 58, 59, 60, 61, 62, 63, 64, 65, 66, 67, 68, 69, 70, 71, 72, 73, 74, 75] (by decide +kernel) (by decide +kernel)
set_option maxRecDepth 20000 in
theorem gX6_of_X6_bad : GoodIn wsX6_of (wsV RX6 66 RX6 yX6_bad wsX6_bad) := goodIn_app (goodIn_of _ (by decide +kernel)) ggX6_of_X6_bad
set_option maxRecDepth 20000 in
theorem ggX6_of_X6_thingsIn : GoodIn wsX6_of wsX6_thingsIn := goodIn_r _ [24, 2, 57, 58, 59, 60, 61, 62, 63, 64, 65, 66, 67, 68, 69, 70, 71, 72, 73, 74, 75] (by decide +kernel) (by decide +kernel)
set_option maxRecDepth 20000 in
theorem gX6_of_X6_thingsIn : GoodIn wsX6_of (wsV RX6 87 RX6 yX6_thingsIn wsX6_thingsIn) := goodIn_app (goodIn_of _ (by decide +kernel)) ggX6_of_X6_thingsIn
set_option maxRecDepth 20000 in
theorem ggX6_of_X6_harms : GoodIn wsX6_of wsX6_harms := goodIn_r _ [28, 2, 29, 30, 31, 6, 32, 57, 58, 59, 60, 61, 62, 63, 64, 65, 66, 67, 68, 69, 70, 71, 72, 73, 74, 75] (by decide +kernel) (by decide +kernel)
set_option maxRecDepth 20000 in
theorem gX6_of_X6_harms : GoodIn wsX6_of (wsV RX6 200 RX6 yX6_harms wsX6_harms) := goodIn_app (goodIn_of _ (by decide +kernel)) ggX6_of_X6_harms
set_option maxRecDepth 20000 in
theorem ggX6_of_X6_passes : GoodIn wsX6_of wsX6_passes := goodIn_r _ [36, 2, 37, 38, 39, 6, 40, 41, 42, 43, 44, 45, 46, 47, 48, 29, 30, 31, 32, 49, 50, 51, 52, 53, 54, 55, 56, 57, 58, 59, 60, 61, 62, 63, 64, 65, 66, 67, 68, 69, 70, 71, 72, 73, 74, 75] (by decide +kernel) (by decide +kernel)
set_option maxRecDepth 20000 in
theorem gX6_of_X6_passes : GoodIn wsX6_of (wsV RX6 203 RX6 yX6_passes wsX6_passes) := goodIn_app (goodIn_of _ (by decide +kernel)) ggX6_of_X6_passes
set_option maxRecDepth 20000 in
theorem ggX6_of_X6_weighs : GoodIn wsX6_of wsX6_weighs := goodIn_r _ [56, 2, 29, 30, 31, 6, 32, 57, 58, 59, 60, 61, 62, 63, 64, 65, 66, 67, 68, 69, 70, 71, 72, 73, 74, 75] (by decide +kernel) (by decide +kernel)
set_option maxRecDepth 20000 in
theorem gX6_of_X6_weighs : GoodIn wsX6_of (wsV RX6 191 RX6 yX6_weighs wsX6_weighs) := goodIn_app (goodIn_of _ (by decide +kernel)) ggX6_of_X6_weighs
set_option maxRecDepth 20000 in
theorem ggX6_of_X6_sounds : GoodIn wsX6_of wsX6_sounds := goodIn_r _ [48, 2, 29, 30, 31, 6, 32, 57, 58, 59, 60, 61, 62, 63, 64, 65, 66, 67, 68, 69, 70, 71, 72, 73, 74, 75] (by decide +kernel) (by decide +kernel)
set_option maxRecDepth 20000 in
theorem gX6_of_X6_sounds : GoodIn wsX6_of (wsV RX6 185 RX6 yX6_sounds wsX6_sounds) := goodIn_app (goodIn_of _ (by decide +kernel)) ggX6_of_X6_sounds
theorem hd6_of : yX6_of.cls = RX6 ∧ yX6_of.cls ≠ "java/lang/invoke/MethodHandle" ∧ yX6_of.cls ≠ "java/lang/invoke/VarHandle" ∧ (parseMethodDescriptor yX6_of.desc).map (fun d => d.parameters.length) = some 2 := by decide +kernel
abbrev rm6_of : Room := { frames := 4, cells := 0, slots := 0, locals := 93 }
theorem in6_of_6 : ∀ w ∈ wsX60, w ∈ wsX6_of := fun w h => List.mem_cons_of_mem _ (List.mem_append_right _ h)
set_option maxHeartbeats 4000000 in
set_option maxRecDepth 100000 in
theorem c6_of {l : Launch} {D : va_G} {cI cZ cB : ClassId} {q : Nat → Nat} {sz : Nat} {quiet : Int32} {mabove : Int64} {mbelow : Int64} {typed : Int32} {mat : Int32} {mstart : Int32} {mtoken : Int32} {mvalue : Int32} {many : Int32} {book : Nat → Int32} {images : Nat → Int32} {mkept : Nat → Int32} {aside : Nat → Int32} {refused : Nat → Int32} {text : Nat → Int32} {items : Nat → Int32} {drawn : Nat → Int32} {row : Nat → Int32} {best : Nat → Int32} {a_g : Int32} {a_what : Int32} {r : Int32} {d_refused : Nat → Int32} (hf : f6_of quiet book refused a_g a_what = some (r, d_refused)) : Met l yX6_of wsX6_of rm6_of (zPm D cI cZ cB [.ref (q 0), .int a_g, .int a_what] sz (cMod cI cZ q quiet mabove mbelow typed mat mstart mtoken mvalue many book images mkept aside refused text items drawn row best)) (zQm D (some (.int r)) (cMod cI cZ q quiet mabove mbelow typed mat mstart mtoken mvalue many book images mkept aside d_refused text items drawn row best) (va_A (cMod cI cZ q quiet mabove mbelow typed mat mstart mtoken mvalue many book images mkept aside refused text items drawn row best) sz)) 0 0 (va_A (cMod cI cZ q quiet mabove mbelow typed mat mstart mtoken mvalue many book images mkept aside refused text items drawn row best) sz) := by
  unfold f6_of at hf
  refine z_mutI RX6 (by decide +kernel) rfl rfl (Nat.le_of_ble_eq_true rfl) ?_
  intro p e s m args below meth c Q A ls hx hb hml hown hts hK hP hD hS hA hret hl
  have hl : lv_has ls 5 [(0, .ref (q 0)), (1, .int a_g), (2, .int a_what)] := hl
  refine lv_aload_n hx hb (zD_g DX6_of 0 rfl) rfl (lv_at hl 0 rfl) ?_
  refine lv_iload_n hx hb (zD_g DX6_of 1 rfl) rfl (lv_at hl 1 rfl) ?_
  obtain ⟨r1, hc2, hf⟩ := zb1_s hf
  refine z_Vp (As := [.int a_g]) (rest := []) ⟨hx, hb, hml, hown, hts⟩ hK (c6_isGift (quiet := quiet) (mabove := mabove) (mbelow := mbelow) (typed := typed) (mat := mat) (mstart := mstart) (mtoken := mtoken) (mvalue := mvalue) (many := many) (book := book) (images := images) (mkept := mkept) (aside := aside) (refused := refused) (text := text) (items := items) (drawn := drawn) (row := row) (best := best) (q := q) hc2) (cwV 1 hts gX6_of_X6_isGift rfl rfl rfl hd6_isGift ⟨Nat.le_of_ble_eq_true rfl, Nat.le_of_ble_eq_true rfl⟩) hP rfl rfl rfl rfl hl.1 rfl rfl (Nat.le_of_ble_eq_true rfl) (zD_g DX6_of 2 rfl) ⟨Nat.zero_le _, Nat.zero_le _⟩ ?_
  refine lv_if_eq (tgt := 20) hx hb (zD_g DX6_of 3 rfl) (by decide) (fun c3 => ?_) (fun c3 => ?_)
  · replace hf := z_t c3 hf
    refine lv_aload_n hx hb (zD_g DX6_of 10 rfl) rfl (lv_at hl 0 rfl) ?_
    obtain ⟨r4, refused_5, hc6, hf⟩ := zb2_s hf
    refine z_Vm (As := []) (rest := []) (ws' := (cMod cI cZ q quiet mabove mbelow typed mat mstart mtoken mvalue many book images mkept aside refused_5 text items drawn row best)) ⟨hx, hb, hml, hown, hts⟩ hK (c6_bad (quiet := quiet) (mabove := mabove) (mbelow := mbelow) (typed := typed) (mat := mat) (mstart := mstart) (mtoken := mtoken) (mvalue := mvalue) (many := many) (book := book) (images := images) (mkept := mkept) (aside := aside) (refused := refused) (text := text) (items := items) (drawn := drawn) (row := row) (best := best) (q := q) hc6) (cwV 0 hts gX6_of_X6_bad rfl rfl rfl hd6_bad ⟨Nat.le_of_ble_eq_true rfl, Nat.le_of_ble_eq_true rfl⟩) hP hD hS hA 11 [0, 1, 2, 3, 4, 5, 6, 7, 8, 9, 10] [] [0, 1, 2, 3, 4, 5, 6, 7, 8, 9, 10] (by decide +kernel) rfl rfl rfl rfl rfl rfl rfl hl.1 rfl rfl (Nat.le_of_ble_eq_true rfl) (zD_g DX6_of 11 rfl) ⟨Nat.zero_le _, Nat.zero_le _⟩ (fun H locs hP hD hS => ?_)
    cases hf
    exact hret _ _ _ _ hP hD hS (zD_g DX6_of 12 rfl)
  · replace hf := z_f c3 hf
    refine lv_iload_n hx hb (zD_g DX6_of 4 rfl) rfl (lv_at hl 2 rfl) ?_
    refine lv_i2l (v := (a_what).toInt64) hx hb (zD_g DX6_of 5 rfl) rfl ?_
    refine lv_lconst (v := (0 : Int64)) hx hb (zD_g DX6_of 6 rfl) (by decide) ?_
    refine lv_ldc2 (v := (6 : Int64)) hx hb hown (hts _ (List.mem_of_getElem? (i := 1) rfl)) (zD_g DX6_of 7 rfl) ?_
    obtain ⟨r7, hc8, hf⟩ := zb1_s hf
    refine z_Sp (As := [.long ((a_what).toInt64), .long (0 : Int64), .long (6 : Int64)]) (rest := []) ⟨hx, hb, hml, hown, hts⟩ hK (c6_in  hc8) (va_cwS 3 hts gX6_of_X6_in rfl rfl rfl hd6_in ⟨Nat.le_of_ble_eq_true rfl, Nat.le_of_ble_eq_true rfl⟩) (hP.sub [] rfl) rfl hl.1 rfl rfl (Nat.le_of_ble_eq_true rfl) (zD_g DX6_of 8 rfl) ⟨Nat.zero_le _, Nat.zero_le _⟩ ?_
    refine lv_if_ne (tgt := 25) hx hb (zD_g DX6_of 9 rfl) (by decide) (fun c9 => ?_) (fun c9 => ?_)
    · replace hf := z_f c9 hf
      refine lv_aload_n hx hb (zD_g DX6_of 13 rfl) rfl (lv_at hl 0 rfl) ?_
      refine lv_iload_n hx hb (zD_g DX6_of 14 rfl) rfl (lv_at hl 1 rfl) ?_
      obtain ⟨r10, hc11, hf⟩ := zb1_s hf
      refine z_Vp (As := [.int a_g]) (rest := []) ⟨hx, hb, hml, hown, hts⟩ hK (c6_thingsIn (quiet := quiet) (mabove := mabove) (mbelow := mbelow) (typed := typed) (mat := mat) (mstart := mstart) (mtoken := mtoken) (mvalue := mvalue) (many := many) (book := book) (images := images) (mkept := mkept) (aside := aside) (refused := refused) (text := text) (items := items) (drawn := drawn) (row := row) (best := best) (q := q) hc11) (cwV 1 hts gX6_of_X6_thingsIn rfl rfl rfl hd6_thingsIn ⟨Nat.le_of_ble_eq_true rfl, Nat.le_of_ble_eq_true rfl⟩) hP rfl rfl rfl rfl hl.1 rfl rfl (Nat.le_of_ble_eq_true rfl) (zD_g DX6_of 15 rfl) ⟨Nat.zero_le _, Nat.zero_le _⟩ ?_
      refine lv_istore_n (lv' := [(3, .int r10), (0, .ref (q 0)), (1, .int a_g), (2, .int a_what)]) hx hb (zD_g DX6_of 16 rfl) rfl hl (by decide) rfl (fun ls hl => ?_)
      refine lv_iload_n hx hb (zD_g DX6_of 17 rfl) rfl (lv_at hl 3 rfl) ?_
      refine lv_iconst (v := (4 : Int32)) hx hb (zD_g DX6_of 18 rfl) (by decide) ?_
      obtain ⟨v13, hr26, hf⟩ := zb1_s hf
      have hJ26 : ∀ (H : Heap) (locs : List Loc), va_P D vwCl (cMod cI cZ q quiet mabove mbelow typed mat mstart mtoken mvalue many book images mkept aside refused text items drawn row best) H → va_D A (cMod cI cZ q quiet mabove mbelow typed mat mstart mtoken mvalue many book images mkept aside refused text items drawn row best) → va_S A s.heap H locs → ∀ (ls : Array Slot), lv_has ls 5 [(0, .ref (q 0)), (1, .int a_g), (2, .int a_what), (3, .int r10)] → W p l e rm6_of s m args below meth c H locs 0 0 Q (F0 m 68 ls [.int v13]) := by
        intro H locs hP hD hS ls hl
        refine lv_istore (lv' := [(4, .int v13), (0, .ref (q 0)), (1, .int a_g), (2, .int a_what), (3, .int r10)]) hx hb (zD_g DX6_of 38 rfl) hl (by decide) rfl (fun ls hl => ?_)
        refine lv_iload_n hx hb (zD_g DX6_of 39 rfl) rfl (lv_at hl 3 rfl) ?_
        refine lv_if_ne (tgt := 86) hx hb (zD_g DX6_of 40 rfl) (by decide) (fun c14 => ?_) (fun c14 => ?_)
        · replace hf := z_f c14 hf
          refine lv_iload_n hx hb (zD_g DX6_of 48 rfl) rfl (lv_at hl 3 rfl) ?_
          refine lv_iconst (v := (1 : Int32)) hx hb (zD_g DX6_of 49 rfl) (by decide) ?_
          refine lv_icmp_ne (tgt := 103) hx hb (zD_g DX6_of 50 rfl) (by decide) (fun c15 => ?_) (fun c15 => ?_)
          · replace hf := z_f c15 hf
            refine lv_iload_n hx hb (zD_g DX6_of 58 rfl) rfl (lv_at hl 3 rfl) ?_
            refine lv_iconst (v := (2 : Int32)) hx hb (zD_g DX6_of 59 rfl) (by decide) ?_
            refine lv_icmp_ne (tgt := 117) hx hb (zD_g DX6_of 60 rfl) (by decide) (fun c16 => ?_) (fun c16 => ?_)
            · replace hf := z_f c16 hf
              refine lv_iload_n hx hb (zD_g DX6_of 66 rfl) rfl (lv_at hl 3 rfl) ?_
              refine lv_iconst (v := (3 : Int32)) hx hb (zD_g DX6_of 67 rfl) (by decide) ?_
              refine lv_icmp_ne (tgt := 131) hx hb (zD_g DX6_of 68 rfl) (by decide) (fun c17 => ?_) (fun c17 => ?_)
              · replace hf := z_f c17 hf
                refine lv_iload hx hb (zD_g DX6_of 74 rfl) (lv_at hl 0 rfl) ?_
                cases hf
                exact hret _ _ _ _ hP hD hS (zD_g DX6_of 75 rfl)
              · replace hf := z_t c17 hf
                refine lv_aload_n hx hb (zD_g DX6_of 69 rfl) rfl (lv_at hl 1 rfl) ?_
                refine lv_iload_n hx hb (zD_g DX6_of 70 rfl) rfl (lv_at hl 2 rfl) ?_
                refine lv_iload_n hx hb (zD_g DX6_of 71 rfl) rfl (lv_at hl 4 rfl) ?_
                obtain ⟨r18, hc19, hf⟩ := zb1_s hf
                refine z_Vp (As := [.int a_g, .int r10]) (rest := []) ⟨hx, hb, hml, hown, hts⟩ hK (c6_sounds (quiet := quiet) (mabove := mabove) (mbelow := mbelow) (typed := typed) (mat := mat) (mstart := mstart) (mtoken := mtoken) (mvalue := mvalue) (many := many) (book := book) (images := images) (mkept := mkept) (aside := aside) (refused := refused) (text := text) (items := items) (drawn := drawn) (row := row) (best := best) (q := q) hc19) (cwV 2 hts gX6_of_X6_sounds rfl rfl rfl hd6_sounds ⟨Nat.le_of_ble_eq_true rfl, Nat.le_of_ble_eq_true rfl⟩) hP rfl rfl rfl rfl hl.1 rfl rfl (Nat.le_of_ble_eq_true rfl) (zD_g DX6_of 72 rfl) ⟨Nat.zero_le _, Nat.zero_le _⟩ ?_
                refine lv_goto (tgt := 133) hx hb (zD_g DX6_of 73 rfl) (by decide) ?_
                cases hf
                exact hret _ _ _ _ hP hD hS (zD_g DX6_of 75 rfl)
            · replace hf := z_t c16 hf
              refine lv_aload_n hx hb (zD_g DX6_of 61 rfl) rfl (lv_at hl 1 rfl) ?_
              refine lv_iload_n hx hb (zD_g DX6_of 62 rfl) rfl (lv_at hl 2 rfl) ?_
              refine lv_iload_n hx hb (zD_g DX6_of 63 rfl) rfl (lv_at hl 4 rfl) ?_
              obtain ⟨r20, hc21, hf⟩ := zb1_s hf
              refine z_Vp (As := [.int a_g, .int r10]) (rest := []) ⟨hx, hb, hml, hown, hts⟩ hK (c6_weighs (quiet := quiet) (mabove := mabove) (mbelow := mbelow) (typed := typed) (mat := mat) (mstart := mstart) (mtoken := mtoken) (mvalue := mvalue) (many := many) (book := book) (images := images) (mkept := mkept) (aside := aside) (refused := refused) (text := text) (items := items) (drawn := drawn) (row := row) (best := best) (q := q) hc21) (cwV 2 hts gX6_of_X6_weighs rfl rfl rfl hd6_weighs ⟨Nat.le_of_ble_eq_true rfl, Nat.le_of_ble_eq_true rfl⟩) hP rfl rfl rfl rfl hl.1 rfl rfl (Nat.le_of_ble_eq_true rfl) (zD_g DX6_of 64 rfl) ⟨Nat.zero_le _, Nat.zero_le _⟩ ?_
              refine lv_goto (tgt := 133) hx hb (zD_g DX6_of 65 rfl) (by decide) ?_
              cases hf
              exact hret _ _ _ _ hP hD hS (zD_g DX6_of 75 rfl)
          · replace hf := z_t c15 hf
            refine lv_aload_n hx hb (zD_g DX6_of 51 rfl) rfl (lv_at hl 1 rfl) ?_
            refine va_get (D := D) (ci := 5) (v := .ref (q 1)) (C := RX6) (T := TX6) (N := 19) hx hb hts in6_of_6 hown hK.1 hP 0 rfl rfl 0 (by decide) (hts _ (List.mem_of_getElem? (i := 2) rfl)) (fun _ h9 => h9) rfl (zD_g DX6_of 52 rfl) ?_
            refine lv_bipush (v := (68 : Int32)) hx hb (zD_g DX6_of 53 rfl) (by decide) ?_
            refine lv_iload_n hx hb (zD_g DX6_of 54 rfl) rfl (lv_at hl 2 rfl) ?_
            refine lv_iadd hx hb (zD_g DX6_of 55 rfl) ?_
            obtain ⟨h22, hf⟩ := zg_s hf
            refine z_iald (k := ((68 : Int32) + a_g).toNatClampNeg) hx hb hK.1 hP 1 0 rfl rfl h22 rfl (zD_g DX6_of 56 rfl) ?_
            refine lv_goto (tgt := 133) hx hb (zD_g DX6_of 57 rfl) (by decide) ?_
            refine lv_topi (fun x23 ex23 => ?_)
            replace hf := zl_s hf x23 ex23
            cases hf
            exact hret _ _ _ _ hP hD hS (zD_g DX6_of 75 rfl)
        · replace hf := z_t c14 hf
          refine lv_aload_n hx hb (zD_g DX6_of 41 rfl) rfl (lv_at hl 1 rfl) ?_
          refine va_get (D := D) (ci := 5) (v := .ref (q 1)) (C := RX6) (T := TX6) (N := 19) hx hb hts in6_of_6 hown hK.1 hP 0 rfl rfl 0 (by decide) (hts _ (List.mem_of_getElem? (i := 2) rfl)) (fun _ h9 => h9) rfl (zD_g DX6_of 42 rfl) ?_
          refine lv_bipush (v := (44 : Int32)) hx hb (zD_g DX6_of 43 rfl) (by decide) ?_
          refine lv_iload_n hx hb (zD_g DX6_of 44 rfl) rfl (lv_at hl 2 rfl) ?_
          refine lv_iadd hx hb (zD_g DX6_of 45 rfl) ?_
          obtain ⟨h24, hf⟩ := zg_s hf
          refine z_iald (k := ((44 : Int32) + a_g).toNatClampNeg) hx hb hK.1 hP 1 0 rfl rfl h24 rfl (zD_g DX6_of 46 rfl) ?_
          refine lv_goto (tgt := 133) hx hb (zD_g DX6_of 47 rfl) (by decide) ?_
          refine lv_topi (fun x25 ex25 => ?_)
          replace hf := zl_s hf x25 ex25
          cases hf
          exact hret _ _ _ _ hP hD hS (zD_g DX6_of 75 rfl)
      clear hf
      have hf := hr26
      refine lv_icmp_ne (tgt := 45) hx hb (zD_g DX6_of 19 rfl) (by decide) (fun c12 => ?_) (fun c12 => ?_)
      · replace hf := z_f c12 hf
        refine lv_iload_n hx hb (zD_g DX6_of 25 rfl) rfl (lv_at hl 3 rfl) ?_
        refine lv_iconst (v := (5 : Int32)) hx hb (zD_g DX6_of 26 rfl) (by decide) ?_
        refine lv_icmp_ne (tgt := 54) hx hb (zD_g DX6_of 27 rfl) (by decide) (fun c27 => ?_) (fun c27 => ?_)
        · replace hf := z_f c27 hf
          refine lv_aload_n hx hb (zD_g DX6_of 30 rfl) rfl (lv_at hl 1 rfl) ?_
          refine lv_iload_n hx hb (zD_g DX6_of 31 rfl) rfl (lv_at hl 2 rfl) ?_
          refine lv_iload_n hx hb (zD_g DX6_of 32 rfl) rfl (lv_at hl 0 rfl) ?_
          obtain ⟨r28, hc29, hf⟩ := zb1_s hf
          refine z_Vp (As := [.int a_g, .int r10]) (rest := []) ⟨hx, hb, hml, hown, hts⟩ hK (c6_passes (quiet := quiet) (mabove := mabove) (mbelow := mbelow) (typed := typed) (mat := mat) (mstart := mstart) (mtoken := mtoken) (mvalue := mvalue) (many := many) (book := book) (images := images) (mkept := mkept) (aside := aside) (refused := refused) (text := text) (items := items) (drawn := drawn) (row := row) (best := best) (q := q) hc29) (cwV 2 hts gX6_of_X6_passes rfl rfl rfl hd6_passes ⟨Nat.le_of_ble_eq_true rfl, Nat.le_of_ble_eq_true rfl⟩) hP rfl rfl rfl rfl hl.1 rfl rfl (Nat.le_of_ble_eq_true rfl) (zD_g DX6_of 33 rfl) ⟨Nat.zero_le _, Nat.zero_le _⟩ ?_
          refine lv_if_eq (tgt := 67) hx hb (zD_g DX6_of 34 rfl) (by decide) (fun c30 => ?_) (fun c30 => ?_)
          · replace hf := z_t c30 hf
            refine lv_iconst (v := (0 : Int32)) hx hb (zD_g DX6_of 37 rfl) (by decide) ?_
            cases hf
            exact hJ26 _ _ hP hD hS ls (lv_sub hl [1, 2, 3, 0] rfl)
          · replace hf := z_f c30 hf
            refine lv_iconst (v := (1 : Int32)) hx hb (zD_g DX6_of 35 rfl) (by decide) ?_
            refine lv_goto (tgt := 68) hx hb (zD_g DX6_of 36 rfl) (by decide) ?_
            cases hf
            exact hJ26 _ _ hP hD hS ls (lv_sub hl [1, 2, 3, 0] rfl)
        · replace hf := z_t c27 hf
          refine lv_iload_n hx hb (zD_g DX6_of 28 rfl) rfl (lv_at hl 0 rfl) ?_
          refine lv_goto (tgt := 68) hx hb (zD_g DX6_of 29 rfl) (by decide) ?_
          cases hf
          exact hJ26 _ _ hP hD hS ls (lv_sub hl [1, 2, 3, 0] rfl)
      · replace hf := z_t c12 hf
        refine lv_aload_n hx hb (zD_g DX6_of 20 rfl) rfl (lv_at hl 1 rfl) ?_
        refine lv_iload_n hx hb (zD_g DX6_of 21 rfl) rfl (lv_at hl 2 rfl) ?_
        refine lv_iload_n hx hb (zD_g DX6_of 22 rfl) rfl (lv_at hl 0 rfl) ?_
        obtain ⟨r31, hc32, hf⟩ := zb1_s hf
        refine z_Vp (As := [.int a_g, .int r10]) (rest := []) ⟨hx, hb, hml, hown, hts⟩ hK (c6_harms (quiet := quiet) (mabove := mabove) (mbelow := mbelow) (typed := typed) (mat := mat) (mstart := mstart) (mtoken := mtoken) (mvalue := mvalue) (many := many) (book := book) (images := images) (mkept := mkept) (aside := aside) (refused := refused) (text := text) (items := items) (drawn := drawn) (row := row) (best := best) (q := q) hc32) (cwV 2 hts gX6_of_X6_harms rfl rfl rfl hd6_harms ⟨Nat.le_of_ble_eq_true rfl, Nat.le_of_ble_eq_true rfl⟩) hP rfl rfl rfl rfl hl.1 rfl rfl (Nat.le_of_ble_eq_true rfl) (zD_g DX6_of 23 rfl) ⟨Nat.zero_le _, Nat.zero_le _⟩ ?_
        refine lv_goto (tgt := 68) hx hb (zD_g DX6_of 24 rfl) (by decide) ?_
        cases hf
        exact hJ26 _ _ hP hD hS ls (lv_sub hl [1, 2, 3, 0] rfl)
    · replace hf := z_t c9 hf
      refine lv_aload_n hx hb (zD_g DX6_of 10 rfl) rfl (lv_at hl 0 rfl) ?_
      obtain ⟨r33, refused_34, hc35, hf⟩ := zb2_s hf
      refine z_Vm (As := []) (rest := []) (ws' := (cMod cI cZ q quiet mabove mbelow typed mat mstart mtoken mvalue many book images mkept aside refused_34 text items drawn row best)) ⟨hx, hb, hml, hown, hts⟩ hK (c6_bad (quiet := quiet) (mabove := mabove) (mbelow := mbelow) (typed := typed) (mat := mat) (mstart := mstart) (mtoken := mtoken) (mvalue := mvalue) (many := many) (book := book) (images := images) (mkept := mkept) (aside := aside) (refused := refused) (text := text) (items := items) (drawn := drawn) (row := row) (best := best) (q := q) hc35) (cwV 0 hts gX6_of_X6_bad rfl rfl rfl hd6_bad ⟨Nat.le_of_ble_eq_true rfl, Nat.le_of_ble_eq_true rfl⟩) hP hD hS hA 11 [0, 1, 2, 3, 4, 5, 6, 7, 8, 9, 10] [] [0, 1, 2, 3, 4, 5, 6, 7, 8, 9, 10] (by decide +kernel) rfl rfl rfl rfl rfl rfl rfl hl.1 rfl rfl (Nat.le_of_ble_eq_true rfl) (zD_g DX6_of 11 rfl) ⟨Nat.zero_le _, Nat.zero_le _⟩ (fun H locs hP hD hS => ?_)
      cases hf
      exact hret _ _ _ _ hP hD hS (zD_g DX6_of 12 rfl)
abbrev dlX6_giftsOf : List (Nat × Instr × Nat) := [(0, .iconst 0, 1), (1, .istore_n 2, 1), (2, .iconst 0, 1), (3, .istore_n 3, 1), (4, .iload_n 3, 1), (5, .aload_n 0, 1), (6, .getfield 7, 3), (9, .iconst 1, 1), (10, .iaload, 1), (11, .if_icmp .ge 32, 3), (14, .iload_n 2, 1), (15, .aload_n 0, 1), (16, .getfield 7, 3), (19, .bipush 68, 2), (21, .iload_n 3, 1), (22, .iadd, 1), (23, .iaload, 1), (24, .iload_n 1, 1), (25, .if_icmp .ne 9, 3), (28, .iconst 1, 1), (29, .iload_n 3, 1), (30, .ishl, 1), (31, .goto 4, 3), (34, .iconst 0, 1), (35, .ior, 1), (36, .istore_n 2, 1), (37, .iinc 3 1, 3), (40, .goto (-36), 3), (43, .iload_n 2, 1), (44, .ireturn, 1)]
theorem DX6_giftsOf : zD cX6_giftsOf dlX6_giftsOf = true := by decide +kernel
theorem hd6_giftsOf : yX6_giftsOf.cls = RX6 ∧ yX6_giftsOf.cls ≠ "java/lang/invoke/MethodHandle" ∧ yX6_giftsOf.cls ≠ "java/lang/invoke/VarHandle" ∧ (parseMethodDescriptor yX6_giftsOf.desc).map (fun d => d.parameters.length) = some 1 := by decide +kernel
abbrev rm6_giftsOf : Room := { frames := 0, cells := 0, slots := 0, locals := 0 }
theorem in6_giftsOf_6 : ∀ w ∈ wsX60, w ∈ wsX6_giftsOf := fun w h => List.mem_cons_of_mem _ (List.mem_append_right _ h)
set_option maxHeartbeats 4000000 in
set_option maxRecDepth 100000 in
theorem c6_giftsOf {l : Launch} {D : va_G} {cI cZ cB : ClassId} {q : Nat → Nat} {quiet : Int32} {mabove : Int64} {mbelow : Int64} {typed : Int32} {mat : Int32} {mstart : Int32} {mtoken : Int32} {mvalue : Int32} {many : Int32} {book : Nat → Int32} {images : Nat → Int32} {mkept : Nat → Int32} {aside : Nat → Int32} {refused : Nat → Int32} {text : Nat → Int32} {items : Nat → Int32} {drawn : Nat → Int32} {row : Nat → Int32} {best : Nat → Int32} {a_c : Int32} {r : Int32}  (hf : f6_giftsOf book a_c = some r) : Met l yX6_giftsOf wsX6_giftsOf rm6_giftsOf (zPp D cI cZ cB [.ref (q 0), .int a_c] (cMod cI cZ q quiet mabove mbelow typed mat mstart mtoken mvalue many book images mkept aside refused text items drawn row best)) (zQp (some (.int r))) 0 0 (fun _ => False) := by
  unfold f6_giftsOf at hf
  refine z_pureI RX6 (by decide +kernel) rfl rfl (Nat.le_of_ble_eq_true rfl) ?_
  intro p e s m args below meth c Q ls hx hb hml hown hts hK hP hret hl
  have hl : lv_has ls 4 [(0, .ref (q 0)), (1, .int a_c)] := hl
  refine lv_iconst (v := (0 : Int32)) hx hb (zD_g DX6_giftsOf 0 rfl) (by decide) ?_
  refine lv_istore_n (lv' := [(2, .int (0 : Int32)), (0, .ref (q 0)), (1, .int a_c)]) hx hb (zD_g DX6_giftsOf 1 rfl) rfl hl (by decide) rfl (fun ls hl => ?_)
  refine lv_iconst (v := (0 : Int32)) hx hb (zD_g DX6_giftsOf 2 rfl) (by decide) ?_
  refine lv_istore_n (lv' := [(3, .int (0 : Int32)), (2, .int (0 : Int32)), (0, .ref (q 0)), (1, .int a_c)]) hx hb (zD_g DX6_giftsOf 3 rfl) rfl hl (by decide) rfl (fun ls hl => ?_)
  have hL3 : ∀ (k3 : Int32 → Option (Int32)) (hk3 : ∀ (y9 : Int32), k3 y9 = some r → ∀ (ls : Array Slot), lv_has ls 4 [(2, .int y9)] → W p l e rm6_giftsOf s m args below meth c s.heap [] 0 0 Q (F0 m 43 ls [])) (n3 : Nat) (y1 : Int32) (y2 : Int32), L6_giftsOf_4 k3 book a_c n3 y1 y2 = some r → ∀ (ls : Array Slot), lv_has ls 4 [(0, .ref (q 0)), (1, .int a_c), (2, .int y1), (3, .int y2)] → W p l e rm6_giftsOf s m args below meth c s.heap [] 0 0 Q (F0 m 4 ls []) := by
    intro k3 hk3 n3
    induction n3 with
    | zero =>
      intro y1 y2 hf
      cases hf
    | succ n3 ih3 =>
      intro y1 y2 hf ls hl
      rw [L6_giftsOf_4] at hf
      refine lv_iload_n hx hb (zD_g DX6_giftsOf 4 rfl) rfl (lv_at hl 3 rfl) ?_
      refine lv_aload_n hx hb (zD_g DX6_giftsOf 5 rfl) rfl (lv_at hl 0 rfl) ?_
      refine va_get (D := D) (ci := 5) (v := .ref (q 1)) (C := RX6) (T := TX6) (N := 19) hx hb hts in6_giftsOf_6 hown hK.1 hP 0 rfl rfl 0 (by decide) (hts _ (List.mem_of_getElem? (i := 1) rfl)) (fun _ h9 => h9) rfl (zD_g DX6_giftsOf 6 rfl) ?_
      refine lv_iconst (v := (1 : Int32)) hx hb (zD_g DX6_giftsOf 7 rfl) (by decide) ?_
      refine z_iald (k := 1) hx hb hK.1 hP 1 0 rfl rfl (by unfold vp_in; decide) rfl (zD_g DX6_giftsOf 8 rfl) ?_
      refine lv_icmp_ge (tgt := 43) hx hb (zD_g DX6_giftsOf 9 rfl) (by decide) (fun c4 => ?_) (fun c4 => ?_)
      · replace hf := z_t c4 hf
        exact hk3 _ hf ls (lv_sub hl [2] rfl)
      · replace hf := z_f c4 hf
        refine lv_iload_n hx hb (zD_g DX6_giftsOf 10 rfl) rfl (lv_at hl 2 rfl) ?_
        refine lv_aload_n hx hb (zD_g DX6_giftsOf 11 rfl) rfl (lv_at hl 0 rfl) ?_
        refine va_get (D := D) (ci := 5) (v := .ref (q 1)) (C := RX6) (T := TX6) (N := 19) hx hb hts in6_giftsOf_6 hown hK.1 hP 0 rfl rfl 0 (by decide) (hts _ (List.mem_of_getElem? (i := 1) rfl)) (fun _ h9 => h9) rfl (zD_g DX6_giftsOf 12 rfl) ?_
        refine lv_bipush (v := (68 : Int32)) hx hb (zD_g DX6_giftsOf 13 rfl) (by decide) ?_
        refine lv_iload_n hx hb (zD_g DX6_giftsOf 14 rfl) rfl (lv_at hl 3 rfl) ?_
        refine lv_iadd hx hb (zD_g DX6_giftsOf 15 rfl) ?_
        obtain ⟨h5, hf⟩ := zg_s hf
        refine z_iald (k := ((68 : Int32) + y2).toNatClampNeg) hx hb hK.1 hP 1 0 rfl rfl h5 rfl (zD_g DX6_giftsOf 16 rfl) ?_
        refine lv_iload_n hx hb (zD_g DX6_giftsOf 17 rfl) rfl (lv_at hl 1 rfl) ?_
        refine lv_icmp_ne (tgt := 34) hx hb (zD_g DX6_giftsOf 18 rfl) (by decide) (fun c6 => ?_) (fun c6 => ?_)
        · replace hf := z_f c6 hf
          refine lv_iconst (v := (0 : Int32)) hx hb (zD_g DX6_giftsOf 23 rfl) (by decide) ?_
          refine lv_ior hx hb (zD_g DX6_giftsOf 24 rfl) ?_
          refine lv_topi (fun x7 ex7 => ?_)
          replace hf := zl_s hf x7 ex7
          refine lv_istore_n (lv' := [(2, .int x7), (0, .ref (q 0)), (1, .int a_c), (3, .int y2)]) hx hb (zD_g DX6_giftsOf 25 rfl) rfl hl (by decide) rfl (fun ls hl => ?_)
          refine lv_iinc (v := y2 + 1) (lv' := [(3, .int (y2 + 1)), (2, .int x7), (0, .ref (q 0)), (1, .int a_c)]) (k := 3) hx hb (zD_g DX6_giftsOf 26 rfl) hl rfl rfl (by decide) rfl (fun ls hl => ?_)
          refine lv_goto (tgt := 4) hx hb (zD_g DX6_giftsOf 27 rfl) (by decide) ?_
          exact ih3 _ _ hf ls (lv_sub hl [2, 3, 1, 0] rfl)
        · replace hf := z_t c6 hf
          refine lv_iconst (v := (1 : Int32)) hx hb (zD_g DX6_giftsOf 19 rfl) (by decide) ?_
          refine lv_iload_n hx hb (zD_g DX6_giftsOf 20 rfl) rfl (lv_at hl 3 rfl) ?_
          refine lv_ishl hx hb (zD_g DX6_giftsOf 21 rfl) ?_
          refine lv_goto (tgt := 35) hx hb (zD_g DX6_giftsOf 22 rfl) (by decide) ?_
          refine lv_ior hx hb (zD_g DX6_giftsOf 24 rfl) ?_
          refine lv_topi (fun x8 ex8 => ?_)
          replace hf := zl_s hf x8 ex8
          refine lv_istore_n (lv' := [(2, .int x8), (0, .ref (q 0)), (1, .int a_c), (3, .int y2)]) hx hb (zD_g DX6_giftsOf 25 rfl) rfl hl (by decide) rfl (fun ls hl => ?_)
          refine lv_iinc (v := y2 + 1) (lv' := [(3, .int (y2 + 1)), (2, .int x8), (0, .ref (q 0)), (1, .int a_c)]) (k := 3) hx hb (zD_g DX6_giftsOf 26 rfl) hl rfl rfl (by decide) rfl (fun ls hl => ?_)
          refine lv_goto (tgt := 4) hx hb (zD_g DX6_giftsOf 27 rfl) (by decide) ?_
          exact ih3 _ _ hf ls (lv_sub hl [2, 3, 1, 0] rfl)
  refine hL3 _ (fun y9 hf ls hl => ?_) _ _ _ hf ls (lv_sub hl [2, 3, 1, 0] rfl)
  refine lv_iload_n hx hb (zD_g DX6_giftsOf 28 rfl) rfl (lv_at hl 0 rfl) ?_
  cases hf
  exact hret _ _ (zD_g DX6_giftsOf 29 rfl)
abbrev dlX6_about : List (Nat × Instr × Nat) := [(0, .iload_n 1, 1), (1, .invokestatic 73, 3), (4, .ifCond .eq 15, 3), (7, .iload_n 2, 1), (8, .i2l, 1), (9, .lconst 0, 1), (10, .ldc2_w 214, 3), (13, .invokestatic 56, 3), (16, .ifCond .ne 8, 3), (19, .aload_n 0, 1), (20, .invokevirtual 66, 3), (23, .ireturn, 1), (24, .iload_n 2, 1), (25, .iconst 3, 1), (26, .if_icmp .ge 19, 3), (29, .aload_n 0, 1), (30, .getfield 7, 3), (33, .bipush 74, 2), (35, .iconst 3, 1), (36, .iload_n 1, 1), (37, .imul, 1), (38, .iadd, 1), (39, .iload_n 2, 1), (40, .iadd, 1), (41, .iaload, 1), (42, .goto 25, 3), (45, .iload_n 2, 1), (46, .iconst 3, 1), (47, .if_icmp .ne 15, 3), (50, .aload_n 0, 1), (51, .getfield 7, 3), (54, .bipush 92, 2), (56, .iload_n 1, 1), (57, .iadd, 1), (58, .iaload, 1), (59, .goto 8, 3), (62, .aload_n 0, 1), (63, .iload_n 1, 1), (64, .invokevirtual 216, 3), (67, .ireturn, 1)]
theorem DX6_about : zD cX6_about dlX6_about = true := by decide +kernel
set_option maxRecDepth 20000 in
theorem ggX6_about_X6_isCity : GoodIn wsX6_about wsX6_isCity := goodIn_r _ [6, 7, 8, 5, 9] (by decide +kernel) (by decide +kernel)
set_option maxRecDepth 20000 in
theorem gX6_about_X6_isCity : GoodIn wsX6_about (va_wsS RX6 73 yX6_isCity wsX6_isCity) := goodIn_app (goodIn_of _ (by decide +kernel)) ggX6_about_X6_isCity
set_option maxRecDepth 20000 in
theorem ggX6_about_X6_in : GoodIn wsX6_about wsX6_in := goodIn_r _ [9] (by decide +kernel) (by decide +kernel)
set_option maxRecDepth 20000 in
theorem gX6_about_X6_in : GoodIn wsX6_about (va_wsS RX6 56 yX6_in wsX6_in) := goodIn_app (goodIn_of _ (by decide +kernel)) ggX6_about_X6_in
set_option maxRecDepth 20000 in
theorem ggX6_about_X6_bad : GoodIn wsX6_about wsX6_bad := goodIn_r _ [13, 14, 15, 16, 5, 17, 18, 19, 24, 25, 26, 27, 28, 29, 30, 31, 32, 33, 34, 35, 36, 37, 38, 39, 40, 41, 42] (by decide +kernel) (by decide +kernel)
set_option maxRecDepth 20000 in
theorem gX6_about_X6_bad : GoodIn wsX6_about (wsV RX6 66 RX6 yX6_bad wsX6_bad) := goodIn_app (goodIn_of _ (by decide +kernel)) ggX6_about_X6_bad
set_option maxRecDepth 20000 in
theorem ggX6_about_X6_giftsOf : GoodIn wsX6_about wsX6_giftsOf := goodIn_r _ [23, 2, 24, 25, 26, 27, 28, 29, 30, 31, 32, 33, 34, 35, 36, 37, 38, 39, 40, 41, 42] (by decide +kernel) (by decide +kernel)
set_option maxRecDepth 20000 in
theorem gX6_about_X6_giftsOf : GoodIn wsX6_about (wsV RX6 216 RX6 yX6_giftsOf wsX6_giftsOf) := goodIn_app (goodIn_of _ (by decide +kernel)) ggX6_about_X6_giftsOf
theorem hd6_about : yX6_about.cls = RX6 ∧ yX6_about.cls ≠ "java/lang/invoke/MethodHandle" ∧ yX6_about.cls ≠ "java/lang/invoke/VarHandle" ∧ (parseMethodDescriptor yX6_about.desc).map (fun d => d.parameters.length) = some 2 := by decide +kernel
abbrev rm6_about : Room := { frames := 2, cells := 0, slots := 0, locals := 45 }
theorem in6_about_6 : ∀ w ∈ wsX60, w ∈ wsX6_about := fun w h => List.mem_cons_of_mem _ (List.mem_append_right _ h)
set_option maxHeartbeats 4000000 in
set_option maxRecDepth 100000 in
theorem c6_about {l : Launch} {D : va_G} {cI cZ cB : ClassId} {q : Nat → Nat} {sz : Nat} {quiet : Int32} {mabove : Int64} {mbelow : Int64} {typed : Int32} {mat : Int32} {mstart : Int32} {mtoken : Int32} {mvalue : Int32} {many : Int32} {book : Nat → Int32} {images : Nat → Int32} {mkept : Nat → Int32} {aside : Nat → Int32} {refused : Nat → Int32} {text : Nat → Int32} {items : Nat → Int32} {drawn : Nat → Int32} {row : Nat → Int32} {best : Nat → Int32} {a_c : Int32} {a_what : Int32} {r : Int32} {d_refused : Nat → Int32} (hf : f6_about quiet book refused a_c a_what = some (r, d_refused)) : Met l yX6_about wsX6_about rm6_about (zPm D cI cZ cB [.ref (q 0), .int a_c, .int a_what] sz (cMod cI cZ q quiet mabove mbelow typed mat mstart mtoken mvalue many book images mkept aside refused text items drawn row best)) (zQm D (some (.int r)) (cMod cI cZ q quiet mabove mbelow typed mat mstart mtoken mvalue many book images mkept aside d_refused text items drawn row best) (va_A (cMod cI cZ q quiet mabove mbelow typed mat mstart mtoken mvalue many book images mkept aside refused text items drawn row best) sz)) 0 0 (va_A (cMod cI cZ q quiet mabove mbelow typed mat mstart mtoken mvalue many book images mkept aside refused text items drawn row best) sz) := by
  unfold f6_about at hf
  refine z_mutI RX6 (by decide +kernel) rfl rfl (Nat.le_of_ble_eq_true rfl) ?_
  intro p e s m args below meth c Q A ls hx hb hml hown hts hK hP hD hS hA hret hl
  have hl : lv_has ls 3 [(0, .ref (q 0)), (1, .int a_c), (2, .int a_what)] := hl
  refine lv_iload_n hx hb (zD_g DX6_about 0 rfl) rfl (lv_at hl 1 rfl) ?_
  obtain ⟨r1, hc2, hf⟩ := zb1_s hf
  refine z_Sp (As := [.int a_c]) (rest := []) ⟨hx, hb, hml, hown, hts⟩ hK (c6_isCity  hc2) (va_cwS 1 hts gX6_about_X6_isCity rfl rfl rfl hd6_isCity ⟨Nat.le_of_ble_eq_true rfl, Nat.le_of_ble_eq_true rfl⟩) (hP.sub [] rfl) rfl hl.1 rfl rfl (Nat.le_of_ble_eq_true rfl) (zD_g DX6_about 1 rfl) ⟨Nat.zero_le _, Nat.zero_le _⟩ ?_
  refine lv_if_eq (tgt := 19) hx hb (zD_g DX6_about 2 rfl) (by decide) (fun c3 => ?_) (fun c3 => ?_)
  · replace hf := z_t c3 hf
    refine lv_aload_n hx hb (zD_g DX6_about 9 rfl) rfl (lv_at hl 0 rfl) ?_
    obtain ⟨r4, refused_5, hc6, hf⟩ := zb2_s hf
    refine z_Vm (As := []) (rest := []) (ws' := (cMod cI cZ q quiet mabove mbelow typed mat mstart mtoken mvalue many book images mkept aside refused_5 text items drawn row best)) ⟨hx, hb, hml, hown, hts⟩ hK (c6_bad (quiet := quiet) (mabove := mabove) (mbelow := mbelow) (typed := typed) (mat := mat) (mstart := mstart) (mtoken := mtoken) (mvalue := mvalue) (many := many) (book := book) (images := images) (mkept := mkept) (aside := aside) (refused := refused) (text := text) (items := items) (drawn := drawn) (row := row) (best := best) (q := q) hc6) (cwV 0 hts gX6_about_X6_bad rfl rfl rfl hd6_bad ⟨Nat.le_of_ble_eq_true rfl, Nat.le_of_ble_eq_true rfl⟩) hP hD hS hA 11 [0, 1, 2, 3, 4, 5, 6, 7, 8, 9, 10] [] [0, 1, 2, 3, 4, 5, 6, 7, 8, 9, 10] (by decide +kernel) rfl rfl rfl rfl rfl rfl rfl hl.1 rfl rfl (Nat.le_of_ble_eq_true rfl) (zD_g DX6_about 10 rfl) ⟨Nat.zero_le _, Nat.zero_le _⟩ (fun H locs hP hD hS => ?_)
    cases hf
    exact hret _ _ _ _ hP hD hS (zD_g DX6_about 11 rfl)
  · replace hf := z_f c3 hf
    refine lv_iload_n hx hb (zD_g DX6_about 3 rfl) rfl (lv_at hl 2 rfl) ?_
    refine lv_i2l (v := (a_what).toInt64) hx hb (zD_g DX6_about 4 rfl) rfl ?_
    refine lv_lconst (v := (0 : Int64)) hx hb (zD_g DX6_about 5 rfl) (by decide) ?_
    refine lv_ldc2 (v := (4 : Int64)) hx hb hown (hts _ (List.mem_of_getElem? (i := 1) rfl)) (zD_g DX6_about 6 rfl) ?_
    obtain ⟨r7, hc8, hf⟩ := zb1_s hf
    refine z_Sp (As := [.long ((a_what).toInt64), .long (0 : Int64), .long (4 : Int64)]) (rest := []) ⟨hx, hb, hml, hown, hts⟩ hK (c6_in  hc8) (va_cwS 3 hts gX6_about_X6_in rfl rfl rfl hd6_in ⟨Nat.le_of_ble_eq_true rfl, Nat.le_of_ble_eq_true rfl⟩) (hP.sub [] rfl) rfl hl.1 rfl rfl (Nat.le_of_ble_eq_true rfl) (zD_g DX6_about 7 rfl) ⟨Nat.zero_le _, Nat.zero_le _⟩ ?_
    refine lv_if_ne (tgt := 24) hx hb (zD_g DX6_about 8 rfl) (by decide) (fun c9 => ?_) (fun c9 => ?_)
    · replace hf := z_f c9 hf
      refine lv_iload_n hx hb (zD_g DX6_about 12 rfl) rfl (lv_at hl 2 rfl) ?_
      refine lv_iconst (v := (3 : Int32)) hx hb (zD_g DX6_about 13 rfl) (by decide) ?_
      refine lv_icmp_ge (tgt := 45) hx hb (zD_g DX6_about 14 rfl) (by decide) (fun c10 => ?_) (fun c10 => ?_)
      · replace hf := z_t c10 hf
        refine lv_iload_n hx hb (zD_g DX6_about 26 rfl) rfl (lv_at hl 2 rfl) ?_
        refine lv_iconst (v := (3 : Int32)) hx hb (zD_g DX6_about 27 rfl) (by decide) ?_
        refine lv_icmp_ne (tgt := 62) hx hb (zD_g DX6_about 28 rfl) (by decide) (fun c11 => ?_) (fun c11 => ?_)
        · replace hf := z_f c11 hf
          refine lv_aload_n hx hb (zD_g DX6_about 36 rfl) rfl (lv_at hl 0 rfl) ?_
          refine lv_iload_n hx hb (zD_g DX6_about 37 rfl) rfl (lv_at hl 1 rfl) ?_
          obtain ⟨r12, hc13, hf⟩ := zb1_s hf
          refine z_Vp (As := [.int a_c]) (rest := []) ⟨hx, hb, hml, hown, hts⟩ hK (c6_giftsOf (quiet := quiet) (mabove := mabove) (mbelow := mbelow) (typed := typed) (mat := mat) (mstart := mstart) (mtoken := mtoken) (mvalue := mvalue) (many := many) (book := book) (images := images) (mkept := mkept) (aside := aside) (refused := refused) (text := text) (items := items) (drawn := drawn) (row := row) (best := best) (q := q) hc13) (cwV 1 hts gX6_about_X6_giftsOf rfl rfl rfl hd6_giftsOf ⟨Nat.le_of_ble_eq_true rfl, Nat.le_of_ble_eq_true rfl⟩) hP rfl rfl rfl rfl hl.1 rfl rfl (Nat.le_of_ble_eq_true rfl) (zD_g DX6_about 38 rfl) ⟨Nat.zero_le _, Nat.zero_le _⟩ ?_
          cases hf
          exact hret _ _ _ _ hP hD hS (zD_g DX6_about 39 rfl)
        · replace hf := z_t c11 hf
          refine lv_aload_n hx hb (zD_g DX6_about 29 rfl) rfl (lv_at hl 0 rfl) ?_
          refine va_get (D := D) (ci := 5) (v := .ref (q 1)) (C := RX6) (T := TX6) (N := 19) hx hb hts in6_about_6 hown hK.1 hP 0 rfl rfl 0 (by decide) (hts _ (List.mem_of_getElem? (i := 2) rfl)) (fun _ h9 => h9) rfl (zD_g DX6_about 30 rfl) ?_
          refine lv_bipush (v := (92 : Int32)) hx hb (zD_g DX6_about 31 rfl) (by decide) ?_
          refine lv_iload_n hx hb (zD_g DX6_about 32 rfl) rfl (lv_at hl 1 rfl) ?_
          refine lv_iadd hx hb (zD_g DX6_about 33 rfl) ?_
          obtain ⟨h14, hf⟩ := zg_s hf
          refine z_iald (k := ((92 : Int32) + a_c).toNatClampNeg) hx hb hK.1 hP 1 0 rfl rfl h14 rfl (zD_g DX6_about 34 rfl) ?_
          refine lv_goto (tgt := 67) hx hb (zD_g DX6_about 35 rfl) (by decide) ?_
          refine lv_topi (fun x15 ex15 => ?_)
          replace hf := zl_s hf x15 ex15
          cases hf
          exact hret _ _ _ _ hP hD hS (zD_g DX6_about 39 rfl)
      · replace hf := z_f c10 hf
        refine lv_aload_n hx hb (zD_g DX6_about 15 rfl) rfl (lv_at hl 0 rfl) ?_
        refine va_get (D := D) (ci := 5) (v := .ref (q 1)) (C := RX6) (T := TX6) (N := 19) hx hb hts in6_about_6 hown hK.1 hP 0 rfl rfl 0 (by decide) (hts _ (List.mem_of_getElem? (i := 2) rfl)) (fun _ h9 => h9) rfl (zD_g DX6_about 16 rfl) ?_
        refine lv_bipush (v := (74 : Int32)) hx hb (zD_g DX6_about 17 rfl) (by decide) ?_
        refine lv_iconst (v := (3 : Int32)) hx hb (zD_g DX6_about 18 rfl) (by decide) ?_
        refine lv_iload_n hx hb (zD_g DX6_about 19 rfl) rfl (lv_at hl 1 rfl) ?_
        refine lv_imul hx hb (zD_g DX6_about 20 rfl) ?_
        refine lv_iadd hx hb (zD_g DX6_about 21 rfl) ?_
        refine lv_iload_n hx hb (zD_g DX6_about 22 rfl) rfl (lv_at hl 2 rfl) ?_
        refine lv_iadd hx hb (zD_g DX6_about 23 rfl) ?_
        obtain ⟨h16, hf⟩ := zg_s hf
        refine z_iald (k := (((74 : Int32) + ((3 : Int32) * a_c)) + a_what).toNatClampNeg) hx hb hK.1 hP 1 0 rfl rfl h16 rfl (zD_g DX6_about 24 rfl) ?_
        refine lv_goto (tgt := 67) hx hb (zD_g DX6_about 25 rfl) (by decide) ?_
        refine lv_topi (fun x17 ex17 => ?_)
        replace hf := zl_s hf x17 ex17
        cases hf
        exact hret _ _ _ _ hP hD hS (zD_g DX6_about 39 rfl)
    · replace hf := z_t c9 hf
      refine lv_aload_n hx hb (zD_g DX6_about 9 rfl) rfl (lv_at hl 0 rfl) ?_
      obtain ⟨r18, refused_19, hc20, hf⟩ := zb2_s hf
      refine z_Vm (As := []) (rest := []) (ws' := (cMod cI cZ q quiet mabove mbelow typed mat mstart mtoken mvalue many book images mkept aside refused_19 text items drawn row best)) ⟨hx, hb, hml, hown, hts⟩ hK (c6_bad (quiet := quiet) (mabove := mabove) (mbelow := mbelow) (typed := typed) (mat := mat) (mstart := mstart) (mtoken := mtoken) (mvalue := mvalue) (many := many) (book := book) (images := images) (mkept := mkept) (aside := aside) (refused := refused) (text := text) (items := items) (drawn := drawn) (row := row) (best := best) (q := q) hc20) (cwV 0 hts gX6_about_X6_bad rfl rfl rfl hd6_bad ⟨Nat.le_of_ble_eq_true rfl, Nat.le_of_ble_eq_true rfl⟩) hP hD hS hA 11 [0, 1, 2, 3, 4, 5, 6, 7, 8, 9, 10] [] [0, 1, 2, 3, 4, 5, 6, 7, 8, 9, 10] (by decide +kernel) rfl rfl rfl rfl rfl rfl rfl hl.1 rfl rfl (Nat.le_of_ble_eq_true rfl) (zD_g DX6_about 10 rfl) ⟨Nat.zero_le _, Nat.zero_le _⟩ (fun H locs hP hD hS => ?_)
      cases hf
      exact hret _ _ _ _ hP hD hS (zD_g DX6_about 11 rfl)
abbrev dlX6_bits : List (Nat × Instr × Nat) := [(0, .iconst 0, 1), (1, .istore_n 1, 1), (2, .iconst 0, 1), (3, .istore_n 2, 1), (4, .iload_n 2, 1), (5, .bipush 8, 2), (7, .if_icmp .ge 17, 3), (10, .iload_n 1, 1), (11, .iload_n 0, 1), (12, .iload_n 2, 1), (13, .ishr, 1), (14, .iconst 1, 1), (15, .iand, 1), (16, .iadd, 1), (17, .istore_n 1, 1), (18, .iinc 2 1, 3), (21, .goto (-17), 3), (24, .iload_n 1, 1), (25, .ireturn, 1)]
theorem DX6_bits : zD cX6_bits dlX6_bits = true := by decide +kernel
theorem hd6_bits : yX6_bits.cls ≠ "java/lang/invoke/MethodHandle" ∧ yX6_bits.cls ≠ "java/lang/invoke/VarHandle" ∧ (parseMethodDescriptor yX6_bits.desc).map (fun d => d.parameters.length) = some 1 := by decide +kernel
abbrev rm6_bits : Room := { frames := 0, cells := 0, slots := 0, locals := 0 }
set_option maxHeartbeats 4000000 in
set_option maxRecDepth 100000 in
theorem c6_bits {l : Launch} {D : va_G} {cI cZ cB : ClassId}   {a_set : Int32} {r : Int32}  (hf : f6_bits a_set = some r) : Met l yX6_bits wsX6_bits rm6_bits (zPp D cI cZ cB [.int a_set] ([] : va_W)) (zQp (some (.int r))) 0 0 (fun _ => False) := by
  unfold f6_bits at hf
  refine z_pureI RX6 (by decide +kernel) rfl rfl (Nat.le_of_ble_eq_true rfl) ?_
  intro p e s m args below meth c Q ls hx hb hml hown hts hK hP hret hl
  have hl : lv_has ls 3 [(0, .int a_set)] := hl
  refine lv_iconst (v := (0 : Int32)) hx hb (zD_g DX6_bits 0 rfl) (by decide) ?_
  refine lv_istore_n (lv' := [(1, .int (0 : Int32)), (0, .int a_set)]) hx hb (zD_g DX6_bits 1 rfl) rfl hl (by decide) rfl (fun ls hl => ?_)
  refine lv_iconst (v := (0 : Int32)) hx hb (zD_g DX6_bits 2 rfl) (by decide) ?_
  refine lv_istore_n (lv' := [(2, .int (0 : Int32)), (1, .int (0 : Int32)), (0, .int a_set)]) hx hb (zD_g DX6_bits 3 rfl) rfl hl (by decide) rfl (fun ls hl => ?_)
  have hL3 : ∀ (k3 : Int32 → Option (Int32)) (hk3 : ∀ (y6 : Int32), k3 y6 = some r → ∀ (ls : Array Slot), lv_has ls 3 [(1, .int y6)] → W p l e rm6_bits s m args below meth c s.heap [] 0 0 Q (F0 m 24 ls [])) (n3 : Nat) (y1 : Int32) (y2 : Int32), L6_bits_4 k3 a_set n3 y1 y2 = some r → ∀ (ls : Array Slot), lv_has ls 3 [(0, .int a_set), (1, .int y1), (2, .int y2)] → W p l e rm6_bits s m args below meth c s.heap [] 0 0 Q (F0 m 4 ls []) := by
    intro k3 hk3 n3
    induction n3 with
    | zero =>
      intro y1 y2 hf
      cases hf
    | succ n3 ih3 =>
      intro y1 y2 hf ls hl
      rw [L6_bits_4] at hf
      refine lv_iload_n hx hb (zD_g DX6_bits 4 rfl) rfl (lv_at hl 2 rfl) ?_
      refine lv_bipush (v := (8 : Int32)) hx hb (zD_g DX6_bits 5 rfl) (by decide) ?_
      refine lv_icmp_ge (tgt := 24) hx hb (zD_g DX6_bits 6 rfl) (by decide) (fun c4 => ?_) (fun c4 => ?_)
      · replace hf := z_t c4 hf
        exact hk3 _ hf ls (lv_sub hl [1] rfl)
      · replace hf := z_f c4 hf
        refine lv_iload_n hx hb (zD_g DX6_bits 7 rfl) rfl (lv_at hl 1 rfl) ?_
        refine lv_iload_n hx hb (zD_g DX6_bits 8 rfl) rfl (lv_at hl 0 rfl) ?_
        refine lv_iload_n hx hb (zD_g DX6_bits 9 rfl) rfl (lv_at hl 2 rfl) ?_
        refine lv_ishr hx hb (zD_g DX6_bits 10 rfl) ?_
        refine lv_iconst (v := (1 : Int32)) hx hb (zD_g DX6_bits 11 rfl) (by decide) ?_
        refine lv_iand hx hb (zD_g DX6_bits 12 rfl) ?_
        refine lv_iadd hx hb (zD_g DX6_bits 13 rfl) ?_
        refine lv_topi (fun x5 ex5 => ?_)
        replace hf := zl_s hf x5 ex5
        refine lv_istore_n (lv' := [(1, .int x5), (0, .int a_set), (2, .int y2)]) hx hb (zD_g DX6_bits 14 rfl) rfl hl (by decide) rfl (fun ls hl => ?_)
        refine lv_iinc (v := y2 + 1) (lv' := [(2, .int (y2 + 1)), (1, .int x5), (0, .int a_set)]) (k := 2) hx hb (zD_g DX6_bits 15 rfl) hl rfl rfl (by decide) rfl (fun ls hl => ?_)
        refine lv_goto (tgt := 4) hx hb (zD_g DX6_bits 16 rfl) (by decide) ?_
        exact ih3 _ _ hf ls (lv_sub hl [2, 1, 0] rfl)
  refine hL3 _ (fun y6 hf ls hl => ?_) _ _ _ hf ls (lv_sub hl [2, 1, 0] rfl)
  refine lv_iload_n hx hb (zD_g DX6_bits 17 rfl) rfl (lv_at hl 0 rfl) ?_
  cases hf
  exact hret _ _ (zD_g DX6_bits 18 rfl)
abbrev dlX6_hide : List (Nat × Instr × Nat) := [(0, .aload_n 0, 1), (1, .iload_n 1, 1), (2, .invokevirtual 84, 3), (5, .ifCond .eq 20, 3), (8, .iload_n 2, 1), (9, .invokestatic 105, 3), (12, .ifCond .eq 13, 3), (15, .iload_n 3, 1), (16, .i2l, 1), (17, .lconst 0, 1), (18, .lconst 1, 1), (19, .invokestatic 56, 3), (22, .ifCond .ne 11, 3), (25, .aload_n 0, 1), (26, .iconst 0, 1), (27, .bipush (-10), 2), (29, .invokevirtual 52, 3), (32, .ireturn, 1), (33, .aload_n 0, 1), (34, .iconst (-1), 1), (35, .invokevirtual 87, 3), (38, .aload_n 0, 1), (39, .iload_n 1, 1), (40, .invokevirtual 87, 3), (43, .ior, 1), (44, .istore 4, 2), (46, .iconst (-1), 1), (47, .istore 5, 2), (49, .iconst (-1), 1), (50, .istore 6, 2), (52, .iconst 0, 1), (53, .istore 7, 2), (55, .iload 7, 2), (57, .iconst 1, 1), (58, .aload_n 0, 1), (59, .getfield 7, 3), (62, .iconst 0, 1), (63, .iaload, 1), (64, .ishl, 1), (65, .if_icmp .ge 141, 3), (68, .iload 7, 2), (70, .iload 4, 2), (72, .iconst (-1), 1), (73, .ixor, 1), (74, .iand, 1), (75, .ifCond .ne 36, 3), (78, .aload_n 0, 1), (79, .iload 7, 2), (81, .iconst 0, 1), (82, .invokevirtual 91, 3), (85, .aload_n 0, 1), (86, .getfield 7, 3), (89, .bipush 56, 2), (91, .iload_n 1, 1), (92, .iadd, 1), (93, .iaload, 1), (94, .if_icmp .gt 17, 3), (97, .aload_n 0, 1), (98, .iload_n 1, 1), (99, .iload 7, 2), (101, .invokevirtual 203, 3), (104, .ifCond .eq 7, 3), (107, .iconst 1, 1), (108, .goto 4, 3), (111, .iconst 0, 1), (112, .istore 8, 2), (114, .iload 8, 2), (116, .ifCond .eq 14, 3), (119, .aload_n 0, 1), (120, .iload_n 1, 1), (121, .iload 7, 2), (123, .iload_n 2, 1), (124, .invokevirtual 206, 3), (127, .goto 4, 3), (130, .iconst (-1), 1), (131, .istore 9, 2), (133, .iload 9, 2), (135, .iload 6, 2), (137, .if_icmp .gt 28, 3), (140, .iload 8, 2), (142, .ifCond .eq 27, 3), (145, .iload 9, 2), (147, .iload 6, 2), (149, .if_icmp .ne 20, 3), (152, .iload 7, 2), (154, .invokestatic 219, 3), (157, .iload 5, 2), (159, .invokestatic 219, 3), (162, .if_icmp .ge 7, 3), (165, .iconst 1, 1), (166, .goto 4, 3), (169, .iconst 0, 1), (170, .istore 10, 2), (172, .iload 10, 2), (174, .ifCond .eq 8, 3), (177, .iload 7, 2), (179, .goto 5, 3), (182, .iload 5, 2), (184, .istore 5, 2), (186, .iload 10, 2), (188, .ifCond .eq 8, 3), (191, .iload 9, 2), (193, .goto 5, 3), (196, .iload 6, 2), (198, .istore 6, 2), (200, .iinc 7 1, 3), (203, .goto (-148), 3), (206, .iload_n 3, 1), (207, .ifCond .ne 8, 3), (210, .iload 5, 2), (212, .goto 5, 3), (215, .iload 6, 2), (217, .ireturn, 1)]
theorem DX6_hide : zD cX6_hide dlX6_hide = true := by decide +kernel
set_option maxRecDepth 20000 in
theorem ggX6_hide_X6_isGift : GoodIn wsX6_hide wsX6_isGift := goodIn_r _ [6, 1, 7, 8, 5, 9, 63, 64, 65, 66, 67, 68, 69, 70, 71, 72, 73, 74, 75, 76, 77, 78, 79, 80, 81] (by decide +kernel) (by decide +kernel)
set_option maxRecDepth 20000 in
theorem gX6_hide_X6_isGift : GoodIn wsX6_hide (wsV RX6 84 RX6 yX6_isGift wsX6_isGift) := goodIn_app (goodIn_of _ (by decide +kernel)) ggX6_hide_X6_isGift
set_option maxRecDepth 20000 in
theorem ggX6_hide_X6_isHour : GoodIn wsX6_hide wsX6_isHour := goodIn_r _ [12, 13, 7, 8, 5, 9] (by decide +kernel) (by decide +kernel)
set_option maxRecDepth 20000 in
theorem gX6_hide_X6_isHour : GoodIn wsX6_hide (va_wsS RX6 105 yX6_isHour wsX6_isHour) := goodIn_app (goodIn_of _ (by decide +kernel)) ggX6_hide_X6_isHour
set_option maxRecDepth 20000 in
theorem ggX6_hide_X6_in : GoodIn wsX6_hide wsX6_in := goodIn_r _ [9] (by decide +kernel) (by decide +kernel)
set_option maxRecDepth 20000 in
theorem gX6_hide_X6_in : GoodIn wsX6_hide (va_wsS RX6 56 yX6_in wsX6_in) := goodIn_app (goodIn_of _ (by decide +kernel)) ggX6_hide_X6_in
set_option maxRecDepth 20000 in
theorem ggX6_hide_X6_refuses : GoodIn wsX6_hide wsX6_refuses := goodIn_r _ [17, 18, 19, 63, 64, 65, 66, 67, 68, 69, 70, 71, 72, 73, 74, 75, 76, 77, 78, 79, 80, 81] (by decide +kernel) (by decide +kernel)
set_option maxRecDepth 20000 in
theorem gX6_hide_X6_refuses : GoodIn wsX6_hide (wsV RX6 52 RX6 yX6_refuses wsX6_refuses) := goodIn_app (goodIn_of _ (by decide +kernel)) ggX6_hide_X6_refuses
set_option maxRecDepth 20000 in
theorem ggX6_hide_X6_thingsIn : GoodIn wsX6_hide wsX6_thingsIn := goodIn_r _ [23, 1, 63, 64, 65, 66, 67, 68, 69, 70, 71, 72, 73, 74, 75, 76, 77, 78, 79, 80, 81] (by decide +kernel) (by decide +kernel)
set_option maxRecDepth 20000 in
theorem gX6_hide_X6_thingsIn : GoodIn wsX6_hide (wsV RX6 87 RX6 yX6_thingsIn wsX6_thingsIn) := goodIn_app (goodIn_of _ (by decide +kernel)) ggX6_hide_X6_thingsIn
set_option maxRecDepth 20000 in
theorem ggX6_hide_X6_sumOf : GoodIn wsX6_hide wsX6_sumOf := goodIn_r _ [27, 1, 63, 64, 65, 66, 67, 68, 69, 70, 71, 72, 73, 74, 75, 76, 77, 78, 79, 80, 81] (by decide +kernel) (by decide +kernel)
set_option maxRecDepth 20000 in
theorem gX6_hide_X6_sumOf : GoodIn wsX6_hide (wsV RX6 91 RX6 yX6_sumOf wsX6_sumOf) := goodIn_app (goodIn_of _ (by decide +kernel)) ggX6_hide_X6_sumOf
set_option maxRecDepth 20000 in
theorem ggX6_hide_X6_passes : GoodIn wsX6_hide wsX6_passes := goodIn_r _ [31, 1, 32, 33, 34, 5, 35, 36, 37, 38, 39, 40, 41, 42, 43, 24, 25, 26, 27, 44, 45, 46, 47, 48, 49, 50, 51, 63, 64, 65, 66, 67, 68, 69, 70, 71, 72, 73, 74, 75, 76, 77, 78, 79, 80, 81] (by decide +kernel) (by decide +kernel)
set_option maxRecDepth 20000 in
theorem gX6_hide_X6_passes : GoodIn wsX6_hide (wsV RX6 203 RX6 yX6_passes wsX6_passes) := goodIn_app (goodIn_of _ (by decide +kernel)) ggX6_hide_X6_passes
set_option maxRecDepth 20000 in
theorem ggX6_hide_X6_loses : GoodIn wsX6_hide wsX6_loses := goodIn_r _ [55, 1, 56, 57, 58, 5, 59, 24, 25, 26, 27, 32, 33, 34, 35, 63, 64, 65, 66, 67, 68, 69, 70, 71, 72, 73, 74, 75, 76, 77, 78, 79, 80, 81] (by decide +kernel) (by decide +kernel)
set_option maxRecDepth 20000 in
theorem gX6_hide_X6_loses : GoodIn wsX6_hide (wsV RX6 206 RX6 yX6_loses wsX6_loses) := goodIn_app (goodIn_of _ (by decide +kernel)) ggX6_hide_X6_loses
set_option maxRecDepth 20000 in
theorem ggX6_hide_X6_bits : GoodIn wsX6_hide wsX6_bits := goodIn_r _ [62] (by decide +kernel) (by decide +kernel)
set_option maxRecDepth 20000 in
theorem gX6_hide_X6_bits : GoodIn wsX6_hide (va_wsS RX6 219 yX6_bits wsX6_bits) := goodIn_app (goodIn_of _ (by decide +kernel)) ggX6_hide_X6_bits
theorem hd6_hide : yX6_hide.cls = RX6 ∧ yX6_hide.cls ≠ "java/lang/invoke/MethodHandle" ∧ yX6_hide.cls ≠ "java/lang/invoke/VarHandle" ∧ (parseMethodDescriptor yX6_hide.desc).map (fun d => d.parameters.length) = some 3 := by decide +kernel
abbrev rm6_hide : Room := { frames := 4, cells := 0, slots := 0, locals := 93 }
theorem in6_hide_6 : ∀ w ∈ wsX60, w ∈ wsX6_hide := fun w h => List.mem_cons_of_mem _ (List.mem_append_right _ h)
set_option maxHeartbeats 4000000 in
set_option maxRecDepth 100000 in
theorem c6_hide {l : Launch} {D : va_G} {cI cZ cB : ClassId} {q : Nat → Nat} {sz : Nat} {quiet : Int32} {mabove : Int64} {mbelow : Int64} {typed : Int32} {mat : Int32} {mstart : Int32} {mtoken : Int32} {mvalue : Int32} {many : Int32} {book : Nat → Int32} {images : Nat → Int32} {mkept : Nat → Int32} {aside : Nat → Int32} {refused : Nat → Int32} {text : Nat → Int32} {items : Nat → Int32} {drawn : Nat → Int32} {row : Nat → Int32} {best : Nat → Int32} {a_g : Int32} {a_hour : Int32} {a_what : Int32} {r : Int32} {d_refused : Nat → Int32} (hf : f6_hide quiet book refused a_g a_hour a_what = some (r, d_refused)) : Met l yX6_hide wsX6_hide rm6_hide (zPm D cI cZ cB [.ref (q 0), .int a_g, .int a_hour, .int a_what] sz (cMod cI cZ q quiet mabove mbelow typed mat mstart mtoken mvalue many book images mkept aside refused text items drawn row best)) (zQm D (some (.int r)) (cMod cI cZ q quiet mabove mbelow typed mat mstart mtoken mvalue many book images mkept aside d_refused text items drawn row best) (va_A (cMod cI cZ q quiet mabove mbelow typed mat mstart mtoken mvalue many book images mkept aside refused text items drawn row best) sz)) 0 0 (va_A (cMod cI cZ q quiet mabove mbelow typed mat mstart mtoken mvalue many book images mkept aside refused text items drawn row best) sz) := by
  unfold f6_hide at hf
  refine z_mutI RX6 (by decide +kernel) rfl rfl (Nat.le_of_ble_eq_true rfl) ?_
  intro p e s m args below meth c Q A ls hx hb hml hown hts hK hP hD hS hA hret hl
  have hl : lv_has ls 11 [(0, .ref (q 0)), (1, .int a_g), (2, .int a_hour), (3, .int a_what)] := hl
  refine lv_aload_n hx hb (zD_g DX6_hide 0 rfl) rfl (lv_at hl 0 rfl) ?_
  refine lv_iload_n hx hb (zD_g DX6_hide 1 rfl) rfl (lv_at hl 1 rfl) ?_
  obtain ⟨r1, hc2, hf⟩ := zb1_s hf
  refine z_Vp (As := [.int a_g]) (rest := []) ⟨hx, hb, hml, hown, hts⟩ hK (c6_isGift (quiet := quiet) (mabove := mabove) (mbelow := mbelow) (typed := typed) (mat := mat) (mstart := mstart) (mtoken := mtoken) (mvalue := mvalue) (many := many) (book := book) (images := images) (mkept := mkept) (aside := aside) (refused := refused) (text := text) (items := items) (drawn := drawn) (row := row) (best := best) (q := q) hc2) (cwV 1 hts gX6_hide_X6_isGift rfl rfl rfl hd6_isGift ⟨Nat.le_of_ble_eq_true rfl, Nat.le_of_ble_eq_true rfl⟩) hP rfl rfl rfl rfl hl.1 rfl rfl (Nat.le_of_ble_eq_true rfl) (zD_g DX6_hide 2 rfl) ⟨Nat.zero_le _, Nat.zero_le _⟩ ?_
  refine lv_if_eq (tgt := 25) hx hb (zD_g DX6_hide 3 rfl) (by decide) (fun c3 => ?_) (fun c3 => ?_)
  · replace hf := z_t c3 hf
    refine lv_aload_n hx hb (zD_g DX6_hide 13 rfl) rfl (lv_at hl 0 rfl) ?_
    refine lv_iconst (v := (0 : Int32)) hx hb (zD_g DX6_hide 14 rfl) (by decide) ?_
    refine lv_bipush (v := (-10 : Int32)) hx hb (zD_g DX6_hide 15 rfl) (by decide) ?_
    obtain ⟨r4, refused_5, hc6, hf⟩ := zb2_s hf
    refine z_Vm (As := [.int (0 : Int32), .int (-10 : Int32)]) (rest := []) (ws' := (cMod cI cZ q quiet mabove mbelow typed mat mstart mtoken mvalue many book images mkept aside refused_5 text items drawn row best)) ⟨hx, hb, hml, hown, hts⟩ hK (c6_refuses (quiet := quiet) (mabove := mabove) (mbelow := mbelow) (typed := typed) (mat := mat) (mstart := mstart) (mtoken := mtoken) (mvalue := mvalue) (many := many) (book := book) (images := images) (mkept := mkept) (aside := aside) (refused := refused) (text := text) (items := items) (drawn := drawn) (row := row) (best := best) (q := q) hc6) (cwV 2 hts gX6_hide_X6_refuses rfl rfl rfl hd6_refuses ⟨Nat.le_of_ble_eq_true rfl, Nat.le_of_ble_eq_true rfl⟩) hP hD hS hA 11 [0, 1, 2, 3, 4, 5, 6, 7, 8, 9, 10] [] [0, 1, 2, 3, 4, 5, 6, 7, 8, 9, 10] (by decide +kernel) rfl rfl rfl rfl rfl rfl rfl hl.1 rfl rfl (Nat.le_of_ble_eq_true rfl) (zD_g DX6_hide 16 rfl) ⟨Nat.zero_le _, Nat.zero_le _⟩ (fun H locs hP hD hS => ?_)
    cases hf
    exact hret _ _ _ _ hP hD hS (zD_g DX6_hide 17 rfl)
  · replace hf := z_f c3 hf
    refine lv_iload_n hx hb (zD_g DX6_hide 4 rfl) rfl (lv_at hl 2 rfl) ?_
    obtain ⟨r7, hc8, hf⟩ := zb1_s hf
    refine z_Sp (As := [.int a_hour]) (rest := []) ⟨hx, hb, hml, hown, hts⟩ hK (c6_isHour  hc8) (va_cwS 1 hts gX6_hide_X6_isHour rfl rfl rfl hd6_isHour ⟨Nat.le_of_ble_eq_true rfl, Nat.le_of_ble_eq_true rfl⟩) (hP.sub [] rfl) rfl hl.1 rfl rfl (Nat.le_of_ble_eq_true rfl) (zD_g DX6_hide 5 rfl) ⟨Nat.zero_le _, Nat.zero_le _⟩ ?_
    refine lv_if_eq (tgt := 25) hx hb (zD_g DX6_hide 6 rfl) (by decide) (fun c9 => ?_) (fun c9 => ?_)
    · replace hf := z_t c9 hf
      refine lv_aload_n hx hb (zD_g DX6_hide 13 rfl) rfl (lv_at hl 0 rfl) ?_
      refine lv_iconst (v := (0 : Int32)) hx hb (zD_g DX6_hide 14 rfl) (by decide) ?_
      refine lv_bipush (v := (-10 : Int32)) hx hb (zD_g DX6_hide 15 rfl) (by decide) ?_
      obtain ⟨r10, refused_11, hc12, hf⟩ := zb2_s hf
      refine z_Vm (As := [.int (0 : Int32), .int (-10 : Int32)]) (rest := []) (ws' := (cMod cI cZ q quiet mabove mbelow typed mat mstart mtoken mvalue many book images mkept aside refused_11 text items drawn row best)) ⟨hx, hb, hml, hown, hts⟩ hK (c6_refuses (quiet := quiet) (mabove := mabove) (mbelow := mbelow) (typed := typed) (mat := mat) (mstart := mstart) (mtoken := mtoken) (mvalue := mvalue) (many := many) (book := book) (images := images) (mkept := mkept) (aside := aside) (refused := refused) (text := text) (items := items) (drawn := drawn) (row := row) (best := best) (q := q) hc12) (cwV 2 hts gX6_hide_X6_refuses rfl rfl rfl hd6_refuses ⟨Nat.le_of_ble_eq_true rfl, Nat.le_of_ble_eq_true rfl⟩) hP hD hS hA 11 [0, 1, 2, 3, 4, 5, 6, 7, 8, 9, 10] [] [0, 1, 2, 3, 4, 5, 6, 7, 8, 9, 10] (by decide +kernel) rfl rfl rfl rfl rfl rfl rfl hl.1 rfl rfl (Nat.le_of_ble_eq_true rfl) (zD_g DX6_hide 16 rfl) ⟨Nat.zero_le _, Nat.zero_le _⟩ (fun H locs hP hD hS => ?_)
      cases hf
      exact hret _ _ _ _ hP hD hS (zD_g DX6_hide 17 rfl)
    · replace hf := z_f c9 hf
      refine lv_iload_n hx hb (zD_g DX6_hide 7 rfl) rfl (lv_at hl 3 rfl) ?_
      refine lv_i2l (v := (a_what).toInt64) hx hb (zD_g DX6_hide 8 rfl) rfl ?_
      refine lv_lconst (v := (0 : Int64)) hx hb (zD_g DX6_hide 9 rfl) (by decide) ?_
      refine lv_lconst (v := (1 : Int64)) hx hb (zD_g DX6_hide 10 rfl) (by decide) ?_
      obtain ⟨r13, hc14, hf⟩ := zb1_s hf
      refine z_Sp (As := [.long ((a_what).toInt64), .long (0 : Int64), .long (1 : Int64)]) (rest := []) ⟨hx, hb, hml, hown, hts⟩ hK (c6_in  hc14) (va_cwS 3 hts gX6_hide_X6_in rfl rfl rfl hd6_in ⟨Nat.le_of_ble_eq_true rfl, Nat.le_of_ble_eq_true rfl⟩) (hP.sub [] rfl) rfl hl.1 rfl rfl (Nat.le_of_ble_eq_true rfl) (zD_g DX6_hide 11 rfl) ⟨Nat.zero_le _, Nat.zero_le _⟩ ?_
      refine lv_if_ne (tgt := 33) hx hb (zD_g DX6_hide 12 rfl) (by decide) (fun c15 => ?_) (fun c15 => ?_)
      · replace hf := z_f c15 hf
        refine lv_aload_n hx hb (zD_g DX6_hide 18 rfl) rfl (lv_at hl 0 rfl) ?_
        refine lv_iconst (v := (-1 : Int32)) hx hb (zD_g DX6_hide 19 rfl) (by decide) ?_
        obtain ⟨r16, hc17, hf⟩ := zb1_s hf
        refine z_Vp (As := [.int (-1 : Int32)]) (rest := []) ⟨hx, hb, hml, hown, hts⟩ hK (c6_thingsIn (quiet := quiet) (mabove := mabove) (mbelow := mbelow) (typed := typed) (mat := mat) (mstart := mstart) (mtoken := mtoken) (mvalue := mvalue) (many := many) (book := book) (images := images) (mkept := mkept) (aside := aside) (refused := refused) (text := text) (items := items) (drawn := drawn) (row := row) (best := best) (q := q) hc17) (cwV 1 hts gX6_hide_X6_thingsIn rfl rfl rfl hd6_thingsIn ⟨Nat.le_of_ble_eq_true rfl, Nat.le_of_ble_eq_true rfl⟩) hP rfl rfl rfl rfl hl.1 rfl rfl (Nat.le_of_ble_eq_true rfl) (zD_g DX6_hide 20 rfl) ⟨Nat.zero_le _, Nat.zero_le _⟩ ?_
        refine lv_aload_n hx hb (zD_g DX6_hide 21 rfl) rfl (lv_at hl 0 rfl) ?_
        refine lv_iload_n hx hb (zD_g DX6_hide 22 rfl) rfl (lv_at hl 1 rfl) ?_
        obtain ⟨r18, hc19, hf⟩ := zb1_s hf
        refine z_Vp (As := [.int a_g]) (rest := [.int r16]) ⟨hx, hb, hml, hown, hts⟩ hK (c6_thingsIn (quiet := quiet) (mabove := mabove) (mbelow := mbelow) (typed := typed) (mat := mat) (mstart := mstart) (mtoken := mtoken) (mvalue := mvalue) (many := many) (book := book) (images := images) (mkept := mkept) (aside := aside) (refused := refused) (text := text) (items := items) (drawn := drawn) (row := row) (best := best) (q := q) hc19) (cwV 1 hts gX6_hide_X6_thingsIn rfl rfl rfl hd6_thingsIn ⟨Nat.le_of_ble_eq_true rfl, Nat.le_of_ble_eq_true rfl⟩) hP rfl rfl rfl rfl hl.1 rfl rfl (Nat.le_of_ble_eq_true rfl) (zD_g DX6_hide 23 rfl) ⟨Nat.zero_le _, Nat.zero_le _⟩ ?_
        refine lv_ior hx hb (zD_g DX6_hide 24 rfl) ?_
        refine lv_topi (fun x20 ex20 => ?_)
        replace hf := zl_s hf x20 ex20
        refine lv_istore (lv' := [(4, .int x20), (0, .ref (q 0)), (1, .int a_g), (2, .int a_hour), (3, .int a_what)]) hx hb (zD_g DX6_hide 25 rfl) hl (by decide) rfl (fun ls hl => ?_)
        refine lv_iconst (v := (-1 : Int32)) hx hb (zD_g DX6_hide 26 rfl) (by decide) ?_
        refine lv_istore (lv' := [(5, .int (-1 : Int32)), (4, .int x20), (0, .ref (q 0)), (1, .int a_g), (2, .int a_hour), (3, .int a_what)]) hx hb (zD_g DX6_hide 27 rfl) hl (by decide) rfl (fun ls hl => ?_)
        refine lv_iconst (v := (-1 : Int32)) hx hb (zD_g DX6_hide 28 rfl) (by decide) ?_
        refine lv_istore (lv' := [(6, .int (-1 : Int32)), (5, .int (-1 : Int32)), (4, .int x20), (0, .ref (q 0)), (1, .int a_g), (2, .int a_hour), (3, .int a_what)]) hx hb (zD_g DX6_hide 29 rfl) hl (by decide) rfl (fun ls hl => ?_)
        refine lv_iconst (v := (0 : Int32)) hx hb (zD_g DX6_hide 30 rfl) (by decide) ?_
        refine lv_istore (lv' := [(7, .int (0 : Int32)), (6, .int (-1 : Int32)), (5, .int (-1 : Int32)), (4, .int x20), (0, .ref (q 0)), (1, .int a_g), (2, .int a_hour), (3, .int a_what)]) hx hb (zD_g DX6_hide 31 rfl) hl (by decide) rfl (fun ls hl => ?_)
        have hL24 : ∀ (k24 : Int32 → Int32 → Option (Int32 × (Nat → Int32))) (hk24 : ∀ (y55 : Int32) (y56 : Int32), k24 y55 y56 = some (r, d_refused) → ∀ (H : Heap) (locs : List Loc), va_P D vwCl (cMod cI cZ q quiet mabove mbelow typed mat mstart mtoken mvalue many book images mkept aside refused text items drawn row best) H → va_D A (cMod cI cZ q quiet mabove mbelow typed mat mstart mtoken mvalue many book images mkept aside refused text items drawn row best) → va_S A s.heap H locs → ∀ (ls : Array Slot), lv_has ls 11 [(3, .int a_what), (5, .int y55), (6, .int y56)] → W p l e rm6_hide s m args below meth c H locs 0 0 Q (F0 m 206 ls [])) (n24 : Nat) (y21 : Int32) (y22 : Int32) (y23 : Int32), L6_hide_55 k24 book a_g a_hour x20 n24 y21 y22 y23 = some (r, d_refused) → ∀ (H : Heap) (locs : List Loc), va_P D vwCl (cMod cI cZ q quiet mabove mbelow typed mat mstart mtoken mvalue many book images mkept aside refused text items drawn row best) H → va_D A (cMod cI cZ q quiet mabove mbelow typed mat mstart mtoken mvalue many book images mkept aside refused text items drawn row best) → va_S A s.heap H locs → ∀ (ls : Array Slot), lv_has ls 11 [(0, .ref (q 0)), (1, .int a_g), (2, .int a_hour), (3, .int a_what), (4, .int x20), (5, .int y21), (6, .int y22), (7, .int y23)] → W p l e rm6_hide s m args below meth c H locs 0 0 Q (F0 m 55 ls []) := by
          intro k24 hk24 n24
          induction n24 with
          | zero =>
            intro y21 y22 y23 hf
            cases hf
          | succ n24 ih24 =>
            intro y21 y22 y23 hf H locs hP hD hS ls hl
            rw [L6_hide_55] at hf
            refine lv_iload hx hb (zD_g DX6_hide 32 rfl) (lv_at hl 7 rfl) ?_
            refine lv_iconst (v := (1 : Int32)) hx hb (zD_g DX6_hide 33 rfl) (by decide) ?_
            refine lv_aload_n hx hb (zD_g DX6_hide 34 rfl) rfl (lv_at hl 0 rfl) ?_
            refine va_get (D := D) (ci := 5) (v := .ref (q 1)) (C := RX6) (T := TX6) (N := 19) hx hb hts in6_hide_6 hown hK.1 hP 0 rfl rfl 0 (by decide) (hts _ (List.mem_of_getElem? (i := 1) rfl)) (fun _ h9 => h9) rfl (zD_g DX6_hide 35 rfl) ?_
            refine lv_iconst (v := (0 : Int32)) hx hb (zD_g DX6_hide 36 rfl) (by decide) ?_
            refine z_iald (k := 0) hx hb hK.1 hP 1 0 rfl rfl (by unfold vp_in; decide) rfl (zD_g DX6_hide 37 rfl) ?_
            refine lv_ishl hx hb (zD_g DX6_hide 38 rfl) ?_
            refine lv_icmp_ge (tgt := 206) hx hb (zD_g DX6_hide 39 rfl) (by decide) (fun c25 => ?_) (fun c25 => ?_)
            · replace hf := z_t c25 hf
              exact hk24 _ _ hf _ _ hP hD hS ls (lv_sub hl [3, 5, 6] rfl)
            · replace hf := z_f c25 hf
              refine lv_iload hx hb (zD_g DX6_hide 40 rfl) (lv_at hl 7 rfl) ?_
              refine lv_iload hx hb (zD_g DX6_hide 41 rfl) (lv_at hl 4 rfl) ?_
              refine lv_iconst (v := (-1 : Int32)) hx hb (zD_g DX6_hide 42 rfl) (by decide) ?_
              refine lv_ixor hx hb (zD_g DX6_hide 43 rfl) ?_
              refine lv_iand hx hb (zD_g DX6_hide 44 rfl) ?_
              obtain ⟨v27, hr47, hf⟩ := zb1_s hf
              have hJ47 : ∀ (H : Heap) (locs : List Loc), va_P D vwCl (cMod cI cZ q quiet mabove mbelow typed mat mstart mtoken mvalue many book images mkept aside refused text items drawn row best) H → va_D A (cMod cI cZ q quiet mabove mbelow typed mat mstart mtoken mvalue many book images mkept aside refused text items drawn row best) → va_S A s.heap H locs → ∀ (ls : Array Slot), lv_has ls 11 [(0, .ref (q 0)), (1, .int a_g), (2, .int a_hour), (3, .int a_what), (4, .int x20), (5, .int y21), (6, .int y22), (7, .int y23)] → W p l e rm6_hide s m args below meth c H locs 0 0 Q (F0 m 112 ls [.int v27]) := by
                intro H locs hP hD hS ls hl
                refine lv_istore (lv' := [(8, .int v27), (0, .ref (q 0)), (1, .int a_g), (2, .int a_hour), (3, .int a_what), (4, .int x20), (5, .int y21), (6, .int y22), (7, .int y23)]) hx hb (zD_g DX6_hide 65 rfl) hl (by decide) rfl (fun ls hl => ?_)
                refine lv_iload hx hb (zD_g DX6_hide 66 rfl) (lv_at hl 0 rfl) ?_
                obtain ⟨v29, hr44, hf⟩ := zb1_s hf
                have hJ44 : ∀ (H : Heap) (locs : List Loc), va_P D vwCl (cMod cI cZ q quiet mabove mbelow typed mat mstart mtoken mvalue many book images mkept aside refused text items drawn row best) H → va_D A (cMod cI cZ q quiet mabove mbelow typed mat mstart mtoken mvalue many book images mkept aside refused text items drawn row best) → va_S A s.heap H locs → ∀ (ls : Array Slot), lv_has ls 11 [(0, .ref (q 0)), (1, .int a_g), (2, .int a_hour), (3, .int a_what), (4, .int x20), (5, .int y21), (6, .int y22), (7, .int y23), (8, .int v27)] → W p l e rm6_hide s m args below meth c H locs 0 0 Q (F0 m 131 ls [.int v29]) := by
                  intro H locs hP hD hS ls hl
                  refine lv_istore (lv' := [(9, .int v29), (0, .ref (q 0)), (1, .int a_g), (2, .int a_hour), (3, .int a_what), (4, .int x20), (5, .int y21), (6, .int y22), (7, .int y23), (8, .int v27)]) hx hb (zD_g DX6_hide 75 rfl) hl (by decide) rfl (fun ls hl => ?_)
                  refine lv_iload hx hb (zD_g DX6_hide 76 rfl) (lv_at hl 0 rfl) ?_
                  refine lv_iload hx hb (zD_g DX6_hide 77 rfl) (lv_at hl 7 rfl) ?_
                  obtain ⟨v31, hr36, hf⟩ := zb1_s hf
                  have hJ36 : ∀ (H : Heap) (locs : List Loc), va_P D vwCl (cMod cI cZ q quiet mabove mbelow typed mat mstart mtoken mvalue many book images mkept aside refused text items drawn row best) H → va_D A (cMod cI cZ q quiet mabove mbelow typed mat mstart mtoken mvalue many book images mkept aside refused text items drawn row best) → va_S A s.heap H locs → ∀ (ls : Array Slot), lv_has ls 11 [(0, .ref (q 0)), (1, .int a_g), (2, .int a_hour), (3, .int a_what), (4, .int x20), (5, .int y21), (6, .int y22), (7, .int y23), (9, .int v29)] → W p l e rm6_hide s m args below meth c H locs 0 0 Q (F0 m 170 ls [.int v31]) := by
                    intro H locs hP hD hS ls hl
                    refine lv_istore (lv' := [(10, .int v31), (0, .ref (q 0)), (1, .int a_g), (2, .int a_hour), (3, .int a_what), (4, .int x20), (5, .int y21), (6, .int y22), (7, .int y23), (9, .int v29)]) hx hb (zD_g DX6_hide 92 rfl) hl (by decide) rfl (fun ls hl => ?_)
                    refine lv_iload hx hb (zD_g DX6_hide 93 rfl) (lv_at hl 0 rfl) ?_
                    obtain ⟨v33, hr35, hf⟩ := zb1_s hf
                    have hJ35 : ∀ (H : Heap) (locs : List Loc), va_P D vwCl (cMod cI cZ q quiet mabove mbelow typed mat mstart mtoken mvalue many book images mkept aside refused text items drawn row best) H → va_D A (cMod cI cZ q quiet mabove mbelow typed mat mstart mtoken mvalue many book images mkept aside refused text items drawn row best) → va_S A s.heap H locs → ∀ (ls : Array Slot), lv_has ls 11 [(0, .ref (q 0)), (1, .int a_g), (2, .int a_hour), (3, .int a_what), (4, .int x20), (6, .int y22), (7, .int y23), (9, .int v29), (10, .int v31)] → W p l e rm6_hide s m args below meth c H locs 0 0 Q (F0 m 184 ls [.int v33]) := by
                      intro H locs hP hD hS ls hl
                      refine lv_istore (lv' := [(5, .int v33), (0, .ref (q 0)), (1, .int a_g), (2, .int a_hour), (3, .int a_what), (4, .int x20), (6, .int y22), (7, .int y23), (9, .int v29), (10, .int v31)]) hx hb (zD_g DX6_hide 98 rfl) hl (by decide) rfl (fun ls hl => ?_)
                      refine lv_iload hx hb (zD_g DX6_hide 99 rfl) (lv_at hl 9 rfl) ?_
                      refine lv_if_eq (tgt := 196) hx hb (zD_g DX6_hide 100 rfl) (by decide) (fun c34 => ?_) (fun c34 => ?_)
                      · replace hf := z_t c34 hf
                        refine lv_iload hx hb (zD_g DX6_hide 103 rfl) (lv_at hl 6 rfl) ?_
                        refine lv_istore (lv' := [(6, .int y22), (5, .int v33), (0, .ref (q 0)), (1, .int a_g), (2, .int a_hour), (3, .int a_what), (4, .int x20), (7, .int y23), (9, .int v29), (10, .int v31)]) hx hb (zD_g DX6_hide 104 rfl) hl (by decide) rfl (fun ls hl => ?_)
                        refine lv_iinc (v := y23 + 1) (lv' := [(7, .int (y23 + 1)), (6, .int y22), (5, .int v33), (0, .ref (q 0)), (1, .int a_g), (2, .int a_hour), (3, .int a_what), (4, .int x20), (9, .int v29), (10, .int v31)]) (k := 7) hx hb (zD_g DX6_hide 105 rfl) hl rfl rfl (by decide) rfl (fun ls hl => ?_)
                        refine lv_goto (tgt := 55) hx hb (zD_g DX6_hide 106 rfl) (by decide) ?_
                        exact ih24 _ _ _ hf _ _ hP hD hS ls (lv_sub hl [3, 4, 5, 6, 7, 2, 1, 0] rfl)
                      · replace hf := z_f c34 hf
                        refine lv_iload hx hb (zD_g DX6_hide 101 rfl) (lv_at hl 8 rfl) ?_
                        refine lv_goto (tgt := 198) hx hb (zD_g DX6_hide 102 rfl) (by decide) ?_
                        refine lv_istore (lv' := [(6, .int v29), (5, .int v33), (0, .ref (q 0)), (1, .int a_g), (2, .int a_hour), (3, .int a_what), (4, .int x20), (7, .int y23), (9, .int v29), (10, .int v31)]) hx hb (zD_g DX6_hide 104 rfl) hl (by decide) rfl (fun ls hl => ?_)
                        refine lv_iinc (v := y23 + 1) (lv' := [(7, .int (y23 + 1)), (6, .int v29), (5, .int v33), (0, .ref (q 0)), (1, .int a_g), (2, .int a_hour), (3, .int a_what), (4, .int x20), (9, .int v29), (10, .int v31)]) (k := 7) hx hb (zD_g DX6_hide 105 rfl) hl rfl rfl (by decide) rfl (fun ls hl => ?_)
                        refine lv_goto (tgt := 55) hx hb (zD_g DX6_hide 106 rfl) (by decide) ?_
                        exact ih24 _ _ _ hf _ _ hP hD hS ls (lv_sub hl [3, 4, 5, 6, 7, 2, 1, 0] rfl)
                    clear hf
                    have hf := hr35
                    refine lv_if_eq (tgt := 182) hx hb (zD_g DX6_hide 94 rfl) (by decide) (fun c32 => ?_) (fun c32 => ?_)
                    · replace hf := z_t c32 hf
                      refine lv_iload hx hb (zD_g DX6_hide 97 rfl) (lv_at hl 6 rfl) ?_
                      cases hf
                      exact hJ35 _ _ hP hD hS ls (lv_sub hl [1, 2, 3, 4, 5, 7, 8, 9, 0] rfl)
                    · replace hf := z_f c32 hf
                      refine lv_iload hx hb (zD_g DX6_hide 95 rfl) (lv_at hl 8 rfl) ?_
                      refine lv_goto (tgt := 184) hx hb (zD_g DX6_hide 96 rfl) (by decide) ?_
                      cases hf
                      exact hJ35 _ _ hP hD hS ls (lv_sub hl [1, 2, 3, 4, 5, 7, 8, 9, 0] rfl)
                  clear hf
                  have hf := hr36
                  refine lv_icmp_gt (tgt := 165) hx hb (zD_g DX6_hide 78 rfl) (by decide) (fun c30 => ?_) (fun c30 => ?_)
                  · replace hf := z_t c30 hf
                    refine lv_iconst (v := (1 : Int32)) hx hb (zD_g DX6_hide 89 rfl) (by decide) ?_
                    refine lv_goto (tgt := 170) hx hb (zD_g DX6_hide 90 rfl) (by decide) ?_
                    cases hf
                    exact hJ36 _ _ hP hD hS ls (lv_sub hl [1, 2, 3, 4, 5, 6, 7, 8, 0] rfl)
                  · replace hf := z_f c30 hf
                    refine lv_iload hx hb (zD_g DX6_hide 79 rfl) (lv_at hl 9 rfl) ?_
                    refine lv_if_eq (tgt := 169) hx hb (zD_g DX6_hide 80 rfl) (by decide) (fun c37 => ?_) (fun c37 => ?_)
                    · replace hf := z_t c37 hf
                      refine lv_iconst (v := (0 : Int32)) hx hb (zD_g DX6_hide 91 rfl) (by decide) ?_
                      cases hf
                      exact hJ36 _ _ hP hD hS ls (lv_sub hl [1, 2, 3, 4, 5, 6, 7, 8, 0] rfl)
                    · replace hf := z_f c37 hf
                      refine lv_iload hx hb (zD_g DX6_hide 81 rfl) (lv_at hl 0 rfl) ?_
                      refine lv_iload hx hb (zD_g DX6_hide 82 rfl) (lv_at hl 7 rfl) ?_
                      refine lv_icmp_ne (tgt := 169) hx hb (zD_g DX6_hide 83 rfl) (by decide) (fun c38 => ?_) (fun c38 => ?_)
                      · replace hf := z_f c38 hf
                        refine lv_iconst (v := (0 : Int32)) hx hb (zD_g DX6_hide 91 rfl) (by decide) ?_
                        cases hf
                        exact hJ36 _ _ hP hD hS ls (lv_sub hl [1, 2, 3, 4, 5, 6, 7, 8, 0] rfl)
                      · replace hf := z_t c38 hf
                        refine lv_iload hx hb (zD_g DX6_hide 84 rfl) (lv_at hl 8 rfl) ?_
                        obtain ⟨r39, hc40, hf⟩ := zb1_s hf
                        refine z_Sp (As := [.int y23]) (rest := []) ⟨hx, hb, hml, hown, hts⟩ hK (c6_bits  hc40) (va_cwS 1 hts gX6_hide_X6_bits rfl rfl rfl hd6_bits ⟨Nat.le_of_ble_eq_true rfl, Nat.le_of_ble_eq_true rfl⟩) (hP.sub [] rfl) rfl hl.1 rfl rfl (Nat.le_of_ble_eq_true rfl) (zD_g DX6_hide 85 rfl) ⟨Nat.zero_le _, Nat.zero_le _⟩ ?_
                        refine lv_iload hx hb (zD_g DX6_hide 86 rfl) (lv_at hl 6 rfl) ?_
                        obtain ⟨r41, hc42, hf⟩ := zb1_s hf
                        refine z_Sp (As := [.int y21]) (rest := [.int r39]) ⟨hx, hb, hml, hown, hts⟩ hK (c6_bits  hc42) (va_cwS 1 hts gX6_hide_X6_bits rfl rfl rfl hd6_bits ⟨Nat.le_of_ble_eq_true rfl, Nat.le_of_ble_eq_true rfl⟩) (hP.sub [] rfl) rfl hl.1 rfl rfl (Nat.le_of_ble_eq_true rfl) (zD_g DX6_hide 87 rfl) ⟨Nat.zero_le _, Nat.zero_le _⟩ ?_
                        refine lv_icmp_ge (tgt := 169) hx hb (zD_g DX6_hide 88 rfl) (by decide) (fun c43 => ?_) (fun c43 => ?_)
                        · replace hf := z_t c43 hf
                          refine lv_iconst (v := (0 : Int32)) hx hb (zD_g DX6_hide 91 rfl) (by decide) ?_
                          cases hf
                          exact hJ36 _ _ hP hD hS ls (lv_sub hl [1, 2, 3, 4, 5, 6, 7, 8, 0] rfl)
                        · replace hf := z_f c43 hf
                          refine lv_iconst (v := (1 : Int32)) hx hb (zD_g DX6_hide 89 rfl) (by decide) ?_
                          refine lv_goto (tgt := 170) hx hb (zD_g DX6_hide 90 rfl) (by decide) ?_
                          cases hf
                          exact hJ36 _ _ hP hD hS ls (lv_sub hl [1, 2, 3, 4, 5, 6, 7, 8, 0] rfl)
                clear hf
                have hf := hr44
                refine lv_if_eq (tgt := 130) hx hb (zD_g DX6_hide 67 rfl) (by decide) (fun c28 => ?_) (fun c28 => ?_)
                · replace hf := z_t c28 hf
                  refine lv_iconst (v := (-1 : Int32)) hx hb (zD_g DX6_hide 74 rfl) (by decide) ?_
                  cases hf
                  exact hJ44 _ _ hP hD hS ls (lv_sub hl [1, 2, 3, 4, 5, 6, 7, 8, 0] rfl)
                · replace hf := z_f c28 hf
                  refine lv_aload_n hx hb (zD_g DX6_hide 68 rfl) rfl (lv_at hl 1 rfl) ?_
                  refine lv_iload_n hx hb (zD_g DX6_hide 69 rfl) rfl (lv_at hl 2 rfl) ?_
                  refine lv_iload hx hb (zD_g DX6_hide 70 rfl) (lv_at hl 8 rfl) ?_
                  refine lv_iload_n hx hb (zD_g DX6_hide 71 rfl) rfl (lv_at hl 3 rfl) ?_
                  obtain ⟨r45, hc46, hf⟩ := zb1_s hf
                  refine z_Vp (As := [.int a_g, .int y23, .int a_hour]) (rest := []) ⟨hx, hb, hml, hown, hts⟩ hK (c6_loses (quiet := quiet) (mabove := mabove) (mbelow := mbelow) (typed := typed) (mat := mat) (mstart := mstart) (mtoken := mtoken) (mvalue := mvalue) (many := many) (book := book) (images := images) (mkept := mkept) (aside := aside) (refused := refused) (text := text) (items := items) (drawn := drawn) (row := row) (best := best) (q := q) hc46) (cwV 3 hts gX6_hide_X6_loses rfl rfl rfl hd6_loses ⟨Nat.le_of_ble_eq_true rfl, Nat.le_of_ble_eq_true rfl⟩) hP rfl rfl rfl rfl hl.1 rfl rfl (Nat.le_of_ble_eq_true rfl) (zD_g DX6_hide 72 rfl) ⟨Nat.zero_le _, Nat.zero_le _⟩ ?_
                  refine lv_goto (tgt := 131) hx hb (zD_g DX6_hide 73 rfl) (by decide) ?_
                  cases hf
                  exact hJ44 _ _ hP hD hS ls (lv_sub hl [1, 2, 3, 4, 5, 6, 7, 8, 0] rfl)
              clear hf
              have hf := hr47
              refine lv_if_ne (tgt := 111) hx hb (zD_g DX6_hide 45 rfl) (by decide) (fun c26 => ?_) (fun c26 => ?_)
              · replace hf := z_f c26 hf
                refine lv_iconst (v := (0 : Int32)) hx hb (zD_g DX6_hide 64 rfl) (by decide) ?_
                cases hf
                exact hJ47 _ _ hP hD hS ls (lv_sub hl [0, 1, 2, 3, 4, 5, 6, 7] rfl)
              · replace hf := z_t c26 hf
                refine lv_aload_n hx hb (zD_g DX6_hide 46 rfl) rfl (lv_at hl 0 rfl) ?_
                refine lv_iload hx hb (zD_g DX6_hide 47 rfl) (lv_at hl 7 rfl) ?_
                refine lv_iconst (v := (0 : Int32)) hx hb (zD_g DX6_hide 48 rfl) (by decide) ?_
                obtain ⟨r48, hc49, hf⟩ := zb1_s hf
                refine z_Vp (As := [.int y23, .int (0 : Int32)]) (rest := []) ⟨hx, hb, hml, hown, hts⟩ hK (c6_sumOf (quiet := quiet) (mabove := mabove) (mbelow := mbelow) (typed := typed) (mat := mat) (mstart := mstart) (mtoken := mtoken) (mvalue := mvalue) (many := many) (book := book) (images := images) (mkept := mkept) (aside := aside) (refused := refused) (text := text) (items := items) (drawn := drawn) (row := row) (best := best) (q := q) hc49) (cwV 2 hts gX6_hide_X6_sumOf rfl rfl rfl hd6_sumOf ⟨Nat.le_of_ble_eq_true rfl, Nat.le_of_ble_eq_true rfl⟩) hP rfl rfl rfl rfl hl.1 rfl rfl (Nat.le_of_ble_eq_true rfl) (zD_g DX6_hide 49 rfl) ⟨Nat.zero_le _, Nat.zero_le _⟩ ?_
                refine lv_aload_n hx hb (zD_g DX6_hide 50 rfl) rfl (lv_at hl 0 rfl) ?_
                refine va_get (D := D) (ci := 5) (v := .ref (q 1)) (C := RX6) (T := TX6) (N := 19) hx hb hts in6_hide_6 hown hK.1 hP 0 rfl rfl 0 (by decide) (hts _ (List.mem_of_getElem? (i := 1) rfl)) (fun _ h9 => h9) rfl (zD_g DX6_hide 51 rfl) ?_
                refine lv_bipush (v := (56 : Int32)) hx hb (zD_g DX6_hide 52 rfl) (by decide) ?_
                refine lv_iload_n hx hb (zD_g DX6_hide 53 rfl) rfl (lv_at hl 1 rfl) ?_
                refine lv_iadd hx hb (zD_g DX6_hide 54 rfl) ?_
                obtain ⟨h50, hf⟩ := zg_s hf
                refine z_iald (k := ((56 : Int32) + a_g).toNatClampNeg) hx hb hK.1 hP 1 0 rfl rfl h50 rfl (zD_g DX6_hide 55 rfl) ?_
                refine lv_icmp_gt (tgt := 111) hx hb (zD_g DX6_hide 56 rfl) (by decide) (fun c51 => ?_) (fun c51 => ?_)
                · replace hf := z_t c51 hf
                  refine lv_iconst (v := (0 : Int32)) hx hb (zD_g DX6_hide 64 rfl) (by decide) ?_
                  cases hf
                  exact hJ47 _ _ hP hD hS ls (lv_sub hl [0, 1, 2, 3, 4, 5, 6, 7] rfl)
                · replace hf := z_f c51 hf
                  refine lv_aload_n hx hb (zD_g DX6_hide 57 rfl) rfl (lv_at hl 0 rfl) ?_
                  refine lv_iload_n hx hb (zD_g DX6_hide 58 rfl) rfl (lv_at hl 1 rfl) ?_
                  refine lv_iload hx hb (zD_g DX6_hide 59 rfl) (lv_at hl 7 rfl) ?_
                  obtain ⟨r52, hc53, hf⟩ := zb1_s hf
                  refine z_Vp (As := [.int a_g, .int y23]) (rest := []) ⟨hx, hb, hml, hown, hts⟩ hK (c6_passes (quiet := quiet) (mabove := mabove) (mbelow := mbelow) (typed := typed) (mat := mat) (mstart := mstart) (mtoken := mtoken) (mvalue := mvalue) (many := many) (book := book) (images := images) (mkept := mkept) (aside := aside) (refused := refused) (text := text) (items := items) (drawn := drawn) (row := row) (best := best) (q := q) hc53) (cwV 2 hts gX6_hide_X6_passes rfl rfl rfl hd6_passes ⟨Nat.le_of_ble_eq_true rfl, Nat.le_of_ble_eq_true rfl⟩) hP rfl rfl rfl rfl hl.1 rfl rfl (Nat.le_of_ble_eq_true rfl) (zD_g DX6_hide 60 rfl) ⟨Nat.zero_le _, Nat.zero_le _⟩ ?_
                  refine lv_if_eq (tgt := 111) hx hb (zD_g DX6_hide 61 rfl) (by decide) (fun c54 => ?_) (fun c54 => ?_)
                  · replace hf := z_t c54 hf
                    refine lv_iconst (v := (0 : Int32)) hx hb (zD_g DX6_hide 64 rfl) (by decide) ?_
                    cases hf
                    exact hJ47 _ _ hP hD hS ls (lv_sub hl [0, 1, 2, 3, 4, 5, 6, 7] rfl)
                  · replace hf := z_f c54 hf
                    refine lv_iconst (v := (1 : Int32)) hx hb (zD_g DX6_hide 62 rfl) (by decide) ?_
                    refine lv_goto (tgt := 112) hx hb (zD_g DX6_hide 63 rfl) (by decide) ?_
                    cases hf
                    exact hJ47 _ _ hP hD hS ls (lv_sub hl [0, 1, 2, 3, 4, 5, 6, 7] rfl)
        refine hL24 _ (fun y55 y56 hf H locs hP hD hS ls hl => ?_) _ _ _ _ hf _ _ hP hD hS ls (lv_sub hl [4, 5, 6, 7, 3, 2, 1, 0] rfl)
        refine lv_iload_n hx hb (zD_g DX6_hide 107 rfl) rfl (lv_at hl 0 rfl) ?_
        refine lv_if_ne (tgt := 215) hx hb (zD_g DX6_hide 108 rfl) (by decide) (fun c57 => ?_) (fun c57 => ?_)
        · replace hf := z_f c57 hf
          refine lv_iload hx hb (zD_g DX6_hide 111 rfl) (lv_at hl 2 rfl) ?_
          cases hf
          exact hret _ _ _ _ hP hD hS (zD_g DX6_hide 112 rfl)
        · replace hf := z_t c57 hf
          refine lv_iload hx hb (zD_g DX6_hide 109 rfl) (lv_at hl 1 rfl) ?_
          refine lv_goto (tgt := 217) hx hb (zD_g DX6_hide 110 rfl) (by decide) ?_
          cases hf
          exact hret _ _ _ _ hP hD hS (zD_g DX6_hide 112 rfl)
      · replace hf := z_t c15 hf
        refine lv_aload_n hx hb (zD_g DX6_hide 13 rfl) rfl (lv_at hl 0 rfl) ?_
        refine lv_iconst (v := (0 : Int32)) hx hb (zD_g DX6_hide 14 rfl) (by decide) ?_
        refine lv_bipush (v := (-10 : Int32)) hx hb (zD_g DX6_hide 15 rfl) (by decide) ?_
        obtain ⟨r58, refused_59, hc60, hf⟩ := zb2_s hf
        refine z_Vm (As := [.int (0 : Int32), .int (-10 : Int32)]) (rest := []) (ws' := (cMod cI cZ q quiet mabove mbelow typed mat mstart mtoken mvalue many book images mkept aside refused_59 text items drawn row best)) ⟨hx, hb, hml, hown, hts⟩ hK (c6_refuses (quiet := quiet) (mabove := mabove) (mbelow := mbelow) (typed := typed) (mat := mat) (mstart := mstart) (mtoken := mtoken) (mvalue := mvalue) (many := many) (book := book) (images := images) (mkept := mkept) (aside := aside) (refused := refused) (text := text) (items := items) (drawn := drawn) (row := row) (best := best) (q := q) hc60) (cwV 2 hts gX6_hide_X6_refuses rfl rfl rfl hd6_refuses ⟨Nat.le_of_ble_eq_true rfl, Nat.le_of_ble_eq_true rfl⟩) hP hD hS hA 11 [0, 1, 2, 3, 4, 5, 6, 7, 8, 9, 10] [] [0, 1, 2, 3, 4, 5, 6, 7, 8, 9, 10] (by decide +kernel) rfl rfl rfl rfl rfl rfl rfl hl.1 rfl rfl (Nat.le_of_ble_eq_true rfl) (zD_g DX6_hide 16 rfl) ⟨Nat.zero_le _, Nat.zero_le _⟩ (fun H locs hP hD hS => ?_)
        cases hf
        exact hret _ _ _ _ hP hD hS (zD_g DX6_hide 17 rfl)
abbrev dlX6_wide : List (Nat × Instr × Nat) := [(0, .iload_n 1, 1), (1, .invokestatic 73, 3), (4, .ifCond .eq 13, 3), (7, .iload_n 2, 1), (8, .i2l, 1), (9, .lconst 0, 1), (10, .lconst 1, 1), (11, .invokestatic 56, 3), (14, .ifCond .ne 8, 3), (17, .aload_n 0, 1), (18, .invokevirtual 66, 3), (21, .ireturn, 1), (22, .bipush 74, 2), (24, .iconst 3, 1), (25, .iconst 1, 1), (26, .iload_n 1, 1), (27, .isub, 1), (28, .imul, 1), (29, .iadd, 1), (30, .iload_n 2, 1), (31, .iadd, 1), (32, .istore_n 3, 1), (33, .aload_n 0, 1), (34, .getfield 7, 3), (37, .iload_n 3, 1), (38, .iaload, 1), (39, .istore 4, 2), (41, .iconst (-1), 1), (42, .istore 5, 2), (44, .iload_n 2, 1), (45, .ifCond .ne 8, 3), (48, .bipush 30, 2), (50, .goto 5, 3), (53, .bipush 50, 2), (55, .istore 6, 2), (57, .iload 6, 2), (59, .ifCond .lt 104, 3), (62, .aload_n 0, 1), (63, .getfield 7, 3), (66, .iload_n 3, 1), (67, .iload 6, 2), (69, .iastore, 1), (70, .iconst 1, 1), (71, .istore 7, 2), (73, .iconst 0, 1), (74, .istore 8, 2), (76, .iload 8, 2), (78, .aload_n 0, 1), (79, .getfield 7, 3), (82, .iconst 1, 1), (83, .iaload, 1), (84, .if_icmp .ge 59, 3), (87, .aload_n 0, 1), (88, .iload 8, 2), (90, .invokevirtual 87, 3), (93, .istore 9, 2), (95, .iload 7, 2), (97, .ifCond .eq 37, 3), (100, .aload_n 0, 1), (101, .getfield 7, 3), (104, .bipush 68, 2), (106, .iload 8, 2), (108, .iadd, 1), (109, .iaload, 1), (110, .iload_n 1, 1), (111, .if_icmp .ne 19, 3), (114, .iload 9, 2), (116, .ifCond .eq 14, 3), (119, .aload_n 0, 1), (120, .iload 8, 2), (122, .iload 9, 2), (124, .invokevirtual 203, 3), (127, .ifCond .eq 7, 3), (130, .iconst 1, 1), (131, .goto 4, 3), (134, .iconst 0, 1), (135, .istore 7, 2), (137, .iinc 8 1, 3), (140, .goto (-64), 3), (143, .iload 7, 2), (145, .ifCond .eq 8, 3), (148, .iload 6, 2), (150, .goto 5, 3), (153, .iload 5, 2), (155, .istore 5, 2), (157, .iinc 6 (-1), 3), (160, .goto (-103), 3), (163, .aload_n 0, 1), (164, .getfield 7, 3), (167, .iload_n 3, 1), (168, .iload 4, 2), (170, .iastore, 1), (171, .iload 5, 2), (173, .ireturn, 1)]
theorem DX6_wide : zD cX6_wide dlX6_wide = true := by decide +kernel
set_option maxRecDepth 20000 in
theorem ggX6_wide_X6_isCity : GoodIn wsX6_wide wsX6_isCity := goodIn_r _ [5, 6, 7, 4, 8] (by decide +kernel) (by decide +kernel)
set_option maxRecDepth 20000 in
theorem gX6_wide_X6_isCity : GoodIn wsX6_wide (va_wsS RX6 73 yX6_isCity wsX6_isCity) := goodIn_app (goodIn_of _ (by decide +kernel)) ggX6_wide_X6_isCity
set_option maxRecDepth 20000 in
theorem ggX6_wide_X6_in : GoodIn wsX6_wide wsX6_in := goodIn_r _ [8] (by decide +kernel) (by decide +kernel)
set_option maxRecDepth 20000 in
theorem gX6_wide_X6_in : GoodIn wsX6_wide (va_wsS RX6 56 yX6_in wsX6_in) := goodIn_app (goodIn_of _ (by decide +kernel)) ggX6_wide_X6_in
set_option maxRecDepth 20000 in
theorem ggX6_wide_X6_bad : GoodIn wsX6_wide wsX6_bad := goodIn_r _ [12, 13, 14, 15, 4, 16, 17, 18, 51, 52, 53, 54, 55, 56, 57, 58, 59, 60, 61, 62, 63, 64, 65, 66, 67, 68, 69] (by decide +kernel) (by decide +kernel)
set_option maxRecDepth 20000 in
theorem gX6_wide_X6_bad : GoodIn wsX6_wide (wsV RX6 66 RX6 yX6_bad wsX6_bad) := goodIn_app (goodIn_of _ (by decide +kernel)) ggX6_wide_X6_bad
set_option maxRecDepth 20000 in
theorem ggX6_wide_X6_thingsIn : GoodIn wsX6_wide wsX6_thingsIn := goodIn_r _ [22, 1, 51, 52, 53, 54, 55, 56, 57, 58, 59, 60, 61, 62, 63, 64, 65, 66, 67, 68, 69] (by decide +kernel) (by decide +kernel)
set_option maxRecDepth 20000 in
theorem gX6_wide_X6_thingsIn : GoodIn wsX6_wide (wsV RX6 87 RX6 yX6_thingsIn wsX6_thingsIn) := goodIn_app (goodIn_of _ (by decide +kernel)) ggX6_wide_X6_thingsIn
set_option maxRecDepth 20000 in
theorem ggX6_wide_X6_passes : GoodIn wsX6_wide wsX6_passes := goodIn_r _ [26, 1, 27, 28, 29, 4, 30, 31, 32, 33, 34, 35, 36, 37, 38, 39, 40, 41, 42, 43, 44, 45, 46, 47, 48, 49, 50, 51, 52, 53, 54, 55, 56, 57, 58, 59, 60, 61, 62, 63, 64, 65, 66, 67, 68, 69] (by decide +kernel) (by decide +kernel)
set_option maxRecDepth 20000 in
theorem gX6_wide_X6_passes : GoodIn wsX6_wide (wsV RX6 203 RX6 yX6_passes wsX6_passes) := goodIn_app (goodIn_of _ (by decide +kernel)) ggX6_wide_X6_passes
theorem hd6_wide : yX6_wide.cls = RX6 ∧ yX6_wide.cls ≠ "java/lang/invoke/MethodHandle" ∧ yX6_wide.cls ≠ "java/lang/invoke/VarHandle" ∧ (parseMethodDescriptor yX6_wide.desc).map (fun d => d.parameters.length) = some 2 := by decide +kernel
abbrev rm6_wide : Room := { frames := 4, cells := 0, slots := 0, locals := 93 }
theorem in6_wide_6 : ∀ w ∈ wsX60, w ∈ wsX6_wide := fun w h => List.mem_cons_of_mem _ (List.mem_append_right _ h)
set_option maxHeartbeats 4000000 in
set_option maxRecDepth 100000 in
theorem c6_wide {l : Launch} {D : va_G} {cI cZ cB : ClassId} {q : Nat → Nat} {sz : Nat} {quiet : Int32} {mabove : Int64} {mbelow : Int64} {typed : Int32} {mat : Int32} {mstart : Int32} {mtoken : Int32} {mvalue : Int32} {many : Int32} {book : Nat → Int32} {images : Nat → Int32} {mkept : Nat → Int32} {aside : Nat → Int32} {refused : Nat → Int32} {text : Nat → Int32} {items : Nat → Int32} {drawn : Nat → Int32} {row : Nat → Int32} {best : Nat → Int32} {a_c : Int32} {a_what : Int32} {r : Int32} {d_book : Nat → Int32} {d_refused : Nat → Int32} (hf : f6_wide quiet book refused a_c a_what = some (r, d_book, d_refused)) : Met l yX6_wide wsX6_wide rm6_wide (zPm D cI cZ cB [.ref (q 0), .int a_c, .int a_what] sz (cMod cI cZ q quiet mabove mbelow typed mat mstart mtoken mvalue many book images mkept aside refused text items drawn row best)) (zQm D (some (.int r)) (cMod cI cZ q quiet mabove mbelow typed mat mstart mtoken mvalue many d_book images mkept aside d_refused text items drawn row best) (va_A (cMod cI cZ q quiet mabove mbelow typed mat mstart mtoken mvalue many book images mkept aside refused text items drawn row best) sz)) 0 0 (va_A (cMod cI cZ q quiet mabove mbelow typed mat mstart mtoken mvalue many book images mkept aside refused text items drawn row best) sz) := by
  unfold f6_wide at hf
  refine z_mutI RX6 (by decide +kernel) rfl rfl (Nat.le_of_ble_eq_true rfl) ?_
  intro p e s m args below meth c Q A ls hx hb hml hown hts hK hP hD hS hA hret hl
  have hl : lv_has ls 10 [(0, .ref (q 0)), (1, .int a_c), (2, .int a_what)] := hl
  refine lv_iload_n hx hb (zD_g DX6_wide 0 rfl) rfl (lv_at hl 1 rfl) ?_
  obtain ⟨r1, hc2, hf⟩ := zb1_s hf
  refine z_Sp (As := [.int a_c]) (rest := []) ⟨hx, hb, hml, hown, hts⟩ hK (c6_isCity  hc2) (va_cwS 1 hts gX6_wide_X6_isCity rfl rfl rfl hd6_isCity ⟨Nat.le_of_ble_eq_true rfl, Nat.le_of_ble_eq_true rfl⟩) (hP.sub [] rfl) rfl hl.1 rfl rfl (Nat.le_of_ble_eq_true rfl) (zD_g DX6_wide 1 rfl) ⟨Nat.zero_le _, Nat.zero_le _⟩ ?_
  refine lv_if_eq (tgt := 17) hx hb (zD_g DX6_wide 2 rfl) (by decide) (fun c3 => ?_) (fun c3 => ?_)
  · replace hf := z_t c3 hf
    refine lv_aload_n hx hb (zD_g DX6_wide 9 rfl) rfl (lv_at hl 0 rfl) ?_
    obtain ⟨r4, refused_5, hc6, hf⟩ := zb2_s hf
    refine z_Vm (As := []) (rest := []) (ws' := (cMod cI cZ q quiet mabove mbelow typed mat mstart mtoken mvalue many book images mkept aside refused_5 text items drawn row best)) ⟨hx, hb, hml, hown, hts⟩ hK (c6_bad (quiet := quiet) (mabove := mabove) (mbelow := mbelow) (typed := typed) (mat := mat) (mstart := mstart) (mtoken := mtoken) (mvalue := mvalue) (many := many) (book := book) (images := images) (mkept := mkept) (aside := aside) (refused := refused) (text := text) (items := items) (drawn := drawn) (row := row) (best := best) (q := q) hc6) (cwV 0 hts gX6_wide_X6_bad rfl rfl rfl hd6_bad ⟨Nat.le_of_ble_eq_true rfl, Nat.le_of_ble_eq_true rfl⟩) hP hD hS hA 11 [0, 1, 2, 3, 4, 5, 6, 7, 8, 9, 10] [] [0, 1, 2, 3, 4, 5, 6, 7, 8, 9, 10] (by decide +kernel) rfl rfl rfl rfl rfl rfl rfl hl.1 rfl rfl (Nat.le_of_ble_eq_true rfl) (zD_g DX6_wide 10 rfl) ⟨Nat.zero_le _, Nat.zero_le _⟩ (fun H locs hP hD hS => ?_)
    cases hf
    exact hret _ _ _ _ hP hD hS (zD_g DX6_wide 11 rfl)
  · replace hf := z_f c3 hf
    refine lv_iload_n hx hb (zD_g DX6_wide 3 rfl) rfl (lv_at hl 2 rfl) ?_
    refine lv_i2l (v := (a_what).toInt64) hx hb (zD_g DX6_wide 4 rfl) rfl ?_
    refine lv_lconst (v := (0 : Int64)) hx hb (zD_g DX6_wide 5 rfl) (by decide) ?_
    refine lv_lconst (v := (1 : Int64)) hx hb (zD_g DX6_wide 6 rfl) (by decide) ?_
    obtain ⟨r7, hc8, hf⟩ := zb1_s hf
    refine z_Sp (As := [.long ((a_what).toInt64), .long (0 : Int64), .long (1 : Int64)]) (rest := []) ⟨hx, hb, hml, hown, hts⟩ hK (c6_in  hc8) (va_cwS 3 hts gX6_wide_X6_in rfl rfl rfl hd6_in ⟨Nat.le_of_ble_eq_true rfl, Nat.le_of_ble_eq_true rfl⟩) (hP.sub [] rfl) rfl hl.1 rfl rfl (Nat.le_of_ble_eq_true rfl) (zD_g DX6_wide 7 rfl) ⟨Nat.zero_le _, Nat.zero_le _⟩ ?_
    refine lv_if_ne (tgt := 22) hx hb (zD_g DX6_wide 8 rfl) (by decide) (fun c9 => ?_) (fun c9 => ?_)
    · replace hf := z_f c9 hf
      refine lv_bipush (v := (74 : Int32)) hx hb (zD_g DX6_wide 12 rfl) (by decide) ?_
      refine lv_iconst (v := (3 : Int32)) hx hb (zD_g DX6_wide 13 rfl) (by decide) ?_
      refine lv_iconst (v := (1 : Int32)) hx hb (zD_g DX6_wide 14 rfl) (by decide) ?_
      refine lv_iload_n hx hb (zD_g DX6_wide 15 rfl) rfl (lv_at hl 1 rfl) ?_
      refine lv_isub hx hb (zD_g DX6_wide 16 rfl) ?_
      refine lv_imul hx hb (zD_g DX6_wide 17 rfl) ?_
      refine lv_iadd hx hb (zD_g DX6_wide 18 rfl) ?_
      refine lv_iload_n hx hb (zD_g DX6_wide 19 rfl) rfl (lv_at hl 2 rfl) ?_
      refine lv_iadd hx hb (zD_g DX6_wide 20 rfl) ?_
      refine lv_topi (fun x10 ex10 => ?_)
      replace hf := zl_s hf x10 ex10
      refine lv_istore_n (lv' := [(3, .int x10), (0, .ref (q 0)), (1, .int a_c), (2, .int a_what)]) hx hb (zD_g DX6_wide 21 rfl) rfl hl (by decide) rfl (fun ls hl => ?_)
      refine lv_aload_n hx hb (zD_g DX6_wide 22 rfl) rfl (lv_at hl 1 rfl) ?_
      refine va_get (D := D) (ci := 5) (v := .ref (q 1)) (C := RX6) (T := TX6) (N := 19) hx hb hts in6_wide_6 hown hK.1 hP 0 rfl rfl 0 (by decide) (hts _ (List.mem_of_getElem? (i := 1) rfl)) (fun _ h9 => h9) rfl (zD_g DX6_wide 23 rfl) ?_
      refine lv_iload_n hx hb (zD_g DX6_wide 24 rfl) rfl (lv_at hl 0 rfl) ?_
      obtain ⟨h11, hf⟩ := zg_s hf
      refine z_iald (k := x10.toNatClampNeg) hx hb hK.1 hP 1 0 rfl rfl h11 rfl (zD_g DX6_wide 25 rfl) ?_
      refine lv_topi (fun x12 ex12 => ?_)
      replace hf := zl_s hf x12 ex12
      refine lv_istore (lv' := [(4, .int x12), (3, .int x10), (0, .ref (q 0)), (1, .int a_c), (2, .int a_what)]) hx hb (zD_g DX6_wide 26 rfl) hl (by decide) rfl (fun ls hl => ?_)
      refine lv_iconst (v := (-1 : Int32)) hx hb (zD_g DX6_wide 27 rfl) (by decide) ?_
      refine lv_istore (lv' := [(5, .int (-1 : Int32)), (4, .int x12), (3, .int x10), (0, .ref (q 0)), (1, .int a_c), (2, .int a_what)]) hx hb (zD_g DX6_wide 28 rfl) hl (by decide) rfl (fun ls hl => ?_)
      refine lv_iload_n hx hb (zD_g DX6_wide 29 rfl) rfl (lv_at hl 5 rfl) ?_
      obtain ⟨v14, hr39, hf⟩ := zb1_s hf
      have hJ39 : ∀ (H : Heap) (locs : List Loc), va_P D vwCl (cMod cI cZ q quiet mabove mbelow typed mat mstart mtoken mvalue many book images mkept aside refused text items drawn row best) H → va_D A (cMod cI cZ q quiet mabove mbelow typed mat mstart mtoken mvalue many book images mkept aside refused text items drawn row best) → va_S A s.heap H locs → ∀ (ls : Array Slot), lv_has ls 10 [(0, .ref (q 0)), (1, .int a_c), (3, .int x10), (4, .int x12), (5, .int (-1 : Int32))] → W p l e rm6_wide s m args below meth c H locs 0 0 Q (F0 m 55 ls [.int v14]) := by
        intro H locs hP hD hS ls hl
        refine lv_istore (lv' := [(6, .int v14), (0, .ref (q 0)), (1, .int a_c), (3, .int x10), (4, .int x12), (5, .int (-1 : Int32))]) hx hb (zD_g DX6_wide 34 rfl) hl (by decide) rfl (fun ls hl => ?_)
        have hL18 : ∀ (k18 : Int32 → (Nat → Int32) → Option (Int32 × (Nat → Int32) × (Nat → Int32))) (hk18 : ∀ (y36 : Int32) (book_37 : Nat → Int32), k18 y36 book_37 = some (r, d_book, d_refused) → ∀ (H : Heap) (locs : List Loc), va_P D vwCl (cMod cI cZ q quiet mabove mbelow typed mat mstart mtoken mvalue many book_37 images mkept aside refused text items drawn row best) H → va_D A (cMod cI cZ q quiet mabove mbelow typed mat mstart mtoken mvalue many book_37 images mkept aside refused text items drawn row best) → va_S A s.heap H locs → ∀ (ls : Array Slot), lv_has ls 10 [(0, .ref (q 0)), (3, .int x10), (4, .int x12), (5, .int y36)] → W p l e rm6_wide s m args below meth c H locs 0 0 Q (F0 m 163 ls [])) (n18 : Nat) (y15 : Int32) (y16 : Int32) (book_17 : Nat → Int32), L6_wide_57 k18 a_c x10 n18 y15 y16 book_17 = some (r, d_book, d_refused) → ∀ (H : Heap) (locs : List Loc), va_P D vwCl (cMod cI cZ q quiet mabove mbelow typed mat mstart mtoken mvalue many book_17 images mkept aside refused text items drawn row best) H → va_D A (cMod cI cZ q quiet mabove mbelow typed mat mstart mtoken mvalue many book_17 images mkept aside refused text items drawn row best) → va_S A s.heap H locs → ∀ (ls : Array Slot), lv_has ls 10 [(0, .ref (q 0)), (1, .int a_c), (3, .int x10), (4, .int x12), (5, .int y15), (6, .int y16)] → W p l e rm6_wide s m args below meth c H locs 0 0 Q (F0 m 57 ls []) := by
          intro k18 hk18 n18
          induction n18 with
          | zero =>
            intro y15 y16 book_17 hf
            cases hf
          | succ n18 ih18 =>
            intro y15 y16 book_17 hf H locs hP hD hS ls hl
            rw [L6_wide_57] at hf
            refine lv_iload hx hb (zD_g DX6_wide 35 rfl) (lv_at hl 5 rfl) ?_
            refine lv_if_lt (tgt := 163) hx hb (zD_g DX6_wide 36 rfl) (by decide) (fun c19 => ?_) (fun c19 => ?_)
            · replace hf := z_t c19 hf
              exact hk18 _ _ hf _ _ hP hD hS ls (lv_sub hl [0, 2, 3, 4] rfl)
            · replace hf := z_f c19 hf
              refine lv_aload_n hx hb (zD_g DX6_wide 37 rfl) rfl (lv_at hl 0 rfl) ?_
              refine va_get (D := D) (ci := 5) (v := .ref (q 1)) (C := RX6) (T := TX6) (N := 19) hx hb hts in6_wide_6 hown hK.1 hP 0 rfl rfl 0 (by decide) (hts _ (List.mem_of_getElem? (i := 1) rfl)) (fun _ h9 => h9) rfl (zD_g DX6_wide 38 rfl) ?_
              refine lv_iload_n hx hb (zD_g DX6_wide 39 rfl) rfl (lv_at hl 2 rfl) ?_
              refine lv_iload hx hb (zD_g DX6_wide 40 rfl) (lv_at hl 5 rfl) ?_
              obtain ⟨h20, hf⟩ := zg_s hf
              refine z_iast (k := x10.toNatClampNeg) (ws' := (cMod cI cZ q quiet mabove mbelow typed mat mstart mtoken mvalue many (upd book_17 x10.toNatClampNeg y16) images mkept aside refused text items drawn row best)) hx hb hK.1 hP hD hS 1 0 rfl rfl h20 rfl rfl (zD_g DX6_wide 41 rfl) (fun H locs hP hD hS => ?_)
              refine lv_iconst (v := (1 : Int32)) hx hb (zD_g DX6_wide 42 rfl) (by decide) ?_
              refine lv_istore (lv' := [(7, .int (1 : Int32)), (0, .ref (q 0)), (1, .int a_c), (3, .int x10), (4, .int x12), (5, .int y15), (6, .int y16)]) hx hb (zD_g DX6_wide 43 rfl) hl (by decide) rfl (fun ls hl => ?_)
              refine lv_iconst (v := (0 : Int32)) hx hb (zD_g DX6_wide 44 rfl) (by decide) ?_
              refine lv_istore (lv' := [(8, .int (0 : Int32)), (7, .int (1 : Int32)), (0, .ref (q 0)), (1, .int a_c), (3, .int x10), (4, .int x12), (5, .int y15), (6, .int y16)]) hx hb (zD_g DX6_wide 45 rfl) hl (by decide) rfl (fun ls hl => ?_)
              have hL23 : ∀ (k23 : Int32 → Option (Int32 × (Nat → Int32) × (Nat → Int32))) (hk23 : ∀ (y34 : Int32), k23 y34 = some (r, d_book, d_refused) → ∀ (H : Heap) (locs : List Loc), va_P D vwCl (cMod cI cZ q quiet mabove mbelow typed mat mstart mtoken mvalue many (upd book_17 x10.toNatClampNeg y16) images mkept aside refused text items drawn row best) H → va_D A (cMod cI cZ q quiet mabove mbelow typed mat mstart mtoken mvalue many (upd book_17 x10.toNatClampNeg y16) images mkept aside refused text items drawn row best) → va_S A s.heap H locs → ∀ (ls : Array Slot), lv_has ls 10 [(0, .ref (q 0)), (1, .int a_c), (3, .int x10), (4, .int x12), (5, .int y15), (6, .int y16), (7, .int y34)] → W p l e rm6_wide s m args below meth c H locs 0 0 Q (F0 m 143 ls [])) (n23 : Nat) (y21 : Int32) (y22 : Int32), L6_wide_76 k23 a_c x10 y16 book_17 n23 y21 y22 = some (r, d_book, d_refused) → ∀ (H : Heap) (locs : List Loc), va_P D vwCl (cMod cI cZ q quiet mabove mbelow typed mat mstart mtoken mvalue many (upd book_17 x10.toNatClampNeg y16) images mkept aside refused text items drawn row best) H → va_D A (cMod cI cZ q quiet mabove mbelow typed mat mstart mtoken mvalue many (upd book_17 x10.toNatClampNeg y16) images mkept aside refused text items drawn row best) → va_S A s.heap H locs → ∀ (ls : Array Slot), lv_has ls 10 [(0, .ref (q 0)), (1, .int a_c), (3, .int x10), (4, .int x12), (5, .int y15), (6, .int y16), (7, .int y21), (8, .int y22)] → W p l e rm6_wide s m args below meth c H locs 0 0 Q (F0 m 76 ls []) := by
                intro k23 hk23 n23
                induction n23 with
                | zero =>
                  intro y21 y22 hf
                  cases hf
                | succ n23 ih23 =>
                  intro y21 y22 hf H locs hP hD hS ls hl
                  rw [L6_wide_76] at hf
                  refine lv_iload hx hb (zD_g DX6_wide 46 rfl) (lv_at hl 7 rfl) ?_
                  refine lv_aload_n hx hb (zD_g DX6_wide 47 rfl) rfl (lv_at hl 0 rfl) ?_
                  refine va_get (D := D) (ci := 5) (v := .ref (q 1)) (C := RX6) (T := TX6) (N := 19) hx hb hts in6_wide_6 hown hK.1 hP 0 rfl rfl 0 (by decide) (hts _ (List.mem_of_getElem? (i := 1) rfl)) (fun _ h9 => h9) rfl (zD_g DX6_wide 48 rfl) ?_
                  refine lv_iconst (v := (1 : Int32)) hx hb (zD_g DX6_wide 49 rfl) (by decide) ?_
                  refine z_iald (k := 1) hx hb hK.1 hP 1 0 rfl rfl (by unfold vp_in; decide) rfl (zD_g DX6_wide 50 rfl) ?_
                  refine lv_icmp_ge (tgt := 143) hx hb (zD_g DX6_wide 51 rfl) (by decide) (fun c24 => ?_) (fun c24 => ?_)
                  · replace hf := z_t c24 hf
                    exact hk23 _ hf _ _ hP hD hS ls (lv_sub hl [0, 1, 2, 3, 4, 5, 6] rfl)
                  · replace hf := z_f c24 hf
                    refine lv_aload_n hx hb (zD_g DX6_wide 52 rfl) rfl (lv_at hl 0 rfl) ?_
                    refine lv_iload hx hb (zD_g DX6_wide 53 rfl) (lv_at hl 7 rfl) ?_
                    obtain ⟨r25, hc26, hf⟩ := zb1_s hf
                    refine z_Vp (As := [.int y22]) (rest := []) ⟨hx, hb, hml, hown, hts⟩ hK (c6_thingsIn (quiet := quiet) (mabove := mabove) (mbelow := mbelow) (typed := typed) (mat := mat) (mstart := mstart) (mtoken := mtoken) (mvalue := mvalue) (many := many) (book := (upd book_17 x10.toNatClampNeg y16)) (images := images) (mkept := mkept) (aside := aside) (refused := refused) (text := text) (items := items) (drawn := drawn) (row := row) (best := best) (q := q) hc26) (cwV 1 hts gX6_wide_X6_thingsIn rfl rfl rfl hd6_thingsIn ⟨Nat.le_of_ble_eq_true rfl, Nat.le_of_ble_eq_true rfl⟩) hP rfl rfl rfl rfl hl.1 rfl rfl (Nat.le_of_ble_eq_true rfl) (zD_g DX6_wide 54 rfl) ⟨Nat.zero_le _, Nat.zero_le _⟩ ?_
                    refine lv_istore (lv' := [(9, .int r25), (0, .ref (q 0)), (1, .int a_c), (3, .int x10), (4, .int x12), (5, .int y15), (6, .int y16), (7, .int y21), (8, .int y22)]) hx hb (zD_g DX6_wide 55 rfl) hl (by decide) rfl (fun ls hl => ?_)
                    refine lv_iload hx hb (zD_g DX6_wide 56 rfl) (lv_at hl 7 rfl) ?_
                    refine lv_if_eq (tgt := 134) hx hb (zD_g DX6_wide 57 rfl) (by decide) (fun c27 => ?_) (fun c27 => ?_)
                    · replace hf := z_t c27 hf
                      refine lv_iconst (v := (0 : Int32)) hx hb (zD_g DX6_wide 75 rfl) (by decide) ?_
                      refine lv_istore (lv' := [(7, .int (0 : Int32)), (9, .int r25), (0, .ref (q 0)), (1, .int a_c), (3, .int x10), (4, .int x12), (5, .int y15), (6, .int y16), (8, .int y22)]) hx hb (zD_g DX6_wide 76 rfl) hl (by decide) rfl (fun ls hl => ?_)
                      refine lv_iinc (v := y22 + 1) (lv' := [(8, .int (y22 + 1)), (7, .int (0 : Int32)), (9, .int r25), (0, .ref (q 0)), (1, .int a_c), (3, .int x10), (4, .int x12), (5, .int y15), (6, .int y16)]) (k := 8) hx hb (zD_g DX6_wide 77 rfl) hl rfl rfl (by decide) rfl (fun ls hl => ?_)
                      refine lv_goto (tgt := 76) hx hb (zD_g DX6_wide 78 rfl) (by decide) ?_
                      exact ih23 _ _ hf _ _ hP hD hS ls (lv_sub hl [3, 4, 5, 6, 7, 8, 1, 0] rfl)
                    · replace hf := z_f c27 hf
                      refine lv_aload_n hx hb (zD_g DX6_wide 58 rfl) rfl (lv_at hl 1 rfl) ?_
                      refine va_get (D := D) (ci := 5) (v := .ref (q 1)) (C := RX6) (T := TX6) (N := 19) hx hb hts in6_wide_6 hown hK.1 hP 0 rfl rfl 0 (by decide) (hts _ (List.mem_of_getElem? (i := 1) rfl)) (fun _ h9 => h9) rfl (zD_g DX6_wide 59 rfl) ?_
                      refine lv_bipush (v := (68 : Int32)) hx hb (zD_g DX6_wide 60 rfl) (by decide) ?_
                      refine lv_iload hx hb (zD_g DX6_wide 61 rfl) (lv_at hl 8 rfl) ?_
                      refine lv_iadd hx hb (zD_g DX6_wide 62 rfl) ?_
                      obtain ⟨h28, hf⟩ := zg_s hf
                      refine z_iald (k := ((68 : Int32) + y22).toNatClampNeg) hx hb hK.1 hP 1 0 rfl rfl h28 rfl (zD_g DX6_wide 63 rfl) ?_
                      refine lv_iload_n hx hb (zD_g DX6_wide 64 rfl) rfl (lv_at hl 2 rfl) ?_
                      refine lv_icmp_ne (tgt := 130) hx hb (zD_g DX6_wide 65 rfl) (by decide) (fun c29 => ?_) (fun c29 => ?_)
                      · replace hf := z_f c29 hf
                        refine lv_iconst (v := (1 : Int32)) hx hb (zD_g DX6_wide 73 rfl) (by decide) ?_
                        refine lv_goto (tgt := 135) hx hb (zD_g DX6_wide 74 rfl) (by decide) ?_
                        refine lv_istore (lv' := [(7, .int (1 : Int32)), (9, .int r25), (0, .ref (q 0)), (1, .int a_c), (3, .int x10), (4, .int x12), (5, .int y15), (6, .int y16), (8, .int y22)]) hx hb (zD_g DX6_wide 76 rfl) hl (by decide) rfl (fun ls hl => ?_)
                        refine lv_iinc (v := y22 + 1) (lv' := [(8, .int (y22 + 1)), (7, .int (1 : Int32)), (9, .int r25), (0, .ref (q 0)), (1, .int a_c), (3, .int x10), (4, .int x12), (5, .int y15), (6, .int y16)]) (k := 8) hx hb (zD_g DX6_wide 77 rfl) hl rfl rfl (by decide) rfl (fun ls hl => ?_)
                        refine lv_goto (tgt := 76) hx hb (zD_g DX6_wide 78 rfl) (by decide) ?_
                        exact ih23 _ _ hf _ _ hP hD hS ls (lv_sub hl [3, 4, 5, 6, 7, 8, 1, 0] rfl)
                      · replace hf := z_t c29 hf
                        refine lv_iload hx hb (zD_g DX6_wide 66 rfl) (lv_at hl 0 rfl) ?_
                        refine lv_if_eq (tgt := 130) hx hb (zD_g DX6_wide 67 rfl) (by decide) (fun c30 => ?_) (fun c30 => ?_)
                        · replace hf := z_t c30 hf
                          refine lv_iconst (v := (1 : Int32)) hx hb (zD_g DX6_wide 73 rfl) (by decide) ?_
                          refine lv_goto (tgt := 135) hx hb (zD_g DX6_wide 74 rfl) (by decide) ?_
                          refine lv_istore (lv' := [(7, .int (1 : Int32)), (9, .int r25), (0, .ref (q 0)), (1, .int a_c), (3, .int x10), (4, .int x12), (5, .int y15), (6, .int y16), (8, .int y22)]) hx hb (zD_g DX6_wide 76 rfl) hl (by decide) rfl (fun ls hl => ?_)
                          refine lv_iinc (v := y22 + 1) (lv' := [(8, .int (y22 + 1)), (7, .int (1 : Int32)), (9, .int r25), (0, .ref (q 0)), (1, .int a_c), (3, .int x10), (4, .int x12), (5, .int y15), (6, .int y16)]) (k := 8) hx hb (zD_g DX6_wide 77 rfl) hl rfl rfl (by decide) rfl (fun ls hl => ?_)
                          refine lv_goto (tgt := 76) hx hb (zD_g DX6_wide 78 rfl) (by decide) ?_
                          exact ih23 _ _ hf _ _ hP hD hS ls (lv_sub hl [3, 4, 5, 6, 7, 8, 1, 0] rfl)
                        · replace hf := z_f c30 hf
                          refine lv_aload_n hx hb (zD_g DX6_wide 68 rfl) rfl (lv_at hl 1 rfl) ?_
                          refine lv_iload hx hb (zD_g DX6_wide 69 rfl) (lv_at hl 8 rfl) ?_
                          refine lv_iload hx hb (zD_g DX6_wide 70 rfl) (lv_at hl 0 rfl) ?_
                          obtain ⟨r31, hc32, hf⟩ := zb1_s hf
                          refine z_Vp (As := [.int y22, .int r25]) (rest := []) ⟨hx, hb, hml, hown, hts⟩ hK (c6_passes (quiet := quiet) (mabove := mabove) (mbelow := mbelow) (typed := typed) (mat := mat) (mstart := mstart) (mtoken := mtoken) (mvalue := mvalue) (many := many) (book := (upd book_17 x10.toNatClampNeg y16)) (images := images) (mkept := mkept) (aside := aside) (refused := refused) (text := text) (items := items) (drawn := drawn) (row := row) (best := best) (q := q) hc32) (cwV 2 hts gX6_wide_X6_passes rfl rfl rfl hd6_passes ⟨Nat.le_of_ble_eq_true rfl, Nat.le_of_ble_eq_true rfl⟩) hP rfl rfl rfl rfl hl.1 rfl rfl (Nat.le_of_ble_eq_true rfl) (zD_g DX6_wide 71 rfl) ⟨Nat.zero_le _, Nat.zero_le _⟩ ?_
                          refine lv_if_eq (tgt := 134) hx hb (zD_g DX6_wide 72 rfl) (by decide) (fun c33 => ?_) (fun c33 => ?_)
                          · replace hf := z_t c33 hf
                            refine lv_iconst (v := (0 : Int32)) hx hb (zD_g DX6_wide 75 rfl) (by decide) ?_
                            refine lv_istore (lv' := [(7, .int (0 : Int32)), (9, .int r25), (0, .ref (q 0)), (1, .int a_c), (3, .int x10), (4, .int x12), (5, .int y15), (6, .int y16), (8, .int y22)]) hx hb (zD_g DX6_wide 76 rfl) hl (by decide) rfl (fun ls hl => ?_)
                            refine lv_iinc (v := y22 + 1) (lv' := [(8, .int (y22 + 1)), (7, .int (0 : Int32)), (9, .int r25), (0, .ref (q 0)), (1, .int a_c), (3, .int x10), (4, .int x12), (5, .int y15), (6, .int y16)]) (k := 8) hx hb (zD_g DX6_wide 77 rfl) hl rfl rfl (by decide) rfl (fun ls hl => ?_)
                            refine lv_goto (tgt := 76) hx hb (zD_g DX6_wide 78 rfl) (by decide) ?_
                            exact ih23 _ _ hf _ _ hP hD hS ls (lv_sub hl [3, 4, 5, 6, 7, 8, 1, 0] rfl)
                          · replace hf := z_f c33 hf
                            refine lv_iconst (v := (1 : Int32)) hx hb (zD_g DX6_wide 73 rfl) (by decide) ?_
                            refine lv_goto (tgt := 135) hx hb (zD_g DX6_wide 74 rfl) (by decide) ?_
                            refine lv_istore (lv' := [(7, .int (1 : Int32)), (9, .int r25), (0, .ref (q 0)), (1, .int a_c), (3, .int x10), (4, .int x12), (5, .int y15), (6, .int y16), (8, .int y22)]) hx hb (zD_g DX6_wide 76 rfl) hl (by decide) rfl (fun ls hl => ?_)
                            refine lv_iinc (v := y22 + 1) (lv' := [(8, .int (y22 + 1)), (7, .int (1 : Int32)), (9, .int r25), (0, .ref (q 0)), (1, .int a_c), (3, .int x10), (4, .int x12), (5, .int y15), (6, .int y16)]) (k := 8) hx hb (zD_g DX6_wide 77 rfl) hl rfl rfl (by decide) rfl (fun ls hl => ?_)
                            refine lv_goto (tgt := 76) hx hb (zD_g DX6_wide 78 rfl) (by decide) ?_
                            exact ih23 _ _ hf _ _ hP hD hS ls (lv_sub hl [3, 4, 5, 6, 7, 8, 1, 0] rfl)
              refine hL23 _ (fun y34 hf H locs hP hD hS ls hl => ?_) _ _ _ hf _ _ hP hD hS ls (lv_sub hl [2, 3, 4, 5, 6, 7, 1, 0] rfl)
              refine lv_iload hx hb (zD_g DX6_wide 79 rfl) (lv_at hl 6 rfl) ?_
              refine lv_if_eq (tgt := 153) hx hb (zD_g DX6_wide 80 rfl) (by decide) (fun c35 => ?_) (fun c35 => ?_)
              · replace hf := z_t c35 hf
                refine lv_iload hx hb (zD_g DX6_wide 83 rfl) (lv_at hl 4 rfl) ?_
                refine lv_istore (lv' := [(5, .int y15), (0, .ref (q 0)), (1, .int a_c), (3, .int x10), (4, .int x12), (6, .int y16), (7, .int y34)]) hx hb (zD_g DX6_wide 84 rfl) hl (by decide) rfl (fun ls hl => ?_)
                refine lv_iinc (v := y16 + (-1)) (lv' := [(6, .int (y16 + (-1))), (5, .int y15), (0, .ref (q 0)), (1, .int a_c), (3, .int x10), (4, .int x12), (7, .int y34)]) (k := 5) hx hb (zD_g DX6_wide 85 rfl) hl rfl rfl (by decide) rfl (fun ls hl => ?_)
                refine lv_goto (tgt := 57) hx hb (zD_g DX6_wide 86 rfl) (by decide) ?_
                exact ih18 _ _ _ hf _ _ hP hD hS ls (lv_sub hl [2, 3, 4, 5, 1, 0] rfl)
              · replace hf := z_f c35 hf
                refine lv_iload hx hb (zD_g DX6_wide 81 rfl) (lv_at hl 5 rfl) ?_
                refine lv_goto (tgt := 155) hx hb (zD_g DX6_wide 82 rfl) (by decide) ?_
                refine lv_istore (lv' := [(5, .int y16), (0, .ref (q 0)), (1, .int a_c), (3, .int x10), (4, .int x12), (6, .int y16), (7, .int y34)]) hx hb (zD_g DX6_wide 84 rfl) hl (by decide) rfl (fun ls hl => ?_)
                refine lv_iinc (v := y16 + (-1)) (lv' := [(6, .int (y16 + (-1))), (5, .int y16), (0, .ref (q 0)), (1, .int a_c), (3, .int x10), (4, .int x12), (7, .int y34)]) (k := 5) hx hb (zD_g DX6_wide 85 rfl) hl rfl rfl (by decide) rfl (fun ls hl => ?_)
                refine lv_goto (tgt := 57) hx hb (zD_g DX6_wide 86 rfl) (by decide) ?_
                exact ih18 _ _ _ hf _ _ hP hD hS ls (lv_sub hl [2, 3, 4, 5, 1, 0] rfl)
        refine hL18 _ (fun y36 book_37 hf H locs hP hD hS ls hl => ?_) _ _ _ _ hf _ _ hP hD hS ls (lv_sub hl [1, 2, 3, 4, 5, 0] rfl)
        refine lv_aload_n hx hb (zD_g DX6_wide 87 rfl) rfl (lv_at hl 0 rfl) ?_
        refine va_get (D := D) (ci := 5) (v := .ref (q 1)) (C := RX6) (T := TX6) (N := 19) hx hb hts in6_wide_6 hown hK.1 hP 0 rfl rfl 0 (by decide) (hts _ (List.mem_of_getElem? (i := 1) rfl)) (fun _ h9 => h9) rfl (zD_g DX6_wide 88 rfl) ?_
        refine lv_iload_n hx hb (zD_g DX6_wide 89 rfl) rfl (lv_at hl 1 rfl) ?_
        refine lv_iload hx hb (zD_g DX6_wide 90 rfl) (lv_at hl 2 rfl) ?_
        obtain ⟨h38, hf⟩ := zg_s hf
        refine z_iast (k := x10.toNatClampNeg) (ws' := (cMod cI cZ q quiet mabove mbelow typed mat mstart mtoken mvalue many (upd book_37 x10.toNatClampNeg x12) images mkept aside refused text items drawn row best)) hx hb hK.1 hP hD hS 1 0 rfl rfl h38 rfl rfl (zD_g DX6_wide 91 rfl) (fun H locs hP hD hS => ?_)
        refine lv_iload hx hb (zD_g DX6_wide 92 rfl) (lv_at hl 3 rfl) ?_
        cases hf
        exact hret _ _ _ _ hP hD hS (zD_g DX6_wide 93 rfl)
      clear hf
      have hf := hr39
      refine lv_if_ne (tgt := 53) hx hb (zD_g DX6_wide 30 rfl) (by decide) (fun c13 => ?_) (fun c13 => ?_)
      · replace hf := z_f c13 hf
        refine lv_bipush (v := (50 : Int32)) hx hb (zD_g DX6_wide 33 rfl) (by decide) ?_
        cases hf
        exact hJ39 _ _ hP hD hS ls (lv_sub hl [3, 4, 2, 1, 0] rfl)
      · replace hf := z_t c13 hf
        refine lv_bipush (v := (30 : Int32)) hx hb (zD_g DX6_wide 31 rfl) (by decide) ?_
        refine lv_goto (tgt := 55) hx hb (zD_g DX6_wide 32 rfl) (by decide) ?_
        cases hf
        exact hJ39 _ _ hP hD hS ls (lv_sub hl [3, 4, 2, 1, 0] rfl)
    · replace hf := z_t c9 hf
      refine lv_aload_n hx hb (zD_g DX6_wide 9 rfl) rfl (lv_at hl 0 rfl) ?_
      obtain ⟨r40, refused_41, hc42, hf⟩ := zb2_s hf
      refine z_Vm (As := []) (rest := []) (ws' := (cMod cI cZ q quiet mabove mbelow typed mat mstart mtoken mvalue many book images mkept aside refused_41 text items drawn row best)) ⟨hx, hb, hml, hown, hts⟩ hK (c6_bad (quiet := quiet) (mabove := mabove) (mbelow := mbelow) (typed := typed) (mat := mat) (mstart := mstart) (mtoken := mtoken) (mvalue := mvalue) (many := many) (book := book) (images := images) (mkept := mkept) (aside := aside) (refused := refused) (text := text) (items := items) (drawn := drawn) (row := row) (best := best) (q := q) hc42) (cwV 0 hts gX6_wide_X6_bad rfl rfl rfl hd6_bad ⟨Nat.le_of_ble_eq_true rfl, Nat.le_of_ble_eq_true rfl⟩) hP hD hS hA 11 [0, 1, 2, 3, 4, 5, 6, 7, 8, 9, 10] [] [0, 1, 2, 3, 4, 5, 6, 7, 8, 9, 10] (by decide +kernel) rfl rfl rfl rfl rfl rfl rfl hl.1 rfl rfl (Nat.le_of_ble_eq_true rfl) (zD_g DX6_wide 10 rfl) ⟨Nat.zero_le _, Nat.zero_le _⟩ (fun H locs hP hD hS => ?_)
      cases hf
      exact hret _ _ _ _ hP hD hS (zD_g DX6_wide 11 rfl)
abbrev dlX6_divisor : List (Nat × Instr × Nat) := [(0, .lload_n 0, 1), (1, .lstore 4, 2), (3, .lload_n 2, 1), (4, .lstore 6, 2), (6, .lload 6, 2), (8, .lconst 0, 1), (9, .lcmp, 1), (10, .ifCond .eq 21, 3), (13, .lload 4, 2), (15, .lload 6, 2), (17, .lrem, 1), (18, .lstore 8, 2), (20, .lload 6, 2), (22, .lstore 4, 2), (24, .lload 8, 2), (26, .lstore 6, 2), (28, .goto (-22), 3), (31, .lload 4, 2), (33, .lreturn, 1)]
theorem DX6_divisor : zD cX6_divisor dlX6_divisor = true := by decide +kernel
theorem hd6_divisor : yX6_divisor.cls ≠ "java/lang/invoke/MethodHandle" ∧ yX6_divisor.cls ≠ "java/lang/invoke/VarHandle" ∧ (parseMethodDescriptor yX6_divisor.desc).map (fun d => d.parameters.length) = some 2 := by decide +kernel
abbrev rm6_divisor : Room := { frames := 0, cells := 0, slots := 0, locals := 0 }
set_option maxHeartbeats 4000000 in
set_option maxRecDepth 100000 in
theorem c6_divisor {l : Launch} {D : va_G} {cI cZ cB : ClassId}   {a_a : Int64} {a_b : Int64} {r : Int64}  (hf : f6_divisor a_a a_b = some r) : Met l yX6_divisor wsX6_divisor rm6_divisor (zPp D cI cZ cB [.long a_a, .long a_b] ([] : va_W)) (zQp (some (.long r))) 0 0 (fun _ => False) := by
  unfold f6_divisor at hf
  refine z_pureL RX6 (by decide +kernel) rfl rfl (Nat.le_of_ble_eq_true rfl) ?_
  intro p e s m args below meth c Q ls hx hb hml hown hts hK hP hret hl
  have hl : lv_has ls 10 [(0, .long a_a), (2, .long a_b)] := hl
  refine lv_lload_n hx hb (zD_g DX6_divisor 0 rfl) rfl (lv_at hl 0 rfl) ?_
  refine lv_lstore (lv' := [(4, .long a_a), (0, .long a_a), (2, .long a_b)]) hx hb (zD_g DX6_divisor 1 rfl) hl (by decide) rfl (fun ls hl => ?_)
  refine lv_lload_n hx hb (zD_g DX6_divisor 2 rfl) rfl (lv_at hl 2 rfl) ?_
  refine lv_lstore (lv' := [(6, .long a_b), (4, .long a_a), (0, .long a_a), (2, .long a_b)]) hx hb (zD_g DX6_divisor 3 rfl) hl (by decide) rfl (fun ls hl => ?_)
  have hL3 : ∀ (k3 : Int64 → Option (Int64)) (hk3 : ∀ (y7 : Int64), k3 y7 = some r → ∀ (ls : Array Slot), lv_has ls 10 [(4, .long y7)] → W p l e rm6_divisor s m args below meth c s.heap [] 0 0 Q (F0 m 31 ls [])) (n3 : Nat) (y1 : Int64) (y2 : Int64), L6_divisor_6 k3 n3 y1 y2 = some r → ∀ (ls : Array Slot), lv_has ls 10 [(4, .long y1), (6, .long y2)] → W p l e rm6_divisor s m args below meth c s.heap [] 0 0 Q (F0 m 6 ls []) := by
    intro k3 hk3 n3
    induction n3 with
    | zero =>
      intro y1 y2 hf
      cases hf
    | succ n3 ih3 =>
      intro y1 y2 hf ls hl
      rw [L6_divisor_6] at hf
      refine lv_lload hx hb (zD_g DX6_divisor 4 rfl) (lv_at hl 1 rfl) ?_
      refine lv_lconst (v := (0 : Int64)) hx hb (zD_g DX6_divisor 5 rfl) (by decide) ?_
      refine W.lcmp hx hb (zD_g DX6_divisor 6 rfl) ?_
      refine lv_if_eq (tgt := 31) hx hb (zD_g DX6_divisor 7 rfl) (by decide) (fun c4 => ?_) (fun c4 => ?_)
      · replace hf := z_t c4 hf
        exact hk3 _ hf ls (lv_sub hl [0] rfl)
      · replace hf := z_f c4 hf
        refine lv_lload hx hb (zD_g DX6_divisor 8 rfl) (lv_at hl 0 rfl) ?_
        refine lv_lload hx hb (zD_g DX6_divisor 9 rfl) (lv_at hl 1 rfl) ?_
        obtain ⟨h5, hf⟩ := zdl_s hf
        refine lv_lrem hx hb (zD_g DX6_divisor 10 rfl) h5 ?_
        refine lv_topl (fun x6 ex6 => ?_)
        replace hf := zl_s hf x6 ex6
        refine lv_lstore (lv' := [(8, .long x6), (4, .long y1), (6, .long y2)]) hx hb (zD_g DX6_divisor 11 rfl) hl (by decide) rfl (fun ls hl => ?_)
        refine lv_lload hx hb (zD_g DX6_divisor 12 rfl) (lv_at hl 2 rfl) ?_
        refine lv_lstore (lv' := [(4, .long y2), (8, .long x6), (6, .long y2)]) hx hb (zD_g DX6_divisor 13 rfl) hl (by decide) rfl (fun ls hl => ?_)
        refine lv_lload hx hb (zD_g DX6_divisor 14 rfl) (lv_at hl 1 rfl) ?_
        refine lv_lstore (lv' := [(6, .long x6), (4, .long y2), (8, .long x6)]) hx hb (zD_g DX6_divisor 15 rfl) hl (by decide) rfl (fun ls hl => ?_)
        refine lv_goto (tgt := 6) hx hb (zD_g DX6_divisor 16 rfl) (by decide) ?_
        exact ih3 _ _ hf ls (lv_sub hl [1, 0] rfl)
  refine hL3 _ (fun y7 hf ls hl => ?_) _ _ _ hf ls (lv_sub hl [1, 0] rfl)
  refine lv_lload hx hb (zD_g DX6_divisor 17 rfl) (lv_at hl 0 rfl) ?_
  cases hf
  exact hret _ _ (zD_g DX6_divisor 18 rfl)
abbrev dlX6_belief : List (Nat × Instr × Nat) := [(0, .aload_n 0, 1), (1, .iload_n 1, 1), (2, .invokevirtual 84, 3), (5, .ifCond .eq 15, 3), (8, .iload_n 2, 1), (9, .i2l, 1), (10, .lconst 0, 1), (11, .ldc2_w 222, 3), (14, .invokestatic 56, 3), (17, .ifCond .ne 8, 3), (20, .aload_n 0, 1), (21, .invokevirtual 66, 3), (24, .ireturn, 1), (25, .aload_n 0, 1), (26, .iconst (-1), 1), (27, .invokevirtual 87, 3), (30, .aload_n 0, 1), (31, .iload_n 1, 1), (32, .invokevirtual 87, 3), (35, .ior, 1), (36, .istore 4, 2), (38, .lconst 0, 1), (39, .lstore 5, 2), (41, .lconst 0, 1), (42, .lstore 7, 2), (44, .iconst 0, 1), (45, .istore 9, 2), (47, .iload 9, 2), (49, .iconst 1, 1), (50, .aload_n 0, 1), (51, .getfield 7, 3), (54, .iconst 0, 1), (55, .iaload, 1), (56, .ishl, 1), (57, .if_icmp .ge 116, 3), (60, .iload 9, 2), (62, .iload 4, 2), (64, .iconst (-1), 1), (65, .ixor, 1), (66, .iand, 1), (67, .ifCond .ne 100, 3), (70, .aload_n 0, 1), (71, .iload_n 1, 1), (72, .iload 9, 2), (74, .invokevirtual 194, 3), (77, .iload_n 3, 1), (78, .if_icmp .ne 89, 3), (81, .lconst 1, 1), (82, .lstore 10, 2), (84, .iconst 0, 1), (85, .istore 12, 2), (87, .iload 12, 2), (89, .aload_n 0, 1), (90, .getfield 7, 3), (93, .iconst 0, 1), (94, .iaload, 1), (95, .if_icmp .ge 49, 3), (98, .lload 10, 2), (100, .iload 4, 2), (102, .iload 12, 2), (104, .ishr, 1), (105, .iconst 1, 1), (106, .iand, 1), (107, .ifCond .ne 7, 3), (110, .lconst 1, 1), (111, .goto 24, 3), (114, .iload 9, 2), (116, .iload 12, 2), (118, .ishr, 1), (119, .iconst 1, 1), (120, .iand, 1), (121, .iconst 1, 1), (122, .if_icmp .ne 8, 3), (125, .iload_n 2, 1), (126, .i2l, 1), (127, .goto 8, 3), (130, .bipush 10, 2), (132, .iload_n 2, 1), (133, .isub, 1), (134, .i2l, 1), (135, .lmul, 1), (136, .lstore 10, 2), (138, .iinc 12 1, 3), (141, .goto (-54), 3), (144, .lload 5, 2), (146, .lload 10, 2), (148, .ladd, 1), (149, .lstore 5, 2), (151, .lload 7, 2), (153, .iload 9, 2), (155, .ifCond .ne 8, 3), (158, .lload 10, 2), (160, .goto 4, 3), (163, .lconst 0, 1), (164, .ladd, 1), (165, .lstore 7, 2), (167, .iinc 9 1, 3), (170, .goto (-123), 3), (173, .lload 5, 2), (175, .lconst 0, 1), (176, .lcmp, 1), (177, .ifCond .ne 8, 3), (180, .aload_n 0, 1), (181, .invokevirtual 94, 3), (184, .ireturn, 1), (185, .lload 7, 2), (187, .lload 5, 2), (189, .invokestatic 224, 3), (192, .lstore 9, 2), (194, .aload_n 0, 1), (195, .lload 7, 2), (197, .lload 9, 2), (199, .ldiv, 1), (200, .putfield 228, 3), (203, .aload_n 0, 1), (204, .lload 5, 2), (206, .lload 9, 2), (208, .ldiv, 1), (209, .putfield 41, 3), (212, .iconst 1, 1), (213, .ireturn, 1)]
theorem DX6_belief : zD cX6_belief dlX6_belief = true := by decide +kernel
set_option maxRecDepth 20000 in
theorem ggX6_belief_X6_isGift : GoodIn wsX6_belief wsX6_isGift := goodIn_r _ [9, 2, 10, 11, 8, 12, 50, 51, 52, 53, 54, 55, 56, 57, 58, 59, 60, 61, 62, 63, 64, 65, 66, 67, 68] (by decide +kernel) (by decide +kernel)
set_option maxRecDepth 20000 in
theorem gX6_belief_X6_isGift : GoodIn wsX6_belief (wsV RX6 84 RX6 yX6_isGift wsX6_isGift) := goodIn_app (goodIn_of _ (by decide +kernel)) ggX6_belief_X6_isGift
set_option maxRecDepth 20000 in
theorem ggX6_belief_X6_in : GoodIn wsX6_belief wsX6_in := goodIn_r _ [12] (by decide +kernel) (by decide +kernel)
set_option maxRecDepth 20000 in
theorem gX6_belief_X6_in : GoodIn wsX6_belief (va_wsS RX6 56 yX6_in wsX6_in) := goodIn_app (goodIn_of _ (by decide +kernel)) ggX6_belief_X6_in
set_option maxRecDepth 20000 in
theorem ggX6_belief_X6_bad : GoodIn wsX6_belief wsX6_bad := goodIn_r _ [16, 17, 18, 19, 8, 20, 21, 22, 50, 51, 52, 53, 54, 55, 56, 57, 58, 59, 60, 61, 62, 63, 64, 65, 66, 67, 68] (by decide +kernel) (by decide +kernel)
set_option maxRecDepth 20000 in
theorem gX6_belief_X6_bad : GoodIn wsX6_belief (wsV RX6 66 RX6 yX6_bad wsX6_bad) := goodIn_app (goodIn_of _ (by decide +kernel)) ggX6_belief_X6_bad
set_option maxRecDepth 20000 in
theorem ggX6_belief_X6_thingsIn : GoodIn wsX6_belief wsX6_thingsIn := goodIn_r _ [26, 2, 50, 51, 52, 53, 54, 55, 56, 57, 58, 59, 60, 61, 62, 63, 64, 65, 66, 67, 68] (by decide +kernel) (by decide +kernel)
set_option maxRecDepth 20000 in
theorem gX6_belief_X6_thingsIn : GoodIn wsX6_belief (wsV RX6 87 RX6 yX6_thingsIn wsX6_thingsIn) := goodIn_app (goodIn_of _ (by decide +kernel)) ggX6_belief_X6_thingsIn
set_option maxRecDepth 20000 in
theorem ggX6_belief_X6_isHeard : GoodIn wsX6_belief wsX6_isHeard := goodIn_r _ [30, 2, 31, 32, 33, 8, 34, 35, 36, 37, 38, 39, 40, 41, 42, 50, 51, 52, 53, 54, 55, 56, 57, 58, 59, 60, 61, 62, 63, 64, 65, 66, 67, 68] (by decide +kernel) (by decide +kernel)
set_option maxRecDepth 20000 in
theorem gX6_belief_X6_isHeard : GoodIn wsX6_belief (wsV RX6 194 RX6 yX6_isHeard wsX6_isHeard) := goodIn_app (goodIn_of _ (by decide +kernel)) ggX6_belief_X6_isHeard
set_option maxRecDepth 20000 in
theorem ggX6_belief_X6_no : GoodIn wsX6_belief wsX6_no := goodIn_r _ [46, 17, 18, 19, 8, 20, 21, 22, 50, 51, 52, 53, 54, 55, 56, 57, 58, 59, 60, 61, 62, 63, 64, 65, 66, 67, 68] (by decide +kernel) (by decide +kernel)
set_option maxRecDepth 20000 in
theorem gX6_belief_X6_no : GoodIn wsX6_belief (wsV RX6 94 RX6 yX6_no wsX6_no) := goodIn_app (goodIn_of _ (by decide +kernel)) ggX6_belief_X6_no
set_option maxRecDepth 20000 in
theorem ggX6_belief_X6_divisor : GoodIn wsX6_belief wsX6_divisor := goodIn_r _ [49] (by decide +kernel) (by decide +kernel)
set_option maxRecDepth 20000 in
theorem gX6_belief_X6_divisor : GoodIn wsX6_belief (va_wsS RX6 224 yX6_divisor wsX6_divisor) := goodIn_app (goodIn_of _ (by decide +kernel)) ggX6_belief_X6_divisor
theorem hd6_belief : yX6_belief.cls = RX6 ∧ yX6_belief.cls ≠ "java/lang/invoke/MethodHandle" ∧ yX6_belief.cls ≠ "java/lang/invoke/VarHandle" ∧ (parseMethodDescriptor yX6_belief.desc).map (fun d => d.parameters.length) = some 3 := by decide +kernel
abbrev rm6_belief : Room := { frames := 3, cells := 0, slots := 0, locals := 71 }
theorem in6_belief_6 : ∀ w ∈ wsX60, w ∈ wsX6_belief := fun w h => List.mem_cons_of_mem _ (List.mem_append_right _ h)
set_option maxHeartbeats 4000000 in
set_option maxRecDepth 100000 in
theorem c6_belief {l : Launch} {D : va_G} {cI cZ cB : ClassId} {q : Nat → Nat} {sz : Nat} {quiet : Int32} {mabove : Int64} {mbelow : Int64} {typed : Int32} {mat : Int32} {mstart : Int32} {mtoken : Int32} {mvalue : Int32} {many : Int32} {book : Nat → Int32} {images : Nat → Int32} {mkept : Nat → Int32} {aside : Nat → Int32} {refused : Nat → Int32} {text : Nat → Int32} {items : Nat → Int32} {drawn : Nat → Int32} {row : Nat → Int32} {best : Nat → Int32} {a_g : Int32} {a_c : Int32} {a_heard : Int32} {r : Int32} {d_mabove : Int64} {d_mbelow : Int64} {d_refused : Nat → Int32} (hf : f6_belief quiet mabove mbelow book refused a_g a_c a_heard = some (r, d_mabove, d_mbelow, d_refused)) : Met l yX6_belief wsX6_belief rm6_belief (zPm D cI cZ cB [.ref (q 0), .int a_g, .int a_c, .int a_heard] sz (cMod cI cZ q quiet mabove mbelow typed mat mstart mtoken mvalue many book images mkept aside refused text items drawn row best)) (zQm D (some (.int r)) (cMod cI cZ q quiet d_mabove d_mbelow typed mat mstart mtoken mvalue many book images mkept aside d_refused text items drawn row best) (va_A (cMod cI cZ q quiet mabove mbelow typed mat mstart mtoken mvalue many book images mkept aside refused text items drawn row best) sz)) 0 0 (va_A (cMod cI cZ q quiet mabove mbelow typed mat mstart mtoken mvalue many book images mkept aside refused text items drawn row best) sz) := by
  unfold f6_belief at hf
  refine z_mutI RX6 (by decide +kernel) rfl rfl (Nat.le_of_ble_eq_true rfl) ?_
  intro p e s m args below meth c Q A ls hx hb hml hown hts hK hP hD hS hA hret hl
  have hl : lv_has ls 13 [(0, .ref (q 0)), (1, .int a_g), (2, .int a_c), (3, .int a_heard)] := hl
  refine lv_aload_n hx hb (zD_g DX6_belief 0 rfl) rfl (lv_at hl 0 rfl) ?_
  refine lv_iload_n hx hb (zD_g DX6_belief 1 rfl) rfl (lv_at hl 1 rfl) ?_
  obtain ⟨r1, hc2, hf⟩ := zb1_s hf
  refine z_Vp (As := [.int a_g]) (rest := []) ⟨hx, hb, hml, hown, hts⟩ hK (c6_isGift (quiet := quiet) (mabove := mabove) (mbelow := mbelow) (typed := typed) (mat := mat) (mstart := mstart) (mtoken := mtoken) (mvalue := mvalue) (many := many) (book := book) (images := images) (mkept := mkept) (aside := aside) (refused := refused) (text := text) (items := items) (drawn := drawn) (row := row) (best := best) (q := q) hc2) (cwV 1 hts gX6_belief_X6_isGift rfl rfl rfl hd6_isGift ⟨Nat.le_of_ble_eq_true rfl, Nat.le_of_ble_eq_true rfl⟩) hP rfl rfl rfl rfl hl.1 rfl rfl (Nat.le_of_ble_eq_true rfl) (zD_g DX6_belief 2 rfl) ⟨Nat.zero_le _, Nat.zero_le _⟩ ?_
  refine lv_if_eq (tgt := 20) hx hb (zD_g DX6_belief 3 rfl) (by decide) (fun c3 => ?_) (fun c3 => ?_)
  · replace hf := z_t c3 hf
    refine lv_aload_n hx hb (zD_g DX6_belief 10 rfl) rfl (lv_at hl 0 rfl) ?_
    obtain ⟨r4, refused_5, hc6, hf⟩ := zb2_s hf
    refine z_Vm (As := []) (rest := []) (ws' := (cMod cI cZ q quiet mabove mbelow typed mat mstart mtoken mvalue many book images mkept aside refused_5 text items drawn row best)) ⟨hx, hb, hml, hown, hts⟩ hK (c6_bad (quiet := quiet) (mabove := mabove) (mbelow := mbelow) (typed := typed) (mat := mat) (mstart := mstart) (mtoken := mtoken) (mvalue := mvalue) (many := many) (book := book) (images := images) (mkept := mkept) (aside := aside) (refused := refused) (text := text) (items := items) (drawn := drawn) (row := row) (best := best) (q := q) hc6) (cwV 0 hts gX6_belief_X6_bad rfl rfl rfl hd6_bad ⟨Nat.le_of_ble_eq_true rfl, Nat.le_of_ble_eq_true rfl⟩) hP hD hS hA 11 [0, 1, 2, 3, 4, 5, 6, 7, 8, 9, 10] [] [0, 1, 2, 3, 4, 5, 6, 7, 8, 9, 10] (by decide +kernel) rfl rfl rfl rfl rfl rfl rfl hl.1 rfl rfl (Nat.le_of_ble_eq_true rfl) (zD_g DX6_belief 11 rfl) ⟨Nat.zero_le _, Nat.zero_le _⟩ (fun H locs hP hD hS => ?_)
    cases hf
    exact hret _ _ _ _ hP hD hS (zD_g DX6_belief 12 rfl)
  · replace hf := z_f c3 hf
    refine lv_iload_n hx hb (zD_g DX6_belief 4 rfl) rfl (lv_at hl 2 rfl) ?_
    refine lv_i2l (v := (a_c).toInt64) hx hb (zD_g DX6_belief 5 rfl) rfl ?_
    refine lv_lconst (v := (0 : Int64)) hx hb (zD_g DX6_belief 6 rfl) (by decide) ?_
    refine lv_ldc2 (v := (10 : Int64)) hx hb hown (hts _ (List.mem_of_getElem? (i := 1) rfl)) (zD_g DX6_belief 7 rfl) ?_
    obtain ⟨r7, hc8, hf⟩ := zb1_s hf
    refine z_Sp (As := [.long ((a_c).toInt64), .long (0 : Int64), .long (10 : Int64)]) (rest := []) ⟨hx, hb, hml, hown, hts⟩ hK (c6_in  hc8) (va_cwS 3 hts gX6_belief_X6_in rfl rfl rfl hd6_in ⟨Nat.le_of_ble_eq_true rfl, Nat.le_of_ble_eq_true rfl⟩) (hP.sub [] rfl) rfl hl.1 rfl rfl (Nat.le_of_ble_eq_true rfl) (zD_g DX6_belief 8 rfl) ⟨Nat.zero_le _, Nat.zero_le _⟩ ?_
    refine lv_if_ne (tgt := 25) hx hb (zD_g DX6_belief 9 rfl) (by decide) (fun c9 => ?_) (fun c9 => ?_)
    · replace hf := z_f c9 hf
      refine lv_aload_n hx hb (zD_g DX6_belief 13 rfl) rfl (lv_at hl 0 rfl) ?_
      refine lv_iconst (v := (-1 : Int32)) hx hb (zD_g DX6_belief 14 rfl) (by decide) ?_
      obtain ⟨r10, hc11, hf⟩ := zb1_s hf
      refine z_Vp (As := [.int (-1 : Int32)]) (rest := []) ⟨hx, hb, hml, hown, hts⟩ hK (c6_thingsIn (quiet := quiet) (mabove := mabove) (mbelow := mbelow) (typed := typed) (mat := mat) (mstart := mstart) (mtoken := mtoken) (mvalue := mvalue) (many := many) (book := book) (images := images) (mkept := mkept) (aside := aside) (refused := refused) (text := text) (items := items) (drawn := drawn) (row := row) (best := best) (q := q) hc11) (cwV 1 hts gX6_belief_X6_thingsIn rfl rfl rfl hd6_thingsIn ⟨Nat.le_of_ble_eq_true rfl, Nat.le_of_ble_eq_true rfl⟩) hP rfl rfl rfl rfl hl.1 rfl rfl (Nat.le_of_ble_eq_true rfl) (zD_g DX6_belief 15 rfl) ⟨Nat.zero_le _, Nat.zero_le _⟩ ?_
      refine lv_aload_n hx hb (zD_g DX6_belief 16 rfl) rfl (lv_at hl 0 rfl) ?_
      refine lv_iload_n hx hb (zD_g DX6_belief 17 rfl) rfl (lv_at hl 1 rfl) ?_
      obtain ⟨r12, hc13, hf⟩ := zb1_s hf
      refine z_Vp (As := [.int a_g]) (rest := [.int r10]) ⟨hx, hb, hml, hown, hts⟩ hK (c6_thingsIn (quiet := quiet) (mabove := mabove) (mbelow := mbelow) (typed := typed) (mat := mat) (mstart := mstart) (mtoken := mtoken) (mvalue := mvalue) (many := many) (book := book) (images := images) (mkept := mkept) (aside := aside) (refused := refused) (text := text) (items := items) (drawn := drawn) (row := row) (best := best) (q := q) hc13) (cwV 1 hts gX6_belief_X6_thingsIn rfl rfl rfl hd6_thingsIn ⟨Nat.le_of_ble_eq_true rfl, Nat.le_of_ble_eq_true rfl⟩) hP rfl rfl rfl rfl hl.1 rfl rfl (Nat.le_of_ble_eq_true rfl) (zD_g DX6_belief 18 rfl) ⟨Nat.zero_le _, Nat.zero_le _⟩ ?_
      refine lv_ior hx hb (zD_g DX6_belief 19 rfl) ?_
      refine lv_topi (fun x14 ex14 => ?_)
      replace hf := zl_s hf x14 ex14
      refine lv_istore (lv' := [(4, .int x14), (0, .ref (q 0)), (1, .int a_g), (2, .int a_c), (3, .int a_heard)]) hx hb (zD_g DX6_belief 20 rfl) hl (by decide) rfl (fun ls hl => ?_)
      refine lv_lconst (v := (0 : Int64)) hx hb (zD_g DX6_belief 21 rfl) (by decide) ?_
      refine lv_lstore (lv' := [(5, .long (0 : Int64)), (4, .int x14), (0, .ref (q 0)), (1, .int a_g), (2, .int a_c), (3, .int a_heard)]) hx hb (zD_g DX6_belief 22 rfl) hl (by decide) rfl (fun ls hl => ?_)
      refine lv_lconst (v := (0 : Int64)) hx hb (zD_g DX6_belief 23 rfl) (by decide) ?_
      refine lv_lstore (lv' := [(7, .long (0 : Int64)), (5, .long (0 : Int64)), (4, .int x14), (0, .ref (q 0)), (1, .int a_g), (2, .int a_c), (3, .int a_heard)]) hx hb (zD_g DX6_belief 24 rfl) hl (by decide) rfl (fun ls hl => ?_)
      refine lv_iconst (v := (0 : Int32)) hx hb (zD_g DX6_belief 25 rfl) (by decide) ?_
      refine lv_istore (lv' := [(9, .int (0 : Int32)), (7, .long (0 : Int64)), (5, .long (0 : Int64)), (4, .int x14), (0, .ref (q 0)), (1, .int a_g), (2, .int a_c), (3, .int a_heard)]) hx hb (zD_g DX6_belief 26 rfl) hl (by decide) rfl (fun ls hl => ?_)
      have hL18 : ∀ (k18 : Int64 → Int64 → Option (Int32 × Int64 × Int64 × (Nat → Int32))) (hk18 : ∀ (y38 : Int64) (y39 : Int64), k18 y38 y39 = some (r, d_mabove, d_mbelow, d_refused) → ∀ (H : Heap) (locs : List Loc), va_P D vwCl (cMod cI cZ q quiet mabove mbelow typed mat mstart mtoken mvalue many book images mkept aside refused text items drawn row best) H → va_D A (cMod cI cZ q quiet mabove mbelow typed mat mstart mtoken mvalue many book images mkept aside refused text items drawn row best) → va_S A s.heap H locs → ∀ (ls : Array Slot), lv_has ls 13 [(0, .ref (q 0)), (5, .long y38), (7, .long y39)] → W p l e rm6_belief s m args below meth c H locs 0 0 Q (F0 m 173 ls [])) (n18 : Nat) (y15 : Int64) (y16 : Int64) (y17 : Int32), L6_belief_47 k18 book a_g a_c a_heard x14 n18 y15 y16 y17 = some (r, d_mabove, d_mbelow, d_refused) → ∀ (H : Heap) (locs : List Loc), va_P D vwCl (cMod cI cZ q quiet mabove mbelow typed mat mstart mtoken mvalue many book images mkept aside refused text items drawn row best) H → va_D A (cMod cI cZ q quiet mabove mbelow typed mat mstart mtoken mvalue many book images mkept aside refused text items drawn row best) → va_S A s.heap H locs → ∀ (ls : Array Slot), lv_has ls 13 [(0, .ref (q 0)), (1, .int a_g), (2, .int a_c), (3, .int a_heard), (4, .int x14), (5, .long y15), (7, .long y16), (9, .int y17)] → W p l e rm6_belief s m args below meth c H locs 0 0 Q (F0 m 47 ls []) := by
        intro k18 hk18 n18
        induction n18 with
        | zero =>
          intro y15 y16 y17 hf
          cases hf
        | succ n18 ih18 =>
          intro y15 y16 y17 hf H locs hP hD hS ls hl
          rw [L6_belief_47] at hf
          refine lv_iload hx hb (zD_g DX6_belief 27 rfl) (lv_at hl 7 rfl) ?_
          refine lv_iconst (v := (1 : Int32)) hx hb (zD_g DX6_belief 28 rfl) (by decide) ?_
          refine lv_aload_n hx hb (zD_g DX6_belief 29 rfl) rfl (lv_at hl 0 rfl) ?_
          refine va_get (D := D) (ci := 5) (v := .ref (q 1)) (C := RX6) (T := TX6) (N := 19) hx hb hts in6_belief_6 hown hK.1 hP 0 rfl rfl 0 (by decide) (hts _ (List.mem_of_getElem? (i := 2) rfl)) (fun _ h9 => h9) rfl (zD_g DX6_belief 30 rfl) ?_
          refine lv_iconst (v := (0 : Int32)) hx hb (zD_g DX6_belief 31 rfl) (by decide) ?_
          refine z_iald (k := 0) hx hb hK.1 hP 1 0 rfl rfl (by unfold vp_in; decide) rfl (zD_g DX6_belief 32 rfl) ?_
          refine lv_ishl hx hb (zD_g DX6_belief 33 rfl) ?_
          refine lv_icmp_ge (tgt := 173) hx hb (zD_g DX6_belief 34 rfl) (by decide) (fun c19 => ?_) (fun c19 => ?_)
          · replace hf := z_t c19 hf
            exact hk18 _ _ hf _ _ hP hD hS ls (lv_sub hl [0, 5, 6] rfl)
          · replace hf := z_f c19 hf
            refine lv_iload hx hb (zD_g DX6_belief 35 rfl) (lv_at hl 7 rfl) ?_
            refine lv_iload hx hb (zD_g DX6_belief 36 rfl) (lv_at hl 4 rfl) ?_
            refine lv_iconst (v := (-1 : Int32)) hx hb (zD_g DX6_belief 37 rfl) (by decide) ?_
            refine lv_ixor hx hb (zD_g DX6_belief 38 rfl) ?_
            refine lv_iand hx hb (zD_g DX6_belief 39 rfl) ?_
            refine lv_if_ne (tgt := 167) hx hb (zD_g DX6_belief 40 rfl) (by decide) (fun c20 => ?_) (fun c20 => ?_)
            · replace hf := z_f c20 hf
              refine lv_iinc (v := y17 + 1) (lv' := [(9, .int (y17 + 1)), (0, .ref (q 0)), (1, .int a_g), (2, .int a_c), (3, .int a_heard), (4, .int x14), (5, .long y15), (7, .long y16)]) (k := 7) hx hb (zD_g DX6_belief 96 rfl) hl rfl rfl (by decide) rfl (fun ls hl => ?_)
              refine lv_goto (tgt := 47) hx hb (zD_g DX6_belief 97 rfl) (by decide) ?_
              exact ih18 _ _ _ hf _ _ hP hD hS ls (lv_sub hl [1, 2, 3, 4, 5, 6, 7, 0] rfl)
            · replace hf := z_t c20 hf
              refine lv_aload_n hx hb (zD_g DX6_belief 41 rfl) rfl (lv_at hl 0 rfl) ?_
              refine lv_iload_n hx hb (zD_g DX6_belief 42 rfl) rfl (lv_at hl 1 rfl) ?_
              refine lv_iload hx hb (zD_g DX6_belief 43 rfl) (lv_at hl 7 rfl) ?_
              obtain ⟨r21, hc22, hf⟩ := zb1_s hf
              refine z_Vp (As := [.int a_g, .int y17]) (rest := []) ⟨hx, hb, hml, hown, hts⟩ hK (c6_isHeard (quiet := quiet) (mabove := mabove) (mbelow := mbelow) (typed := typed) (mat := mat) (mstart := mstart) (mtoken := mtoken) (mvalue := mvalue) (many := many) (book := book) (images := images) (mkept := mkept) (aside := aside) (refused := refused) (text := text) (items := items) (drawn := drawn) (row := row) (best := best) (q := q) hc22) (cwV 2 hts gX6_belief_X6_isHeard rfl rfl rfl hd6_isHeard ⟨Nat.le_of_ble_eq_true rfl, Nat.le_of_ble_eq_true rfl⟩) hP rfl rfl rfl rfl hl.1 rfl rfl (Nat.le_of_ble_eq_true rfl) (zD_g DX6_belief 44 rfl) ⟨Nat.zero_le _, Nat.zero_le _⟩ ?_
              refine lv_iload_n hx hb (zD_g DX6_belief 45 rfl) rfl (lv_at hl 3 rfl) ?_
              refine lv_icmp_ne (tgt := 167) hx hb (zD_g DX6_belief 46 rfl) (by decide) (fun c23 => ?_) (fun c23 => ?_)
              · replace hf := z_f c23 hf
                refine lv_iinc (v := y17 + 1) (lv' := [(9, .int (y17 + 1)), (0, .ref (q 0)), (1, .int a_g), (2, .int a_c), (3, .int a_heard), (4, .int x14), (5, .long y15), (7, .long y16)]) (k := 7) hx hb (zD_g DX6_belief 96 rfl) hl rfl rfl (by decide) rfl (fun ls hl => ?_)
                refine lv_goto (tgt := 47) hx hb (zD_g DX6_belief 97 rfl) (by decide) ?_
                exact ih18 _ _ _ hf _ _ hP hD hS ls (lv_sub hl [1, 2, 3, 4, 5, 6, 7, 0] rfl)
              · replace hf := z_t c23 hf
                refine lv_lconst (v := (1 : Int64)) hx hb (zD_g DX6_belief 47 rfl) (by decide) ?_
                refine lv_lstore (lv' := [(10, .long (1 : Int64)), (0, .ref (q 0)), (1, .int a_g), (2, .int a_c), (3, .int a_heard), (4, .int x14), (5, .long y15), (7, .long y16), (9, .int y17)]) hx hb (zD_g DX6_belief 48 rfl) hl (by decide) rfl (fun ls hl => ?_)
                refine lv_iconst (v := (0 : Int32)) hx hb (zD_g DX6_belief 49 rfl) (by decide) ?_
                refine lv_istore (lv' := [(12, .int (0 : Int32)), (10, .long (1 : Int64)), (0, .ref (q 0)), (1, .int a_g), (2, .int a_c), (3, .int a_heard), (4, .int x14), (5, .long y15), (7, .long y16), (9, .int y17)]) hx hb (zD_g DX6_belief 50 rfl) hl (by decide) rfl (fun ls hl => ?_)
                have hL26 : ∀ (k26 : Int64 → Option (Int32 × Int64 × Int64 × (Nat → Int32))) (hk26 : ∀ (y33 : Int64), k26 y33 = some (r, d_mabove, d_mbelow, d_refused) → ∀ (H : Heap) (locs : List Loc), va_P D vwCl (cMod cI cZ q quiet mabove mbelow typed mat mstart mtoken mvalue many book images mkept aside refused text items drawn row best) H → va_D A (cMod cI cZ q quiet mabove mbelow typed mat mstart mtoken mvalue many book images mkept aside refused text items drawn row best) → va_S A s.heap H locs → ∀ (ls : Array Slot), lv_has ls 13 [(0, .ref (q 0)), (1, .int a_g), (2, .int a_c), (3, .int a_heard), (4, .int x14), (5, .long y15), (7, .long y16), (9, .int y17), (10, .long y33)] → W p l e rm6_belief s m args below meth c H locs 0 0 Q (F0 m 144 ls [])) (n26 : Nat) (y24 : Int64) (y25 : Int32), L6_belief_87 k26 book a_c x14 y17 n26 y24 y25 = some (r, d_mabove, d_mbelow, d_refused) → ∀ (H : Heap) (locs : List Loc), va_P D vwCl (cMod cI cZ q quiet mabove mbelow typed mat mstart mtoken mvalue many book images mkept aside refused text items drawn row best) H → va_D A (cMod cI cZ q quiet mabove mbelow typed mat mstart mtoken mvalue many book images mkept aside refused text items drawn row best) → va_S A s.heap H locs → ∀ (ls : Array Slot), lv_has ls 13 [(0, .ref (q 0)), (1, .int a_g), (2, .int a_c), (3, .int a_heard), (4, .int x14), (5, .long y15), (7, .long y16), (9, .int y17), (10, .long y24), (12, .int y25)] → W p l e rm6_belief s m args below meth c H locs 0 0 Q (F0 m 87 ls []) := by
                  intro k26 hk26 n26
                  induction n26 with
                  | zero =>
                    intro y24 y25 hf
                    cases hf
                  | succ n26 ih26 =>
                    intro y24 y25 hf H locs hP hD hS ls hl
                    rw [L6_belief_87] at hf
                    refine lv_iload hx hb (zD_g DX6_belief 51 rfl) (lv_at hl 9 rfl) ?_
                    refine lv_aload_n hx hb (zD_g DX6_belief 52 rfl) rfl (lv_at hl 0 rfl) ?_
                    refine va_get (D := D) (ci := 5) (v := .ref (q 1)) (C := RX6) (T := TX6) (N := 19) hx hb hts in6_belief_6 hown hK.1 hP 0 rfl rfl 0 (by decide) (hts _ (List.mem_of_getElem? (i := 2) rfl)) (fun _ h9 => h9) rfl (zD_g DX6_belief 53 rfl) ?_
                    refine lv_iconst (v := (0 : Int32)) hx hb (zD_g DX6_belief 54 rfl) (by decide) ?_
                    refine z_iald (k := 0) hx hb hK.1 hP 1 0 rfl rfl (by unfold vp_in; decide) rfl (zD_g DX6_belief 55 rfl) ?_
                    refine lv_icmp_ge (tgt := 144) hx hb (zD_g DX6_belief 56 rfl) (by decide) (fun c27 => ?_) (fun c27 => ?_)
                    · replace hf := z_t c27 hf
                      exact hk26 _ hf _ _ hP hD hS ls (lv_sub hl [0, 1, 2, 3, 4, 5, 6, 7, 8] rfl)
                    · replace hf := z_f c27 hf
                      refine lv_lload hx hb (zD_g DX6_belief 57 rfl) (lv_at hl 8 rfl) ?_
                      refine lv_iload hx hb (zD_g DX6_belief 58 rfl) (lv_at hl 4 rfl) ?_
                      refine lv_iload hx hb (zD_g DX6_belief 59 rfl) (lv_at hl 9 rfl) ?_
                      refine lv_ishr hx hb (zD_g DX6_belief 60 rfl) ?_
                      refine lv_iconst (v := (1 : Int32)) hx hb (zD_g DX6_belief 61 rfl) (by decide) ?_
                      refine lv_iand hx hb (zD_g DX6_belief 62 rfl) ?_
                      refine lv_if_ne (tgt := 114) hx hb (zD_g DX6_belief 63 rfl) (by decide) (fun c28 => ?_) (fun c28 => ?_)
                      · replace hf := z_f c28 hf
                        refine lv_iload hx hb (zD_g DX6_belief 66 rfl) (lv_at hl 7 rfl) ?_
                        refine lv_iload hx hb (zD_g DX6_belief 67 rfl) (lv_at hl 9 rfl) ?_
                        refine lv_ishr hx hb (zD_g DX6_belief 68 rfl) ?_
                        refine lv_iconst (v := (1 : Int32)) hx hb (zD_g DX6_belief 69 rfl) (by decide) ?_
                        refine lv_iand hx hb (zD_g DX6_belief 70 rfl) ?_
                        refine lv_iconst (v := (1 : Int32)) hx hb (zD_g DX6_belief 71 rfl) (by decide) ?_
                        refine lv_icmp_ne (tgt := 130) hx hb (zD_g DX6_belief 72 rfl) (by decide) (fun c29 => ?_) (fun c29 => ?_)
                        · replace hf := z_f c29 hf
                          refine lv_bipush (v := (10 : Int32)) hx hb (zD_g DX6_belief 76 rfl) (by decide) ?_
                          refine lv_iload_n hx hb (zD_g DX6_belief 77 rfl) rfl (lv_at hl 2 rfl) ?_
                          refine lv_isub hx hb (zD_g DX6_belief 78 rfl) ?_
                          refine lv_i2l (v := (((10 : Int32) - a_c)).toInt64) hx hb (zD_g DX6_belief 79 rfl) rfl ?_
                          refine lv_lmul hx hb (zD_g DX6_belief 80 rfl) ?_
                          refine lv_topl (fun x30 ex30 => ?_)
                          replace hf := zl_s hf x30 ex30
                          refine lv_lstore (lv' := [(10, .long x30), (0, .ref (q 0)), (1, .int a_g), (2, .int a_c), (3, .int a_heard), (4, .int x14), (5, .long y15), (7, .long y16), (9, .int y17), (12, .int y25)]) hx hb (zD_g DX6_belief 81 rfl) hl (by decide) rfl (fun ls hl => ?_)
                          refine lv_iinc (v := y25 + 1) (lv' := [(12, .int (y25 + 1)), (10, .long x30), (0, .ref (q 0)), (1, .int a_g), (2, .int a_c), (3, .int a_heard), (4, .int x14), (5, .long y15), (7, .long y16), (9, .int y17)]) (k := 9) hx hb (zD_g DX6_belief 82 rfl) hl rfl rfl (by decide) rfl (fun ls hl => ?_)
                          refine lv_goto (tgt := 87) hx hb (zD_g DX6_belief 83 rfl) (by decide) ?_
                          exact ih26 _ _ hf _ _ hP hD hS ls (lv_sub hl [2, 3, 4, 5, 6, 7, 8, 9, 1, 0] rfl)
                        · replace hf := z_t c29 hf
                          refine lv_iload_n hx hb (zD_g DX6_belief 73 rfl) rfl (lv_at hl 2 rfl) ?_
                          refine lv_i2l (v := (a_c).toInt64) hx hb (zD_g DX6_belief 74 rfl) rfl ?_
                          refine lv_goto (tgt := 135) hx hb (zD_g DX6_belief 75 rfl) (by decide) ?_
                          refine lv_lmul hx hb (zD_g DX6_belief 80 rfl) ?_
                          refine lv_topl (fun x31 ex31 => ?_)
                          replace hf := zl_s hf x31 ex31
                          refine lv_lstore (lv' := [(10, .long x31), (0, .ref (q 0)), (1, .int a_g), (2, .int a_c), (3, .int a_heard), (4, .int x14), (5, .long y15), (7, .long y16), (9, .int y17), (12, .int y25)]) hx hb (zD_g DX6_belief 81 rfl) hl (by decide) rfl (fun ls hl => ?_)
                          refine lv_iinc (v := y25 + 1) (lv' := [(12, .int (y25 + 1)), (10, .long x31), (0, .ref (q 0)), (1, .int a_g), (2, .int a_c), (3, .int a_heard), (4, .int x14), (5, .long y15), (7, .long y16), (9, .int y17)]) (k := 9) hx hb (zD_g DX6_belief 82 rfl) hl rfl rfl (by decide) rfl (fun ls hl => ?_)
                          refine lv_goto (tgt := 87) hx hb (zD_g DX6_belief 83 rfl) (by decide) ?_
                          exact ih26 _ _ hf _ _ hP hD hS ls (lv_sub hl [2, 3, 4, 5, 6, 7, 8, 9, 1, 0] rfl)
                      · replace hf := z_t c28 hf
                        refine lv_lconst (v := (1 : Int64)) hx hb (zD_g DX6_belief 64 rfl) (by decide) ?_
                        refine lv_goto (tgt := 135) hx hb (zD_g DX6_belief 65 rfl) (by decide) ?_
                        refine lv_lmul hx hb (zD_g DX6_belief 80 rfl) ?_
                        refine lv_topl (fun x32 ex32 => ?_)
                        replace hf := zl_s hf x32 ex32
                        refine lv_lstore (lv' := [(10, .long x32), (0, .ref (q 0)), (1, .int a_g), (2, .int a_c), (3, .int a_heard), (4, .int x14), (5, .long y15), (7, .long y16), (9, .int y17), (12, .int y25)]) hx hb (zD_g DX6_belief 81 rfl) hl (by decide) rfl (fun ls hl => ?_)
                        refine lv_iinc (v := y25 + 1) (lv' := [(12, .int (y25 + 1)), (10, .long x32), (0, .ref (q 0)), (1, .int a_g), (2, .int a_c), (3, .int a_heard), (4, .int x14), (5, .long y15), (7, .long y16), (9, .int y17)]) (k := 9) hx hb (zD_g DX6_belief 82 rfl) hl rfl rfl (by decide) rfl (fun ls hl => ?_)
                        refine lv_goto (tgt := 87) hx hb (zD_g DX6_belief 83 rfl) (by decide) ?_
                        exact ih26 _ _ hf _ _ hP hD hS ls (lv_sub hl [2, 3, 4, 5, 6, 7, 8, 9, 1, 0] rfl)
                refine hL26 _ (fun y33 hf H locs hP hD hS ls hl => ?_) _ _ _ hf _ _ hP hD hS ls (lv_sub hl [2, 3, 4, 5, 6, 7, 8, 9, 1, 0] rfl)
                refine lv_lload hx hb (zD_g DX6_belief 84 rfl) (lv_at hl 5 rfl) ?_
                refine lv_lload hx hb (zD_g DX6_belief 85 rfl) (lv_at hl 8 rfl) ?_
                refine lv_ladd hx hb (zD_g DX6_belief 86 rfl) ?_
                refine lv_topl (fun x34 ex34 => ?_)
                replace hf := zl_s hf x34 ex34
                refine lv_lstore (lv' := [(5, .long x34), (0, .ref (q 0)), (1, .int a_g), (2, .int a_c), (3, .int a_heard), (4, .int x14), (7, .long y16), (9, .int y17), (10, .long y33)]) hx hb (zD_g DX6_belief 87 rfl) hl (by decide) rfl (fun ls hl => ?_)
                refine lv_lload hx hb (zD_g DX6_belief 88 rfl) (lv_at hl 6 rfl) ?_
                refine lv_iload hx hb (zD_g DX6_belief 89 rfl) (lv_at hl 7 rfl) ?_
                refine lv_if_ne (tgt := 163) hx hb (zD_g DX6_belief 90 rfl) (by decide) (fun c35 => ?_) (fun c35 => ?_)
                · replace hf := z_f c35 hf
                  refine lv_lconst (v := (0 : Int64)) hx hb (zD_g DX6_belief 93 rfl) (by decide) ?_
                  refine lv_ladd hx hb (zD_g DX6_belief 94 rfl) ?_
                  refine lv_topl (fun x36 ex36 => ?_)
                  replace hf := zl_s hf x36 ex36
                  refine lv_lstore (lv' := [(7, .long x36), (5, .long x34), (0, .ref (q 0)), (1, .int a_g), (2, .int a_c), (3, .int a_heard), (4, .int x14), (9, .int y17), (10, .long y33)]) hx hb (zD_g DX6_belief 95 rfl) hl (by decide) rfl (fun ls hl => ?_)
                  refine lv_iinc (v := y17 + 1) (lv' := [(9, .int (y17 + 1)), (7, .long x36), (5, .long x34), (0, .ref (q 0)), (1, .int a_g), (2, .int a_c), (3, .int a_heard), (4, .int x14), (10, .long y33)]) (k := 7) hx hb (zD_g DX6_belief 96 rfl) hl rfl rfl (by decide) rfl (fun ls hl => ?_)
                  refine lv_goto (tgt := 47) hx hb (zD_g DX6_belief 97 rfl) (by decide) ?_
                  exact ih18 _ _ _ hf _ _ hP hD hS ls (lv_sub hl [3, 4, 5, 6, 7, 2, 1, 0] rfl)
                · replace hf := z_t c35 hf
                  refine lv_lload hx hb (zD_g DX6_belief 91 rfl) (lv_at hl 8 rfl) ?_
                  refine lv_goto (tgt := 164) hx hb (zD_g DX6_belief 92 rfl) (by decide) ?_
                  refine lv_ladd hx hb (zD_g DX6_belief 94 rfl) ?_
                  refine lv_topl (fun x37 ex37 => ?_)
                  replace hf := zl_s hf x37 ex37
                  refine lv_lstore (lv' := [(7, .long x37), (5, .long x34), (0, .ref (q 0)), (1, .int a_g), (2, .int a_c), (3, .int a_heard), (4, .int x14), (9, .int y17), (10, .long y33)]) hx hb (zD_g DX6_belief 95 rfl) hl (by decide) rfl (fun ls hl => ?_)
                  refine lv_iinc (v := y17 + 1) (lv' := [(9, .int (y17 + 1)), (7, .long x37), (5, .long x34), (0, .ref (q 0)), (1, .int a_g), (2, .int a_c), (3, .int a_heard), (4, .int x14), (10, .long y33)]) (k := 7) hx hb (zD_g DX6_belief 96 rfl) hl rfl rfl (by decide) rfl (fun ls hl => ?_)
                  refine lv_goto (tgt := 47) hx hb (zD_g DX6_belief 97 rfl) (by decide) ?_
                  exact ih18 _ _ _ hf _ _ hP hD hS ls (lv_sub hl [3, 4, 5, 6, 7, 2, 1, 0] rfl)
      refine hL18 _ (fun y38 y39 hf H locs hP hD hS ls hl => ?_) _ _ _ _ hf _ _ hP hD hS ls (lv_sub hl [4, 5, 6, 7, 3, 2, 1, 0] rfl)
      refine lv_lload hx hb (zD_g DX6_belief 98 rfl) (lv_at hl 1 rfl) ?_
      refine lv_lconst (v := (0 : Int64)) hx hb (zD_g DX6_belief 99 rfl) (by decide) ?_
      refine W.lcmp hx hb (zD_g DX6_belief 100 rfl) ?_
      refine lv_if_ne (tgt := 185) hx hb (zD_g DX6_belief 101 rfl) (by decide) (fun c40 => ?_) (fun c40 => ?_)
      · replace hf := z_f c40 hf
        refine lv_lload hx hb (zD_g DX6_belief 105 rfl) (lv_at hl 2 rfl) ?_
        refine lv_lload hx hb (zD_g DX6_belief 106 rfl) (lv_at hl 1 rfl) ?_
        obtain ⟨r41, hc42, hf⟩ := zb1_s hf
        refine z_Sp (As := [.long y39, .long y38]) (rest := []) ⟨hx, hb, hml, hown, hts⟩ hK (c6_divisor  hc42) (va_cwS 2 hts gX6_belief_X6_divisor rfl rfl rfl hd6_divisor ⟨Nat.le_of_ble_eq_true rfl, Nat.le_of_ble_eq_true rfl⟩) (hP.sub [] rfl) rfl hl.1 rfl rfl (Nat.le_of_ble_eq_true rfl) (zD_g DX6_belief 107 rfl) ⟨Nat.zero_le _, Nat.zero_le _⟩ ?_
        refine lv_lstore (lv' := [(9, .long r41), (0, .ref (q 0)), (5, .long y38), (7, .long y39)]) hx hb (zD_g DX6_belief 108 rfl) hl (by decide) rfl (fun ls hl => ?_)
        refine lv_aload_n hx hb (zD_g DX6_belief 109 rfl) rfl (lv_at hl 1 rfl) ?_
        refine lv_lload hx hb (zD_g DX6_belief 110 rfl) (lv_at hl 3 rfl) ?_
        refine lv_lload hx hb (zD_g DX6_belief 111 rfl) (lv_at hl 0 rfl) ?_
        obtain ⟨h43, hf⟩ := zdl_s hf
        refine lv_ldiv hx hb (zD_g DX6_belief 112 rfl) h43 ?_
        refine lv_topl (fun x44 ex44 => ?_)
        replace hf := zl_s hf x44 ex44
        refine z_put (D := D) (ci := 5) (v := .long x44) (ty := .long) (C := RX6) (T := TX6) (N := 19) (ws' := (cMod cI cZ q quiet x44 mbelow typed mat mstart mtoken mvalue many book images mkept aside refused text items drawn row best)) hx hb hts in6_belief_6 tyX6 tyX6_ok nmX6 hown hK.1 hP hD hS 0 rfl rfl 6 (by decide) (hts _ (List.mem_of_getElem? (i := 3) rfl)) (fun _ h9 => h9) rfl (tyX6_ok 6 (by decide)) rfl rfl (Nat.le_of_ble_eq_true rfl) rfl (zD_g DX6_belief 113 rfl) (fun H locs hP hD hS => ?_)
        refine lv_aload_n hx hb (zD_g DX6_belief 114 rfl) rfl (lv_at hl 1 rfl) ?_
        refine lv_lload hx hb (zD_g DX6_belief 115 rfl) (lv_at hl 2 rfl) ?_
        refine lv_lload hx hb (zD_g DX6_belief 116 rfl) (lv_at hl 0 rfl) ?_
        obtain ⟨h45, hf⟩ := zdl_s hf
        refine lv_ldiv hx hb (zD_g DX6_belief 117 rfl) h45 ?_
        refine lv_topl (fun x46 ex46 => ?_)
        replace hf := zl_s hf x46 ex46
        refine z_put (D := D) (ci := 5) (v := .long x46) (ty := .long) (C := RX6) (T := TX6) (N := 19) (ws' := (cMod cI cZ q quiet x44 x46 typed mat mstart mtoken mvalue many book images mkept aside refused text items drawn row best)) hx hb hts in6_belief_6 tyX6 tyX6_ok nmX6 hown hK.1 hP hD hS 0 rfl rfl 7 (by decide) (hts _ (List.mem_of_getElem? (i := 4) rfl)) (fun _ h9 => h9) rfl (tyX6_ok 7 (by decide)) rfl rfl (Nat.le_of_ble_eq_true rfl) rfl (zD_g DX6_belief 118 rfl) (fun H locs hP hD hS => ?_)
        refine lv_iconst (v := (1 : Int32)) hx hb (zD_g DX6_belief 119 rfl) (by decide) ?_
        cases hf
        exact hret _ _ _ _ hP hD hS (zD_g DX6_belief 120 rfl)
      · replace hf := z_t c40 hf
        refine lv_aload_n hx hb (zD_g DX6_belief 102 rfl) rfl (lv_at hl 0 rfl) ?_
        obtain ⟨r47, refused_48, hc49, hf⟩ := zb2_s hf
        refine z_Vm (As := []) (rest := []) (ws' := (cMod cI cZ q quiet mabove mbelow typed mat mstart mtoken mvalue many book images mkept aside refused_48 text items drawn row best)) ⟨hx, hb, hml, hown, hts⟩ hK (c6_no (quiet := quiet) (mabove := mabove) (mbelow := mbelow) (typed := typed) (mat := mat) (mstart := mstart) (mtoken := mtoken) (mvalue := mvalue) (many := many) (book := book) (images := images) (mkept := mkept) (aside := aside) (refused := refused) (text := text) (items := items) (drawn := drawn) (row := row) (best := best) (q := q) hc49) (cwV 0 hts gX6_belief_X6_no rfl rfl rfl hd6_no ⟨Nat.le_of_ble_eq_true rfl, Nat.le_of_ble_eq_true rfl⟩) hP hD hS hA 11 [0, 1, 2, 3, 4, 5, 6, 7, 8, 9, 10] [] [0, 1, 2, 3, 4, 5, 6, 7, 8, 9, 10] (by decide +kernel) rfl rfl rfl rfl rfl rfl rfl hl.1 rfl rfl (Nat.le_of_ble_eq_true rfl) (zD_g DX6_belief 103 rfl) ⟨Nat.zero_le _, Nat.zero_le _⟩ (fun H locs hP hD hS => ?_)
        cases hf
        exact hret _ _ _ _ hP hD hS (zD_g DX6_belief 104 rfl)
    · replace hf := z_t c9 hf
      refine lv_aload_n hx hb (zD_g DX6_belief 10 rfl) rfl (lv_at hl 0 rfl) ?_
      obtain ⟨r50, refused_51, hc52, hf⟩ := zb2_s hf
      refine z_Vm (As := []) (rest := []) (ws' := (cMod cI cZ q quiet mabove mbelow typed mat mstart mtoken mvalue many book images mkept aside refused_51 text items drawn row best)) ⟨hx, hb, hml, hown, hts⟩ hK (c6_bad (quiet := quiet) (mabove := mabove) (mbelow := mbelow) (typed := typed) (mat := mat) (mstart := mstart) (mtoken := mtoken) (mvalue := mvalue) (many := many) (book := book) (images := images) (mkept := mkept) (aside := aside) (refused := refused) (text := text) (items := items) (drawn := drawn) (row := row) (best := best) (q := q) hc52) (cwV 0 hts gX6_belief_X6_bad rfl rfl rfl hd6_bad ⟨Nat.le_of_ble_eq_true rfl, Nat.le_of_ble_eq_true rfl⟩) hP hD hS hA 11 [0, 1, 2, 3, 4, 5, 6, 7, 8, 9, 10] [] [0, 1, 2, 3, 4, 5, 6, 7, 8, 9, 10] (by decide +kernel) rfl rfl rfl rfl rfl rfl rfl hl.1 rfl rfl (Nat.le_of_ble_eq_true rfl) (zD_g DX6_belief 11 rfl) ⟨Nat.zero_le _, Nat.zero_le _⟩ (fun H locs hP hD hS => ?_)
      cases hf
      exact hret _ _ _ _ hP hD hS (zD_g DX6_belief 12 rfl)
abbrev dlX6_areThings : List (Nat × Instr × Nat) := [(0, .iload_n 1, 1), (1, .i2l, 1), (2, .lconst 0, 1), (3, .iconst 1, 1), (4, .aload_n 0, 1), (5, .getfield 7, 3), (8, .iconst 0, 1), (9, .iaload, 1), (10, .ishl, 1), (11, .iconst 1, 1), (12, .isub, 1), (13, .i2l, 1), (14, .invokestatic 56, 3), (17, .ireturn, 1)]
theorem DX6_areThings : zD cX6_areThings dlX6_areThings = true := by decide +kernel
set_option maxRecDepth 20000 in
theorem ggX6_areThings_X6_in : GoodIn wsX6_areThings wsX6_in := goodIn_r _ [5] (by decide +kernel) (by decide +kernel)
set_option maxRecDepth 20000 in
theorem gX6_areThings_X6_in : GoodIn wsX6_areThings (va_wsS RX6 56 yX6_in wsX6_in) := goodIn_app (goodIn_of _ (by decide +kernel)) ggX6_areThings_X6_in
theorem hd6_areThings : yX6_areThings.cls = RX6 ∧ yX6_areThings.cls ≠ "java/lang/invoke/MethodHandle" ∧ yX6_areThings.cls ≠ "java/lang/invoke/VarHandle" ∧ (parseMethodDescriptor yX6_areThings.desc).map (fun d => d.parameters.length) = some 1 := by decide +kernel
abbrev rm6_areThings : Room := { frames := 1, cells := 0, slots := 0, locals := 25 }
theorem in6_areThings_6 : ∀ w ∈ wsX60, w ∈ wsX6_areThings := fun w h => List.mem_cons_of_mem _ (List.mem_append_right _ h)
set_option maxHeartbeats 4000000 in
set_option maxRecDepth 100000 in
theorem c6_areThings {l : Launch} {D : va_G} {cI cZ cB : ClassId} {q : Nat → Nat} {quiet : Int32} {mabove : Int64} {mbelow : Int64} {typed : Int32} {mat : Int32} {mstart : Int32} {mtoken : Int32} {mvalue : Int32} {many : Int32} {book : Nat → Int32} {images : Nat → Int32} {mkept : Nat → Int32} {aside : Nat → Int32} {refused : Nat → Int32} {text : Nat → Int32} {items : Nat → Int32} {drawn : Nat → Int32} {row : Nat → Int32} {best : Nat → Int32} {a_set : Int32} {r : Int32}  (hf : f6_areThings book a_set = some r) : Met l yX6_areThings wsX6_areThings rm6_areThings (zPp D cI cZ cB [.ref (q 0), .int a_set] (cMod cI cZ q quiet mabove mbelow typed mat mstart mtoken mvalue many book images mkept aside refused text items drawn row best)) (zQp (some (.int r))) 0 0 (fun _ => False) := by
  unfold f6_areThings at hf
  refine z_pureZ RX6 (by decide +kernel) rfl rfl (Nat.le_of_ble_eq_true rfl) ?_
  intro p e s m args below meth c Q ls hx hb hml hown hts hK hP hret hl
  have hl : lv_has ls 2 [(0, .ref (q 0)), (1, .int a_set)] := hl
  refine lv_iload_n hx hb (zD_g DX6_areThings 0 rfl) rfl (lv_at hl 1 rfl) ?_
  refine lv_i2l (v := (a_set).toInt64) hx hb (zD_g DX6_areThings 1 rfl) rfl ?_
  refine lv_lconst (v := (0 : Int64)) hx hb (zD_g DX6_areThings 2 rfl) (by decide) ?_
  refine lv_iconst (v := (1 : Int32)) hx hb (zD_g DX6_areThings 3 rfl) (by decide) ?_
  refine lv_aload_n hx hb (zD_g DX6_areThings 4 rfl) rfl (lv_at hl 0 rfl) ?_
  refine va_get (D := D) (ci := 5) (v := .ref (q 1)) (C := RX6) (T := TX6) (N := 19) hx hb hts in6_areThings_6 hown hK.1 hP 0 rfl rfl 0 (by decide) (hts _ (List.mem_of_getElem? (i := 1) rfl)) (fun _ h9 => h9) rfl (zD_g DX6_areThings 5 rfl) ?_
  refine lv_iconst (v := (0 : Int32)) hx hb (zD_g DX6_areThings 6 rfl) (by decide) ?_
  refine z_iald (k := 0) hx hb hK.1 hP 1 0 rfl rfl (by unfold vp_in; decide) rfl (zD_g DX6_areThings 7 rfl) ?_
  refine lv_ishl hx hb (zD_g DX6_areThings 8 rfl) ?_
  refine lv_iconst (v := (1 : Int32)) hx hb (zD_g DX6_areThings 9 rfl) (by decide) ?_
  refine lv_isub hx hb (zD_g DX6_areThings 10 rfl) ?_
  refine lv_i2l (v := ((((1 : Int32) <<< ((book 0) &&& 31)) - (1 : Int32))).toInt64) hx hb (zD_g DX6_areThings 11 rfl) rfl ?_
  obtain ⟨r1, hc2, hf⟩ := zb1_s hf
  refine z_Sp (As := [.long ((a_set).toInt64), .long (0 : Int64), .long (((((1 : Int32) <<< ((book 0) &&& 31)) - (1 : Int32))).toInt64)]) (rest := []) ⟨hx, hb, hml, hown, hts⟩ hK (c6_in  hc2) (va_cwS 3 hts gX6_areThings_X6_in rfl rfl rfl hd6_in ⟨Nat.le_of_ble_eq_true rfl, Nat.le_of_ble_eq_true rfl⟩) (hP.sub [] rfl) rfl hl.1 rfl rfl (Nat.le_of_ble_eq_true rfl) (zD_g DX6_areThings 12 rfl) ⟨Nat.zero_le _, Nat.zero_le _⟩ ?_
  obtain ⟨hz3, hf⟩ := zgb_s hf
  cases hf
  exact hret _ _ hz3 (zD_g DX6_areThings 13 rfl)
abbrev dlX6_knocks : List (Nat × Instr × Nat) := [(0, .aload_n 0, 1), (1, .iload_n 1, 1), (2, .invokevirtual 84, 3), (5, .ifCond .eq 19, 3), (8, .aload_n 0, 1), (9, .iload_n 2, 1), (10, .invokevirtual 231, 3), (13, .ifCond .eq 11, 3), (16, .aload_n 0, 1), (17, .iload_n 3, 1), (18, .invokevirtual 231, 3), (21, .ifCond .ne 8, 3), (24, .aload_n 0, 1), (25, .invokevirtual 66, 3), (28, .ireturn, 1), (29, .aload_n 0, 1), (30, .iload_n 1, 1), (31, .iload_n 2, 1), (32, .invokevirtual 194, 3), (35, .aload_n 0, 1), (36, .iload_n 1, 1), (37, .iload_n 3, 1), (38, .invokevirtual 194, 3), (41, .if_icmp .ne 7, 3), (44, .iconst 0, 1), (45, .goto 4, 3), (48, .iconst 1, 1), (49, .aload_n 0, 1), (50, .iload_n 1, 1), (51, .iload_n 2, 1), (52, .invokevirtual 197, 3), (55, .aload_n 0, 1), (56, .iload_n 1, 1), (57, .iload_n 3, 1), (58, .invokevirtual 197, 3), (61, .if_icmp .ne 7, 3), (64, .iconst 0, 1), (65, .goto 4, 3), (68, .iconst 2, 1), (69, .iadd, 1), (70, .ireturn, 1)]
theorem DX6_knocks : zD cX6_knocks dlX6_knocks = true := by decide +kernel
set_option maxRecDepth 20000 in
theorem ggX6_knocks_X6_isGift : GoodIn wsX6_knocks wsX6_isGift := goodIn_r _ [5, 6, 7, 8, 4, 9, 48, 49, 50, 51, 52, 53, 54, 55, 56, 57, 58, 59, 60, 61, 62, 63, 64, 65, 66] (by decide +kernel) (by decide +kernel)
set_option maxRecDepth 20000 in
theorem gX6_knocks_X6_isGift : GoodIn wsX6_knocks (wsV RX6 84 RX6 yX6_isGift wsX6_isGift) := goodIn_app (goodIn_of _ (by decide +kernel)) ggX6_knocks_X6_isGift
set_option maxRecDepth 20000 in
theorem ggX6_knocks_X6_areThings : GoodIn wsX6_knocks wsX6_areThings := goodIn_r _ [13, 6, 7, 8, 4, 9, 48, 49, 50, 51, 52, 53, 54, 55, 56, 57, 58, 59, 60, 61, 62, 63, 64, 65, 66] (by decide +kernel) (by decide +kernel)
set_option maxRecDepth 20000 in
theorem gX6_knocks_X6_areThings : GoodIn wsX6_knocks (wsV RX6 231 RX6 yX6_areThings wsX6_areThings) := goodIn_app (goodIn_of _ (by decide +kernel)) ggX6_knocks_X6_areThings
set_option maxRecDepth 20000 in
theorem ggX6_knocks_X6_bad : GoodIn wsX6_knocks wsX6_bad := goodIn_r _ [17, 18, 19, 20, 4, 21, 22, 23, 48, 49, 50, 51, 52, 53, 54, 55, 56, 57, 58, 59, 60, 61, 62, 63, 64, 65, 66] (by decide +kernel) (by decide +kernel)
set_option maxRecDepth 20000 in
theorem gX6_knocks_X6_bad : GoodIn wsX6_knocks (wsV RX6 66 RX6 yX6_bad wsX6_bad) := goodIn_app (goodIn_of _ (by decide +kernel)) ggX6_knocks_X6_bad
set_option maxRecDepth 20000 in
theorem ggX6_knocks_X6_isHeard : GoodIn wsX6_knocks wsX6_isHeard := goodIn_r _ [27, 6, 28, 29, 30, 4, 31, 32, 33, 34, 35, 36, 37, 38, 39, 48, 49, 50, 51, 52, 53, 54, 55, 56, 57, 58, 59, 60, 61, 62, 63, 64, 65, 66] (by decide +kernel) (by decide +kernel)
set_option maxRecDepth 20000 in
theorem gX6_knocks_X6_isHeard : GoodIn wsX6_knocks (wsV RX6 194 RX6 yX6_isHeard wsX6_isHeard) := goodIn_app (goodIn_of _ (by decide +kernel)) ggX6_knocks_X6_isHeard
set_option maxRecDepth 20000 in
theorem ggX6_knocks_X6_isHeavy : GoodIn wsX6_knocks wsX6_isHeavy := goodIn_r _ [43, 6, 44, 45, 46, 4, 47, 32, 33, 34, 35, 36, 37, 38, 39, 48, 49, 50, 51, 52, 53, 54, 55, 56, 57, 58, 59, 60, 61, 62, 63, 64, 65, 66] (by decide +kernel) (by decide +kernel)
set_option maxRecDepth 20000 in
theorem gX6_knocks_X6_isHeavy : GoodIn wsX6_knocks (wsV RX6 197 RX6 yX6_isHeavy wsX6_isHeavy) := goodIn_app (goodIn_of _ (by decide +kernel)) ggX6_knocks_X6_isHeavy
theorem hd6_knocks : yX6_knocks.cls = RX6 ∧ yX6_knocks.cls ≠ "java/lang/invoke/MethodHandle" ∧ yX6_knocks.cls ≠ "java/lang/invoke/VarHandle" ∧ (parseMethodDescriptor yX6_knocks.desc).map (fun d => d.parameters.length) = some 3 := by decide +kernel
abbrev rm6_knocks : Room := { frames := 3, cells := 0, slots := 0, locals := 71 }
set_option maxHeartbeats 4000000 in
set_option maxRecDepth 100000 in
theorem c6_knocks {l : Launch} {D : va_G} {cI cZ cB : ClassId} {q : Nat → Nat} {sz : Nat} {quiet : Int32} {mabove : Int64} {mbelow : Int64} {typed : Int32} {mat : Int32} {mstart : Int32} {mtoken : Int32} {mvalue : Int32} {many : Int32} {book : Nat → Int32} {images : Nat → Int32} {mkept : Nat → Int32} {aside : Nat → Int32} {refused : Nat → Int32} {text : Nat → Int32} {items : Nat → Int32} {drawn : Nat → Int32} {row : Nat → Int32} {best : Nat → Int32} {a_g : Int32} {a_one : Int32} {a_two : Int32} {r : Int32} {d_refused : Nat → Int32} (hf : f6_knocks quiet book refused a_g a_one a_two = some (r, d_refused)) : Met l yX6_knocks wsX6_knocks rm6_knocks (zPm D cI cZ cB [.ref (q 0), .int a_g, .int a_one, .int a_two] sz (cMod cI cZ q quiet mabove mbelow typed mat mstart mtoken mvalue many book images mkept aside refused text items drawn row best)) (zQm D (some (.int r)) (cMod cI cZ q quiet mabove mbelow typed mat mstart mtoken mvalue many book images mkept aside d_refused text items drawn row best) (va_A (cMod cI cZ q quiet mabove mbelow typed mat mstart mtoken mvalue many book images mkept aside refused text items drawn row best) sz)) 0 0 (va_A (cMod cI cZ q quiet mabove mbelow typed mat mstart mtoken mvalue many book images mkept aside refused text items drawn row best) sz) := by
  unfold f6_knocks at hf
  refine z_mutI RX6 (by decide +kernel) rfl rfl (Nat.le_of_ble_eq_true rfl) ?_
  intro p e s m args below meth c Q A ls hx hb hml hown hts hK hP hD hS hA hret hl
  have hl : lv_has ls 4 [(0, .ref (q 0)), (1, .int a_g), (2, .int a_one), (3, .int a_two)] := hl
  refine lv_aload_n hx hb (zD_g DX6_knocks 0 rfl) rfl (lv_at hl 0 rfl) ?_
  refine lv_iload_n hx hb (zD_g DX6_knocks 1 rfl) rfl (lv_at hl 1 rfl) ?_
  obtain ⟨r1, hc2, hf⟩ := zb1_s hf
  refine z_Vp (As := [.int a_g]) (rest := []) ⟨hx, hb, hml, hown, hts⟩ hK (c6_isGift (quiet := quiet) (mabove := mabove) (mbelow := mbelow) (typed := typed) (mat := mat) (mstart := mstart) (mtoken := mtoken) (mvalue := mvalue) (many := many) (book := book) (images := images) (mkept := mkept) (aside := aside) (refused := refused) (text := text) (items := items) (drawn := drawn) (row := row) (best := best) (q := q) hc2) (cwV 1 hts gX6_knocks_X6_isGift rfl rfl rfl hd6_isGift ⟨Nat.le_of_ble_eq_true rfl, Nat.le_of_ble_eq_true rfl⟩) hP rfl rfl rfl rfl hl.1 rfl rfl (Nat.le_of_ble_eq_true rfl) (zD_g DX6_knocks 2 rfl) ⟨Nat.zero_le _, Nat.zero_le _⟩ ?_
  refine lv_if_eq (tgt := 24) hx hb (zD_g DX6_knocks 3 rfl) (by decide) (fun c3 => ?_) (fun c3 => ?_)
  · replace hf := z_t c3 hf
    refine lv_aload_n hx hb (zD_g DX6_knocks 12 rfl) rfl (lv_at hl 0 rfl) ?_
    obtain ⟨r4, refused_5, hc6, hf⟩ := zb2_s hf
    refine z_Vm (As := []) (rest := []) (ws' := (cMod cI cZ q quiet mabove mbelow typed mat mstart mtoken mvalue many book images mkept aside refused_5 text items drawn row best)) ⟨hx, hb, hml, hown, hts⟩ hK (c6_bad (quiet := quiet) (mabove := mabove) (mbelow := mbelow) (typed := typed) (mat := mat) (mstart := mstart) (mtoken := mtoken) (mvalue := mvalue) (many := many) (book := book) (images := images) (mkept := mkept) (aside := aside) (refused := refused) (text := text) (items := items) (drawn := drawn) (row := row) (best := best) (q := q) hc6) (cwV 0 hts gX6_knocks_X6_bad rfl rfl rfl hd6_bad ⟨Nat.le_of_ble_eq_true rfl, Nat.le_of_ble_eq_true rfl⟩) hP hD hS hA 11 [0, 1, 2, 3, 4, 5, 6, 7, 8, 9, 10] [] [0, 1, 2, 3, 4, 5, 6, 7, 8, 9, 10] (by decide +kernel) rfl rfl rfl rfl rfl rfl rfl hl.1 rfl rfl (Nat.le_of_ble_eq_true rfl) (zD_g DX6_knocks 13 rfl) ⟨Nat.zero_le _, Nat.zero_le _⟩ (fun H locs hP hD hS => ?_)
    cases hf
    exact hret _ _ _ _ hP hD hS (zD_g DX6_knocks 14 rfl)
  · replace hf := z_f c3 hf
    refine lv_aload_n hx hb (zD_g DX6_knocks 4 rfl) rfl (lv_at hl 0 rfl) ?_
    refine lv_iload_n hx hb (zD_g DX6_knocks 5 rfl) rfl (lv_at hl 2 rfl) ?_
    obtain ⟨r7, hc8, hf⟩ := zb1_s hf
    refine z_Vp (As := [.int a_one]) (rest := []) ⟨hx, hb, hml, hown, hts⟩ hK (c6_areThings (quiet := quiet) (mabove := mabove) (mbelow := mbelow) (typed := typed) (mat := mat) (mstart := mstart) (mtoken := mtoken) (mvalue := mvalue) (many := many) (book := book) (images := images) (mkept := mkept) (aside := aside) (refused := refused) (text := text) (items := items) (drawn := drawn) (row := row) (best := best) (q := q) hc8) (cwV 1 hts gX6_knocks_X6_areThings rfl rfl rfl hd6_areThings ⟨Nat.le_of_ble_eq_true rfl, Nat.le_of_ble_eq_true rfl⟩) hP rfl rfl rfl rfl hl.1 rfl rfl (Nat.le_of_ble_eq_true rfl) (zD_g DX6_knocks 6 rfl) ⟨Nat.zero_le _, Nat.zero_le _⟩ ?_
    refine lv_if_eq (tgt := 24) hx hb (zD_g DX6_knocks 7 rfl) (by decide) (fun c9 => ?_) (fun c9 => ?_)
    · replace hf := z_t c9 hf
      refine lv_aload_n hx hb (zD_g DX6_knocks 12 rfl) rfl (lv_at hl 0 rfl) ?_
      obtain ⟨r10, refused_11, hc12, hf⟩ := zb2_s hf
      refine z_Vm (As := []) (rest := []) (ws' := (cMod cI cZ q quiet mabove mbelow typed mat mstart mtoken mvalue many book images mkept aside refused_11 text items drawn row best)) ⟨hx, hb, hml, hown, hts⟩ hK (c6_bad (quiet := quiet) (mabove := mabove) (mbelow := mbelow) (typed := typed) (mat := mat) (mstart := mstart) (mtoken := mtoken) (mvalue := mvalue) (many := many) (book := book) (images := images) (mkept := mkept) (aside := aside) (refused := refused) (text := text) (items := items) (drawn := drawn) (row := row) (best := best) (q := q) hc12) (cwV 0 hts gX6_knocks_X6_bad rfl rfl rfl hd6_bad ⟨Nat.le_of_ble_eq_true rfl, Nat.le_of_ble_eq_true rfl⟩) hP hD hS hA 11 [0, 1, 2, 3, 4, 5, 6, 7, 8, 9, 10] [] [0, 1, 2, 3, 4, 5, 6, 7, 8, 9, 10] (by decide +kernel) rfl rfl rfl rfl rfl rfl rfl hl.1 rfl rfl (Nat.le_of_ble_eq_true rfl) (zD_g DX6_knocks 13 rfl) ⟨Nat.zero_le _, Nat.zero_le _⟩ (fun H locs hP hD hS => ?_)
      cases hf
      exact hret _ _ _ _ hP hD hS (zD_g DX6_knocks 14 rfl)
    · replace hf := z_f c9 hf
      refine lv_aload_n hx hb (zD_g DX6_knocks 8 rfl) rfl (lv_at hl 0 rfl) ?_
      refine lv_iload_n hx hb (zD_g DX6_knocks 9 rfl) rfl (lv_at hl 3 rfl) ?_
      obtain ⟨r13, hc14, hf⟩ := zb1_s hf
      refine z_Vp (As := [.int a_two]) (rest := []) ⟨hx, hb, hml, hown, hts⟩ hK (c6_areThings (quiet := quiet) (mabove := mabove) (mbelow := mbelow) (typed := typed) (mat := mat) (mstart := mstart) (mtoken := mtoken) (mvalue := mvalue) (many := many) (book := book) (images := images) (mkept := mkept) (aside := aside) (refused := refused) (text := text) (items := items) (drawn := drawn) (row := row) (best := best) (q := q) hc14) (cwV 1 hts gX6_knocks_X6_areThings rfl rfl rfl hd6_areThings ⟨Nat.le_of_ble_eq_true rfl, Nat.le_of_ble_eq_true rfl⟩) hP rfl rfl rfl rfl hl.1 rfl rfl (Nat.le_of_ble_eq_true rfl) (zD_g DX6_knocks 10 rfl) ⟨Nat.zero_le _, Nat.zero_le _⟩ ?_
      refine lv_if_ne (tgt := 29) hx hb (zD_g DX6_knocks 11 rfl) (by decide) (fun c15 => ?_) (fun c15 => ?_)
      · replace hf := z_f c15 hf
        refine lv_aload_n hx hb (zD_g DX6_knocks 15 rfl) rfl (lv_at hl 0 rfl) ?_
        refine lv_iload_n hx hb (zD_g DX6_knocks 16 rfl) rfl (lv_at hl 1 rfl) ?_
        refine lv_iload_n hx hb (zD_g DX6_knocks 17 rfl) rfl (lv_at hl 2 rfl) ?_
        obtain ⟨r16, hc17, hf⟩ := zb1_s hf
        refine z_Vp (As := [.int a_g, .int a_one]) (rest := []) ⟨hx, hb, hml, hown, hts⟩ hK (c6_isHeard (quiet := quiet) (mabove := mabove) (mbelow := mbelow) (typed := typed) (mat := mat) (mstart := mstart) (mtoken := mtoken) (mvalue := mvalue) (many := many) (book := book) (images := images) (mkept := mkept) (aside := aside) (refused := refused) (text := text) (items := items) (drawn := drawn) (row := row) (best := best) (q := q) hc17) (cwV 2 hts gX6_knocks_X6_isHeard rfl rfl rfl hd6_isHeard ⟨Nat.le_of_ble_eq_true rfl, Nat.le_of_ble_eq_true rfl⟩) hP rfl rfl rfl rfl hl.1 rfl rfl (Nat.le_of_ble_eq_true rfl) (zD_g DX6_knocks 18 rfl) ⟨Nat.zero_le _, Nat.zero_le _⟩ ?_
        refine lv_aload_n hx hb (zD_g DX6_knocks 19 rfl) rfl (lv_at hl 0 rfl) ?_
        refine lv_iload_n hx hb (zD_g DX6_knocks 20 rfl) rfl (lv_at hl 1 rfl) ?_
        refine lv_iload_n hx hb (zD_g DX6_knocks 21 rfl) rfl (lv_at hl 3 rfl) ?_
        obtain ⟨r18, hc19, hf⟩ := zb1_s hf
        refine z_Vp (As := [.int a_g, .int a_two]) (rest := [.int r16]) ⟨hx, hb, hml, hown, hts⟩ hK (c6_isHeard (quiet := quiet) (mabove := mabove) (mbelow := mbelow) (typed := typed) (mat := mat) (mstart := mstart) (mtoken := mtoken) (mvalue := mvalue) (many := many) (book := book) (images := images) (mkept := mkept) (aside := aside) (refused := refused) (text := text) (items := items) (drawn := drawn) (row := row) (best := best) (q := q) hc19) (cwV 2 hts gX6_knocks_X6_isHeard rfl rfl rfl hd6_isHeard ⟨Nat.le_of_ble_eq_true rfl, Nat.le_of_ble_eq_true rfl⟩) hP rfl rfl rfl rfl hl.1 rfl rfl (Nat.le_of_ble_eq_true rfl) (zD_g DX6_knocks 22 rfl) ⟨Nat.zero_le _, Nat.zero_le _⟩ ?_
        obtain ⟨v21, hr29, hf⟩ := zb1_s hf
        have hJ29 : ∀ (H : Heap) (locs : List Loc), va_P D vwCl (cMod cI cZ q quiet mabove mbelow typed mat mstart mtoken mvalue many book images mkept aside refused text items drawn row best) H → va_D A (cMod cI cZ q quiet mabove mbelow typed mat mstart mtoken mvalue many book images mkept aside refused text items drawn row best) → va_S A s.heap H locs → ∀ (ls : Array Slot), lv_has ls 4 [(0, .ref (q 0)), (1, .int a_g), (2, .int a_one), (3, .int a_two)] → W p l e rm6_knocks s m args below meth c H locs 0 0 Q (F0 m 49 ls [.int v21]) := by
          intro H locs hP hD hS ls hl
          refine lv_aload_n hx hb (zD_g DX6_knocks 27 rfl) rfl (lv_at hl 0 rfl) ?_
          refine lv_iload_n hx hb (zD_g DX6_knocks 28 rfl) rfl (lv_at hl 1 rfl) ?_
          refine lv_iload_n hx hb (zD_g DX6_knocks 29 rfl) rfl (lv_at hl 2 rfl) ?_
          obtain ⟨r22, hc23, hf⟩ := zb1_s hf
          refine z_Vp (As := [.int a_g, .int a_one]) (rest := [.int v21]) ⟨hx, hb, hml, hown, hts⟩ hK (c6_isHeavy (quiet := quiet) (mabove := mabove) (mbelow := mbelow) (typed := typed) (mat := mat) (mstart := mstart) (mtoken := mtoken) (mvalue := mvalue) (many := many) (book := book) (images := images) (mkept := mkept) (aside := aside) (refused := refused) (text := text) (items := items) (drawn := drawn) (row := row) (best := best) (q := q) hc23) (cwV 2 hts gX6_knocks_X6_isHeavy rfl rfl rfl hd6_isHeavy ⟨Nat.le_of_ble_eq_true rfl, Nat.le_of_ble_eq_true rfl⟩) hP rfl rfl rfl rfl hl.1 rfl rfl (Nat.le_of_ble_eq_true rfl) (zD_g DX6_knocks 30 rfl) ⟨Nat.zero_le _, Nat.zero_le _⟩ ?_
          refine lv_aload_n hx hb (zD_g DX6_knocks 31 rfl) rfl (lv_at hl 0 rfl) ?_
          refine lv_iload_n hx hb (zD_g DX6_knocks 32 rfl) rfl (lv_at hl 1 rfl) ?_
          refine lv_iload_n hx hb (zD_g DX6_knocks 33 rfl) rfl (lv_at hl 3 rfl) ?_
          obtain ⟨r24, hc25, hf⟩ := zb1_s hf
          refine z_Vp (As := [.int a_g, .int a_two]) (rest := [.int r22, .int v21]) ⟨hx, hb, hml, hown, hts⟩ hK (c6_isHeavy (quiet := quiet) (mabove := mabove) (mbelow := mbelow) (typed := typed) (mat := mat) (mstart := mstart) (mtoken := mtoken) (mvalue := mvalue) (many := many) (book := book) (images := images) (mkept := mkept) (aside := aside) (refused := refused) (text := text) (items := items) (drawn := drawn) (row := row) (best := best) (q := q) hc25) (cwV 2 hts gX6_knocks_X6_isHeavy rfl rfl rfl hd6_isHeavy ⟨Nat.le_of_ble_eq_true rfl, Nat.le_of_ble_eq_true rfl⟩) hP rfl rfl rfl rfl hl.1 rfl rfl (Nat.le_of_ble_eq_true rfl) (zD_g DX6_knocks 34 rfl) ⟨Nat.zero_le _, Nat.zero_le _⟩ ?_
          refine lv_icmp_ne (tgt := 68) hx hb (zD_g DX6_knocks 35 rfl) (by decide) (fun c26 => ?_) (fun c26 => ?_)
          · replace hf := z_f c26 hf
            refine lv_iconst (v := (2 : Int32)) hx hb (zD_g DX6_knocks 38 rfl) (by decide) ?_
            refine lv_iadd hx hb (zD_g DX6_knocks 39 rfl) ?_
            refine lv_topi (fun x27 ex27 => ?_)
            replace hf := zl_s hf x27 ex27
            cases hf
            exact hret _ _ _ _ hP hD hS (zD_g DX6_knocks 40 rfl)
          · replace hf := z_t c26 hf
            refine lv_iconst (v := (0 : Int32)) hx hb (zD_g DX6_knocks 36 rfl) (by decide) ?_
            refine lv_goto (tgt := 69) hx hb (zD_g DX6_knocks 37 rfl) (by decide) ?_
            refine lv_iadd hx hb (zD_g DX6_knocks 39 rfl) ?_
            refine lv_topi (fun x28 ex28 => ?_)
            replace hf := zl_s hf x28 ex28
            cases hf
            exact hret _ _ _ _ hP hD hS (zD_g DX6_knocks 40 rfl)
        clear hf
        have hf := hr29
        refine lv_icmp_ne (tgt := 48) hx hb (zD_g DX6_knocks 23 rfl) (by decide) (fun c20 => ?_) (fun c20 => ?_)
        · replace hf := z_f c20 hf
          refine lv_iconst (v := (1 : Int32)) hx hb (zD_g DX6_knocks 26 rfl) (by decide) ?_
          cases hf
          exact hJ29 _ _ hP hD hS ls (lv_sub hl [0, 1, 2, 3] rfl)
        · replace hf := z_t c20 hf
          refine lv_iconst (v := (0 : Int32)) hx hb (zD_g DX6_knocks 24 rfl) (by decide) ?_
          refine lv_goto (tgt := 49) hx hb (zD_g DX6_knocks 25 rfl) (by decide) ?_
          cases hf
          exact hJ29 _ _ hP hD hS ls (lv_sub hl [0, 1, 2, 3] rfl)
      · replace hf := z_t c15 hf
        refine lv_aload_n hx hb (zD_g DX6_knocks 12 rfl) rfl (lv_at hl 0 rfl) ?_
        obtain ⟨r30, refused_31, hc32, hf⟩ := zb2_s hf
        refine z_Vm (As := []) (rest := []) (ws' := (cMod cI cZ q quiet mabove mbelow typed mat mstart mtoken mvalue many book images mkept aside refused_31 text items drawn row best)) ⟨hx, hb, hml, hown, hts⟩ hK (c6_bad (quiet := quiet) (mabove := mabove) (mbelow := mbelow) (typed := typed) (mat := mat) (mstart := mstart) (mtoken := mtoken) (mvalue := mvalue) (many := many) (book := book) (images := images) (mkept := mkept) (aside := aside) (refused := refused) (text := text) (items := items) (drawn := drawn) (row := row) (best := best) (q := q) hc32) (cwV 0 hts gX6_knocks_X6_bad rfl rfl rfl hd6_bad ⟨Nat.le_of_ble_eq_true rfl, Nat.le_of_ble_eq_true rfl⟩) hP hD hS hA 11 [0, 1, 2, 3, 4, 5, 6, 7, 8, 9, 10] [] [0, 1, 2, 3, 4, 5, 6, 7, 8, 9, 10] (by decide +kernel) rfl rfl rfl rfl rfl rfl rfl hl.1 rfl rfl (Nat.le_of_ble_eq_true rfl) (zD_g DX6_knocks 13 rfl) ⟨Nat.zero_le _, Nat.zero_le _⟩ (fun H locs hP hD hS => ?_)
        cases hf
        exact hret _ _ _ _ hP hD hS (zD_g DX6_knocks 14 rfl)
abbrev dlX6_senderLoses : List (Nat × Instr × Nat) := [(0, .iload_n 1, 1), (1, .iconst 1, 1), (2, .if_icmp .ne 7, 3), (5, .iconst 2, 1), (6, .goto 17, 3), (9, .iload_n 1, 1), (10, .iconst 2, 1), (11, .if_icmp .ne 11, 3), (14, .iload_n 0, 1), (15, .ifCond .eq 7, 3), (18, .iconst 4, 1), (19, .goto 4, 3), (22, .iconst 0, 1), (23, .ireturn, 1)]
theorem DX6_senderLoses : zD cX6_senderLoses dlX6_senderLoses = true := by decide +kernel
theorem hd6_senderLoses : yX6_senderLoses.cls ≠ "java/lang/invoke/MethodHandle" ∧ yX6_senderLoses.cls ≠ "java/lang/invoke/VarHandle" ∧ (parseMethodDescriptor yX6_senderLoses.desc).map (fun d => d.parameters.length) = some 2 := by decide +kernel
abbrev rm6_senderLoses : Room := { frames := 0, cells := 0, slots := 0, locals := 0 }
set_option maxHeartbeats 4000000 in
set_option maxRecDepth 100000 in
theorem c6_senderLoses {l : Launch} {D : va_G} {cI cZ cB : ClassId}   {a_full : Int32} {a_y : Int32} {r : Int32}  (hf : f6_senderLoses a_full a_y = some r) : Met l yX6_senderLoses wsX6_senderLoses rm6_senderLoses (zPp D cI cZ cB [.int a_full, .int a_y] ([] : va_W)) (zQp (some (.int r))) 0 0 (fun _ => False) := by
  unfold f6_senderLoses at hf
  refine z_pureI RX6 (by decide +kernel) rfl rfl (Nat.le_of_ble_eq_true rfl) ?_
  intro p e s m args below meth c Q ls hx hb hml hown hts hK hP hret hl
  have hl : lv_has ls 2 [(0, .int a_full), (1, .int a_y)] := hl
  refine lv_iload_n hx hb (zD_g DX6_senderLoses 0 rfl) rfl (lv_at hl 1 rfl) ?_
  refine lv_iconst (v := (1 : Int32)) hx hb (zD_g DX6_senderLoses 1 rfl) (by decide) ?_
  refine lv_icmp_ne (tgt := 9) hx hb (zD_g DX6_senderLoses 2 rfl) (by decide) (fun c1 => ?_) (fun c1 => ?_)
  · replace hf := z_f c1 hf
    refine lv_iload_n hx hb (zD_g DX6_senderLoses 5 rfl) rfl (lv_at hl 1 rfl) ?_
    refine lv_iconst (v := (2 : Int32)) hx hb (zD_g DX6_senderLoses 6 rfl) (by decide) ?_
    refine lv_icmp_ne (tgt := 22) hx hb (zD_g DX6_senderLoses 7 rfl) (by decide) (fun c2 => ?_) (fun c2 => ?_)
    · replace hf := z_f c2 hf
      refine lv_iconst (v := (0 : Int32)) hx hb (zD_g DX6_senderLoses 12 rfl) (by decide) ?_
      cases hf
      exact hret _ _ (zD_g DX6_senderLoses 13 rfl)
    · replace hf := z_t c2 hf
      refine lv_iload_n hx hb (zD_g DX6_senderLoses 8 rfl) rfl (lv_at hl 0 rfl) ?_
      refine lv_if_eq (tgt := 22) hx hb (zD_g DX6_senderLoses 9 rfl) (by decide) (fun c3 => ?_) (fun c3 => ?_)
      · replace hf := z_t c3 hf
        refine lv_iconst (v := (0 : Int32)) hx hb (zD_g DX6_senderLoses 12 rfl) (by decide) ?_
        cases hf
        exact hret _ _ (zD_g DX6_senderLoses 13 rfl)
      · replace hf := z_f c3 hf
        refine lv_iconst (v := (4 : Int32)) hx hb (zD_g DX6_senderLoses 10 rfl) (by decide) ?_
        refine lv_goto (tgt := 23) hx hb (zD_g DX6_senderLoses 11 rfl) (by decide) ?_
        cases hf
        exact hret _ _ (zD_g DX6_senderLoses 13 rfl)
  · replace hf := z_t c1 hf
    refine lv_iconst (v := (2 : Int32)) hx hb (zD_g DX6_senderLoses 3 rfl) (by decide) ?_
    refine lv_goto (tgt := 23) hx hb (zD_g DX6_senderLoses 4 rfl) (by decide) ?_
    cases hf
    exact hret _ _ (zD_g DX6_senderLoses 13 rfl)
abbrev dlX6_takerLoses : List (Nat × Instr × Nat) := [(0, .iload_n 3, 1), (1, .ifCond .ne 11, 3), (4, .aload_n 0, 1), (5, .iload_n 1, 1), (6, .invokevirtual 87, 3), (9, .goto 4, 3), (12, .iconst 0, 1), (13, .istore 5, 2), (15, .iload 4, 2), (17, .ifCond .ne 14, 3), (20, .aload_n 0, 1), (21, .iload_n 1, 1), (22, .iload 5, 2), (24, .iload_n 2, 1), (25, .invokevirtual 206, 3), (28, .goto 24, 3), (31, .iload 4, 2), (33, .iconst 1, 1), (34, .if_icmp .ne 7, 3), (37, .iconst 1, 1), (38, .goto 14, 3), (41, .iload 5, 2), (43, .ifCond .ne 8, 3), (46, .bipush 6, 2), (48, .goto 4, 3), (51, .iconst 3, 1), (52, .ireturn, 1)]
theorem DX6_takerLoses : zD cX6_takerLoses dlX6_takerLoses = true := by decide +kernel
set_option maxRecDepth 20000 in
theorem ggX6_takerLoses_X6_thingsIn : GoodIn wsX6_takerLoses wsX6_thingsIn := goodIn_r _ [5, 6, 23, 24, 25, 26, 27, 28, 29, 30, 31, 32, 33, 34, 35, 36, 37, 38, 39, 40, 41] (by decide +kernel) (by decide +kernel)
set_option maxRecDepth 20000 in
theorem gX6_takerLoses_X6_thingsIn : GoodIn wsX6_takerLoses (wsV RX6 87 RX6 yX6_thingsIn wsX6_thingsIn) := goodIn_app (goodIn_of _ (by decide +kernel)) ggX6_takerLoses_X6_thingsIn
set_option maxRecDepth 20000 in
theorem ggX6_takerLoses_X6_loses : GoodIn wsX6_takerLoses wsX6_loses := goodIn_r _ [10, 6, 11, 12, 13, 4, 14, 15, 16, 17, 18, 19, 20, 21, 22, 23, 24, 25, 26, 27, 28, 29, 30, 31, 32, 33, 34, 35, 36, 37, 38, 39, 40, 41] (by decide +kernel) (by decide +kernel)
set_option maxRecDepth 20000 in
theorem gX6_takerLoses_X6_loses : GoodIn wsX6_takerLoses (wsV RX6 206 RX6 yX6_loses wsX6_loses) := goodIn_app (goodIn_of _ (by decide +kernel)) ggX6_takerLoses_X6_loses
theorem hd6_takerLoses : yX6_takerLoses.cls = RX6 ∧ yX6_takerLoses.cls ≠ "java/lang/invoke/MethodHandle" ∧ yX6_takerLoses.cls ≠ "java/lang/invoke/VarHandle" ∧ (parseMethodDescriptor yX6_takerLoses.desc).map (fun d => d.parameters.length) = some 4 := by decide +kernel
abbrev rm6_takerLoses : Room := { frames := 3, cells := 0, slots := 0, locals := 73 }
set_option maxHeartbeats 4000000 in
set_option maxRecDepth 100000 in
theorem c6_takerLoses {l : Launch} {D : va_G} {cI cZ cB : ClassId} {q : Nat → Nat} {quiet : Int32} {mabove : Int64} {mbelow : Int64} {typed : Int32} {mat : Int32} {mstart : Int32} {mtoken : Int32} {mvalue : Int32} {many : Int32} {book : Nat → Int32} {images : Nat → Int32} {mkept : Nat → Int32} {aside : Nat → Int32} {refused : Nat → Int32} {text : Nat → Int32} {items : Nat → Int32} {drawn : Nat → Int32} {row : Nat → Int32} {best : Nat → Int32} {a_g : Int32} {a_hour : Int32} {a_x : Int32} {a_y : Int32} {r : Int32}  (hf : f6_takerLoses book a_g a_hour a_x a_y = some r) : Met l yX6_takerLoses wsX6_takerLoses rm6_takerLoses (zPp D cI cZ cB [.ref (q 0), .int a_g, .int a_hour, .int a_x, .int a_y] (cMod cI cZ q quiet mabove mbelow typed mat mstart mtoken mvalue many book images mkept aside refused text items drawn row best)) (zQp (some (.int r))) 0 0 (fun _ => False) := by
  unfold f6_takerLoses at hf
  refine z_pureI RX6 (by decide +kernel) rfl rfl (Nat.le_of_ble_eq_true rfl) ?_
  intro p e s m args below meth c Q ls hx hb hml hown hts hK hP hret hl
  have hl : lv_has ls 6 [(0, .ref (q 0)), (1, .int a_g), (2, .int a_hour), (3, .int a_x), (4, .int a_y)] := hl
  refine lv_iload_n hx hb (zD_g DX6_takerLoses 0 rfl) rfl (lv_at hl 3 rfl) ?_
  obtain ⟨v2, hr8, hf⟩ := zb1_s hf
  have hJ8 : ∀ (ls : Array Slot), lv_has ls 6 [(0, .ref (q 0)), (1, .int a_g), (2, .int a_hour), (4, .int a_y)] → W p l e rm6_takerLoses s m args below meth c s.heap [] 0 0 Q (F0 m 13 ls [.int v2]) := by
    intro ls hl
    refine lv_istore (lv' := [(5, .int v2), (0, .ref (q 0)), (1, .int a_g), (2, .int a_hour), (4, .int a_y)]) hx hb (zD_g DX6_takerLoses 7 rfl) hl (by decide) rfl (fun ls hl => ?_)
    refine lv_iload hx hb (zD_g DX6_takerLoses 8 rfl) (lv_at hl 4 rfl) ?_
    refine lv_if_ne (tgt := 31) hx hb (zD_g DX6_takerLoses 9 rfl) (by decide) (fun c3 => ?_) (fun c3 => ?_)
    · replace hf := z_f c3 hf
      refine lv_iload hx hb (zD_g DX6_takerLoses 16 rfl) (lv_at hl 4 rfl) ?_
      refine lv_iconst (v := (1 : Int32)) hx hb (zD_g DX6_takerLoses 17 rfl) (by decide) ?_
      refine lv_icmp_ne (tgt := 41) hx hb (zD_g DX6_takerLoses 18 rfl) (by decide) (fun c4 => ?_) (fun c4 => ?_)
      · replace hf := z_f c4 hf
        refine lv_iload hx hb (zD_g DX6_takerLoses 21 rfl) (lv_at hl 0 rfl) ?_
        refine lv_if_ne (tgt := 51) hx hb (zD_g DX6_takerLoses 22 rfl) (by decide) (fun c5 => ?_) (fun c5 => ?_)
        · replace hf := z_f c5 hf
          refine lv_iconst (v := (3 : Int32)) hx hb (zD_g DX6_takerLoses 25 rfl) (by decide) ?_
          cases hf
          exact hret _ _ (zD_g DX6_takerLoses 26 rfl)
        · replace hf := z_t c5 hf
          refine lv_bipush (v := (6 : Int32)) hx hb (zD_g DX6_takerLoses 23 rfl) (by decide) ?_
          refine lv_goto (tgt := 52) hx hb (zD_g DX6_takerLoses 24 rfl) (by decide) ?_
          cases hf
          exact hret _ _ (zD_g DX6_takerLoses 26 rfl)
      · replace hf := z_t c4 hf
        refine lv_iconst (v := (1 : Int32)) hx hb (zD_g DX6_takerLoses 19 rfl) (by decide) ?_
        refine lv_goto (tgt := 52) hx hb (zD_g DX6_takerLoses 20 rfl) (by decide) ?_
        cases hf
        exact hret _ _ (zD_g DX6_takerLoses 26 rfl)
    · replace hf := z_t c3 hf
      refine lv_aload_n hx hb (zD_g DX6_takerLoses 10 rfl) rfl (lv_at hl 1 rfl) ?_
      refine lv_iload_n hx hb (zD_g DX6_takerLoses 11 rfl) rfl (lv_at hl 2 rfl) ?_
      refine lv_iload hx hb (zD_g DX6_takerLoses 12 rfl) (lv_at hl 0 rfl) ?_
      refine lv_iload_n hx hb (zD_g DX6_takerLoses 13 rfl) rfl (lv_at hl 3 rfl) ?_
      obtain ⟨r6, hc7, hf⟩ := zb1_s hf
      refine z_Vp (As := [.int a_g, .int v2, .int a_hour]) (rest := []) ⟨hx, hb, hml, hown, hts⟩ hK (c6_loses (quiet := quiet) (mabove := mabove) (mbelow := mbelow) (typed := typed) (mat := mat) (mstart := mstart) (mtoken := mtoken) (mvalue := mvalue) (many := many) (book := book) (images := images) (mkept := mkept) (aside := aside) (refused := refused) (text := text) (items := items) (drawn := drawn) (row := row) (best := best) (q := q) hc7) (cwV 3 hts gX6_takerLoses_X6_loses rfl rfl rfl hd6_loses ⟨Nat.le_of_ble_eq_true rfl, Nat.le_of_ble_eq_true rfl⟩) hP rfl rfl rfl rfl hl.1 rfl rfl (Nat.le_of_ble_eq_true rfl) (zD_g DX6_takerLoses 14 rfl) ⟨Nat.zero_le _, Nat.zero_le _⟩ ?_
      refine lv_goto (tgt := 52) hx hb (zD_g DX6_takerLoses 15 rfl) (by decide) ?_
      cases hf
      exact hret _ _ (zD_g DX6_takerLoses 26 rfl)
  clear hf
  have hf := hr8
  refine lv_if_ne (tgt := 12) hx hb (zD_g DX6_takerLoses 1 rfl) (by decide) (fun c1 => ?_) (fun c1 => ?_)
  · replace hf := z_f c1 hf
    refine lv_iconst (v := (0 : Int32)) hx hb (zD_g DX6_takerLoses 6 rfl) (by decide) ?_
    cases hf
    exact hJ8 ls (lv_sub hl [0, 1, 2, 4] rfl)
  · replace hf := z_t c1 hf
    refine lv_aload_n hx hb (zD_g DX6_takerLoses 2 rfl) rfl (lv_at hl 0 rfl) ?_
    refine lv_iload_n hx hb (zD_g DX6_takerLoses 3 rfl) rfl (lv_at hl 1 rfl) ?_
    obtain ⟨r9, hc10, hf⟩ := zb1_s hf
    refine z_Vp (As := [.int a_g]) (rest := []) ⟨hx, hb, hml, hown, hts⟩ hK (c6_thingsIn (quiet := quiet) (mabove := mabove) (mbelow := mbelow) (typed := typed) (mat := mat) (mstart := mstart) (mtoken := mtoken) (mvalue := mvalue) (many := many) (book := book) (images := images) (mkept := mkept) (aside := aside) (refused := refused) (text := text) (items := items) (drawn := drawn) (row := row) (best := best) (q := q) hc10) (cwV 1 hts gX6_takerLoses_X6_thingsIn rfl rfl rfl hd6_thingsIn ⟨Nat.le_of_ble_eq_true rfl, Nat.le_of_ble_eq_true rfl⟩) hP rfl rfl rfl rfl hl.1 rfl rfl (Nat.le_of_ble_eq_true rfl) (zD_g DX6_takerLoses 4 rfl) ⟨Nat.zero_le _, Nat.zero_le _⟩ ?_
    refine lv_goto (tgt := 13) hx hb (zD_g DX6_takerLoses 5 rfl) (by decide) ?_
    cases hf
    exact hJ8 ls (lv_sub hl [0, 1, 2, 4] rfl)
abbrev dlX6_game : List (Nat × Instr × Nat) := [(0, .aload_n 0, 1), (1, .iload_n 1, 1), (2, .invokevirtual 84, 3), (5, .ifCond .eq 20, 3), (8, .iload_n 2, 1), (9, .invokestatic 105, 3), (12, .ifCond .eq 13, 3), (15, .iload_n 3, 1), (16, .i2l, 1), (17, .lconst 0, 1), (18, .lconst 1, 1), (19, .invokestatic 56, 3), (22, .ifCond .ne 11, 3), (25, .aload_n 0, 1), (26, .iconst 0, 1), (27, .bipush (-10), 2), (29, .invokevirtual 52, 3), (32, .ireturn, 1), (33, .aload_n 0, 1), (34, .iload_n 1, 1), (35, .invokevirtual 87, 3), (38, .ifCond .eq 7, 3), (41, .iconst 1, 1), (42, .goto 4, 3), (45, .iconst 0, 1), (46, .istore 4, 2), (48, .iconst 0, 1), (49, .istore 5, 2), (51, .iconst (-1), 1), (52, .istore 6, 2), (54, .iconst 0, 1), (55, .istore 7, 2), (57, .iload 7, 2), (59, .iconst 2, 1), (60, .if_icmp .ge 166, 3), (63, .iconst 0, 1), (64, .istore 8, 2), (66, .iload 8, 2), (68, .iconst 3, 1), (69, .if_icmp .ge 151, 3), (72, .iload 4, 2), (74, .ifCond .eq 12, 3), (77, .iload 7, 2), (79, .ifCond .ne 7, 3), (82, .iconst 1, 1), (83, .goto 4, 3), (86, .iconst 0, 1), (87, .iload 8, 2), (89, .invokestatic 234, 3), (92, .iload 4, 2), (94, .ifCond .eq 13, 3), (97, .iload 7, 2), (99, .iconst 1, 1), (100, .if_icmp .ne 7, 3), (103, .iconst 1, 1), (104, .goto 4, 3), (107, .iconst 0, 1), (108, .iload 8, 2), (110, .invokestatic 234, 3), (113, .if_icmp .gt 7, 3), (116, .iconst 1, 1), (117, .goto 4, 3), (120, .iconst 0, 1), (121, .istore 9, 2), (123, .iconst 0, 1), (124, .istore 10, 2), (126, .iload 10, 2), (128, .iconst 3, 1), (129, .if_icmp .ge 44, 3), (132, .iload 9, 2), (134, .ifCond .eq 30, 3), (137, .aload_n 0, 1), (138, .iload_n 1, 1), (139, .iload_n 2, 1), (140, .iload 7, 2), (142, .iload 8, 2), (144, .invokevirtual 238, 3), (147, .aload_n 0, 1), (148, .iload_n 1, 1), (149, .iload_n 2, 1), (150, .iload 7, 2), (152, .iload 10, 2), (154, .invokevirtual 238, 3), (157, .if_icmp .gt 7, 3), (160, .iconst 1, 1), (161, .goto 4, 3), (164, .iconst 0, 1), (165, .istore 9, 2), (167, .iinc 10 1, 3), (170, .goto (-44), 3), (173, .iload 5, 2), (175, .iload 9, 2), (177, .ifCond .eq 7, 3), (180, .iconst 1, 1), (181, .goto 4, 3), (184, .iconst 0, 1), (185, .iadd, 1), (186, .istore 5, 2), (188, .iload 9, 2), (190, .ifCond .eq 20, 3), (193, .iload 6, 2), (195, .iconst (-1), 1), (196, .if_icmp .ne 14, 3), (199, .bipush 10, 2), (201, .iload 7, 2), (203, .imul, 1), (204, .iload 8, 2), (206, .iadd, 1), (207, .goto 5, 3), (210, .iload 6, 2), (212, .istore 6, 2), (214, .iinc 8 1, 3), (217, .goto (-151), 3), (220, .iinc 7 1, 3), (223, .goto (-166), 3), (226, .iload_n 3, 1), (227, .ifCond .ne 8, 3), (230, .iload 5, 2), (232, .goto 5, 3), (235, .iload 6, 2), (237, .ireturn, 1)]
theorem DX6_game : zD cX6_game dlX6_game = true := by decide +kernel
set_option maxRecDepth 20000 in
theorem ggX6_game_X6_isGift : GoodIn wsX6_game wsX6_isGift := goodIn_r _ [5, 6, 7, 8, 4, 9, 47, 48, 49, 50, 51, 52, 53, 54, 55, 56, 57, 58, 59, 60, 61, 62, 63, 64, 65] (by decide +kernel) (by decide +kernel)
set_option maxRecDepth 20000 in
theorem gX6_game_X6_isGift : GoodIn wsX6_game (wsV RX6 84 RX6 yX6_isGift wsX6_isGift) := goodIn_app (goodIn_of _ (by decide +kernel)) ggX6_game_X6_isGift
set_option maxRecDepth 20000 in
theorem ggX6_game_X6_isHour : GoodIn wsX6_game wsX6_isHour := goodIn_r _ [12, 13, 7, 8, 4, 9] (by decide +kernel) (by decide +kernel)
set_option maxRecDepth 20000 in
theorem gX6_game_X6_isHour : GoodIn wsX6_game (va_wsS RX6 105 yX6_isHour wsX6_isHour) := goodIn_app (goodIn_of _ (by decide +kernel)) ggX6_game_X6_isHour
set_option maxRecDepth 20000 in
theorem ggX6_game_X6_in : GoodIn wsX6_game wsX6_in := goodIn_r _ [9] (by decide +kernel) (by decide +kernel)
set_option maxRecDepth 20000 in
theorem gX6_game_X6_in : GoodIn wsX6_game (va_wsS RX6 56 yX6_in wsX6_in) := goodIn_app (goodIn_of _ (by decide +kernel)) ggX6_game_X6_in
set_option maxRecDepth 20000 in
theorem ggX6_game_X6_refuses : GoodIn wsX6_game wsX6_refuses := goodIn_r _ [17, 18, 19, 47, 48, 49, 50, 51, 52, 53, 54, 55, 56, 57, 58, 59, 60, 61, 62, 63, 64, 65] (by decide +kernel) (by decide +kernel)
set_option maxRecDepth 20000 in
theorem gX6_game_X6_refuses : GoodIn wsX6_game (wsV RX6 52 RX6 yX6_refuses wsX6_refuses) := goodIn_app (goodIn_of _ (by decide +kernel)) ggX6_game_X6_refuses
set_option maxRecDepth 20000 in
theorem ggX6_game_X6_thingsIn : GoodIn wsX6_game wsX6_thingsIn := goodIn_r _ [23, 6, 47, 48, 49, 50, 51, 52, 53, 54, 55, 56, 57, 58, 59, 60, 61, 62, 63, 64, 65] (by decide +kernel) (by decide +kernel)
set_option maxRecDepth 20000 in
theorem gX6_game_X6_thingsIn : GoodIn wsX6_game (wsV RX6 87 RX6 yX6_thingsIn wsX6_thingsIn) := goodIn_app (goodIn_of _ (by decide +kernel)) ggX6_game_X6_thingsIn
set_option maxRecDepth 20000 in
theorem ggX6_game_X6_senderLoses : GoodIn wsX6_game wsX6_senderLoses := goodIn_r _ [26] (by decide +kernel) (by decide +kernel)
set_option maxRecDepth 20000 in
theorem gX6_game_X6_senderLoses : GoodIn wsX6_game (va_wsS RX6 234 yX6_senderLoses wsX6_senderLoses) := goodIn_app (goodIn_of _ (by decide +kernel)) ggX6_game_X6_senderLoses
set_option maxRecDepth 20000 in
theorem ggX6_game_X6_takerLoses : GoodIn wsX6_game wsX6_takerLoses := goodIn_r _ [30, 20, 21, 22, 4, 23, 6, 31, 32, 33, 34, 35, 36, 37, 38, 39, 40, 41, 42, 43, 44, 45, 46, 47, 48, 49, 50, 51, 52, 53, 54, 55, 56, 57, 58, 59, 60, 61, 62, 63, 64, 65] (by decide +kernel) (by decide +kernel)
set_option maxRecDepth 20000 in
theorem gX6_game_X6_takerLoses : GoodIn wsX6_game (wsV RX6 238 RX6 yX6_takerLoses wsX6_takerLoses) := goodIn_app (goodIn_of _ (by decide +kernel)) ggX6_game_X6_takerLoses
theorem hd6_game : yX6_game.cls = RX6 ∧ yX6_game.cls ≠ "java/lang/invoke/MethodHandle" ∧ yX6_game.cls ≠ "java/lang/invoke/VarHandle" ∧ (parseMethodDescriptor yX6_game.desc).map (fun d => d.parameters.length) = some 3 := by decide +kernel
abbrev rm6_game : Room := { frames := 4, cells := 0, slots := 0, locals := 98 }
set_option maxHeartbeats 4000000 in
set_option maxRecDepth 100000 in
theorem c6_game {l : Launch} {D : va_G} {cI cZ cB : ClassId} {q : Nat → Nat} {sz : Nat} {quiet : Int32} {mabove : Int64} {mbelow : Int64} {typed : Int32} {mat : Int32} {mstart : Int32} {mtoken : Int32} {mvalue : Int32} {many : Int32} {book : Nat → Int32} {images : Nat → Int32} {mkept : Nat → Int32} {aside : Nat → Int32} {refused : Nat → Int32} {text : Nat → Int32} {items : Nat → Int32} {drawn : Nat → Int32} {row : Nat → Int32} {best : Nat → Int32} {a_g : Int32} {a_hour : Int32} {a_what : Int32} {r : Int32} {d_refused : Nat → Int32} (hf : f6_game quiet book refused a_g a_hour a_what = some (r, d_refused)) : Met l yX6_game wsX6_game rm6_game (zPm D cI cZ cB [.ref (q 0), .int a_g, .int a_hour, .int a_what] sz (cMod cI cZ q quiet mabove mbelow typed mat mstart mtoken mvalue many book images mkept aside refused text items drawn row best)) (zQm D (some (.int r)) (cMod cI cZ q quiet mabove mbelow typed mat mstart mtoken mvalue many book images mkept aside d_refused text items drawn row best) (va_A (cMod cI cZ q quiet mabove mbelow typed mat mstart mtoken mvalue many book images mkept aside refused text items drawn row best) sz)) 0 0 (va_A (cMod cI cZ q quiet mabove mbelow typed mat mstart mtoken mvalue many book images mkept aside refused text items drawn row best) sz) := by
  unfold f6_game at hf
  refine z_mutI RX6 (by decide +kernel) rfl rfl (Nat.le_of_ble_eq_true rfl) ?_
  intro p e s m args below meth c Q A ls hx hb hml hown hts hK hP hD hS hA hret hl
  have hl : lv_has ls 11 [(0, .ref (q 0)), (1, .int a_g), (2, .int a_hour), (3, .int a_what)] := hl
  refine lv_aload_n hx hb (zD_g DX6_game 0 rfl) rfl (lv_at hl 0 rfl) ?_
  refine lv_iload_n hx hb (zD_g DX6_game 1 rfl) rfl (lv_at hl 1 rfl) ?_
  obtain ⟨r1, hc2, hf⟩ := zb1_s hf
  refine z_Vp (As := [.int a_g]) (rest := []) ⟨hx, hb, hml, hown, hts⟩ hK (c6_isGift (quiet := quiet) (mabove := mabove) (mbelow := mbelow) (typed := typed) (mat := mat) (mstart := mstart) (mtoken := mtoken) (mvalue := mvalue) (many := many) (book := book) (images := images) (mkept := mkept) (aside := aside) (refused := refused) (text := text) (items := items) (drawn := drawn) (row := row) (best := best) (q := q) hc2) (cwV 1 hts gX6_game_X6_isGift rfl rfl rfl hd6_isGift ⟨Nat.le_of_ble_eq_true rfl, Nat.le_of_ble_eq_true rfl⟩) hP rfl rfl rfl rfl hl.1 rfl rfl (Nat.le_of_ble_eq_true rfl) (zD_g DX6_game 2 rfl) ⟨Nat.zero_le _, Nat.zero_le _⟩ ?_
  refine lv_if_eq (tgt := 25) hx hb (zD_g DX6_game 3 rfl) (by decide) (fun c3 => ?_) (fun c3 => ?_)
  · replace hf := z_t c3 hf
    refine lv_aload_n hx hb (zD_g DX6_game 13 rfl) rfl (lv_at hl 0 rfl) ?_
    refine lv_iconst (v := (0 : Int32)) hx hb (zD_g DX6_game 14 rfl) (by decide) ?_
    refine lv_bipush (v := (-10 : Int32)) hx hb (zD_g DX6_game 15 rfl) (by decide) ?_
    obtain ⟨r4, refused_5, hc6, hf⟩ := zb2_s hf
    refine z_Vm (As := [.int (0 : Int32), .int (-10 : Int32)]) (rest := []) (ws' := (cMod cI cZ q quiet mabove mbelow typed mat mstart mtoken mvalue many book images mkept aside refused_5 text items drawn row best)) ⟨hx, hb, hml, hown, hts⟩ hK (c6_refuses (quiet := quiet) (mabove := mabove) (mbelow := mbelow) (typed := typed) (mat := mat) (mstart := mstart) (mtoken := mtoken) (mvalue := mvalue) (many := many) (book := book) (images := images) (mkept := mkept) (aside := aside) (refused := refused) (text := text) (items := items) (drawn := drawn) (row := row) (best := best) (q := q) hc6) (cwV 2 hts gX6_game_X6_refuses rfl rfl rfl hd6_refuses ⟨Nat.le_of_ble_eq_true rfl, Nat.le_of_ble_eq_true rfl⟩) hP hD hS hA 11 [0, 1, 2, 3, 4, 5, 6, 7, 8, 9, 10] [] [0, 1, 2, 3, 4, 5, 6, 7, 8, 9, 10] (by decide +kernel) rfl rfl rfl rfl rfl rfl rfl hl.1 rfl rfl (Nat.le_of_ble_eq_true rfl) (zD_g DX6_game 16 rfl) ⟨Nat.zero_le _, Nat.zero_le _⟩ (fun H locs hP hD hS => ?_)
    cases hf
    exact hret _ _ _ _ hP hD hS (zD_g DX6_game 17 rfl)
  · replace hf := z_f c3 hf
    refine lv_iload_n hx hb (zD_g DX6_game 4 rfl) rfl (lv_at hl 2 rfl) ?_
    obtain ⟨r7, hc8, hf⟩ := zb1_s hf
    refine z_Sp (As := [.int a_hour]) (rest := []) ⟨hx, hb, hml, hown, hts⟩ hK (c6_isHour  hc8) (va_cwS 1 hts gX6_game_X6_isHour rfl rfl rfl hd6_isHour ⟨Nat.le_of_ble_eq_true rfl, Nat.le_of_ble_eq_true rfl⟩) (hP.sub [] rfl) rfl hl.1 rfl rfl (Nat.le_of_ble_eq_true rfl) (zD_g DX6_game 5 rfl) ⟨Nat.zero_le _, Nat.zero_le _⟩ ?_
    refine lv_if_eq (tgt := 25) hx hb (zD_g DX6_game 6 rfl) (by decide) (fun c9 => ?_) (fun c9 => ?_)
    · replace hf := z_t c9 hf
      refine lv_aload_n hx hb (zD_g DX6_game 13 rfl) rfl (lv_at hl 0 rfl) ?_
      refine lv_iconst (v := (0 : Int32)) hx hb (zD_g DX6_game 14 rfl) (by decide) ?_
      refine lv_bipush (v := (-10 : Int32)) hx hb (zD_g DX6_game 15 rfl) (by decide) ?_
      obtain ⟨r10, refused_11, hc12, hf⟩ := zb2_s hf
      refine z_Vm (As := [.int (0 : Int32), .int (-10 : Int32)]) (rest := []) (ws' := (cMod cI cZ q quiet mabove mbelow typed mat mstart mtoken mvalue many book images mkept aside refused_11 text items drawn row best)) ⟨hx, hb, hml, hown, hts⟩ hK (c6_refuses (quiet := quiet) (mabove := mabove) (mbelow := mbelow) (typed := typed) (mat := mat) (mstart := mstart) (mtoken := mtoken) (mvalue := mvalue) (many := many) (book := book) (images := images) (mkept := mkept) (aside := aside) (refused := refused) (text := text) (items := items) (drawn := drawn) (row := row) (best := best) (q := q) hc12) (cwV 2 hts gX6_game_X6_refuses rfl rfl rfl hd6_refuses ⟨Nat.le_of_ble_eq_true rfl, Nat.le_of_ble_eq_true rfl⟩) hP hD hS hA 11 [0, 1, 2, 3, 4, 5, 6, 7, 8, 9, 10] [] [0, 1, 2, 3, 4, 5, 6, 7, 8, 9, 10] (by decide +kernel) rfl rfl rfl rfl rfl rfl rfl hl.1 rfl rfl (Nat.le_of_ble_eq_true rfl) (zD_g DX6_game 16 rfl) ⟨Nat.zero_le _, Nat.zero_le _⟩ (fun H locs hP hD hS => ?_)
      cases hf
      exact hret _ _ _ _ hP hD hS (zD_g DX6_game 17 rfl)
    · replace hf := z_f c9 hf
      refine lv_iload_n hx hb (zD_g DX6_game 7 rfl) rfl (lv_at hl 3 rfl) ?_
      refine lv_i2l (v := (a_what).toInt64) hx hb (zD_g DX6_game 8 rfl) rfl ?_
      refine lv_lconst (v := (0 : Int64)) hx hb (zD_g DX6_game 9 rfl) (by decide) ?_
      refine lv_lconst (v := (1 : Int64)) hx hb (zD_g DX6_game 10 rfl) (by decide) ?_
      obtain ⟨r13, hc14, hf⟩ := zb1_s hf
      refine z_Sp (As := [.long ((a_what).toInt64), .long (0 : Int64), .long (1 : Int64)]) (rest := []) ⟨hx, hb, hml, hown, hts⟩ hK (c6_in  hc14) (va_cwS 3 hts gX6_game_X6_in rfl rfl rfl hd6_in ⟨Nat.le_of_ble_eq_true rfl, Nat.le_of_ble_eq_true rfl⟩) (hP.sub [] rfl) rfl hl.1 rfl rfl (Nat.le_of_ble_eq_true rfl) (zD_g DX6_game 11 rfl) ⟨Nat.zero_le _, Nat.zero_le _⟩ ?_
      refine lv_if_ne (tgt := 33) hx hb (zD_g DX6_game 12 rfl) (by decide) (fun c15 => ?_) (fun c15 => ?_)
      · replace hf := z_f c15 hf
        refine lv_aload_n hx hb (zD_g DX6_game 18 rfl) rfl (lv_at hl 0 rfl) ?_
        refine lv_iload_n hx hb (zD_g DX6_game 19 rfl) rfl (lv_at hl 1 rfl) ?_
        obtain ⟨r16, hc17, hf⟩ := zb1_s hf
        refine z_Vp (As := [.int a_g]) (rest := []) ⟨hx, hb, hml, hown, hts⟩ hK (c6_thingsIn (quiet := quiet) (mabove := mabove) (mbelow := mbelow) (typed := typed) (mat := mat) (mstart := mstart) (mtoken := mtoken) (mvalue := mvalue) (many := many) (book := book) (images := images) (mkept := mkept) (aside := aside) (refused := refused) (text := text) (items := items) (drawn := drawn) (row := row) (best := best) (q := q) hc17) (cwV 1 hts gX6_game_X6_thingsIn rfl rfl rfl hd6_thingsIn ⟨Nat.le_of_ble_eq_true rfl, Nat.le_of_ble_eq_true rfl⟩) hP rfl rfl rfl rfl hl.1 rfl rfl (Nat.le_of_ble_eq_true rfl) (zD_g DX6_game 20 rfl) ⟨Nat.zero_le _, Nat.zero_le _⟩ ?_
        obtain ⟨v19, hr68, hf⟩ := zb1_s hf
        have hJ68 : ∀ (H : Heap) (locs : List Loc), va_P D vwCl (cMod cI cZ q quiet mabove mbelow typed mat mstart mtoken mvalue many book images mkept aside refused text items drawn row best) H → va_D A (cMod cI cZ q quiet mabove mbelow typed mat mstart mtoken mvalue many book images mkept aside refused text items drawn row best) → va_S A s.heap H locs → ∀ (ls : Array Slot), lv_has ls 11 [(0, .ref (q 0)), (1, .int a_g), (2, .int a_hour), (3, .int a_what)] → W p l e rm6_game s m args below meth c H locs 0 0 Q (F0 m 46 ls [.int v19]) := by
          intro H locs hP hD hS ls hl
          refine lv_istore (lv' := [(4, .int v19), (0, .ref (q 0)), (1, .int a_g), (2, .int a_hour), (3, .int a_what)]) hx hb (zD_g DX6_game 25 rfl) hl (by decide) rfl (fun ls hl => ?_)
          refine lv_iconst (v := (0 : Int32)) hx hb (zD_g DX6_game 26 rfl) (by decide) ?_
          refine lv_istore (lv' := [(5, .int (0 : Int32)), (4, .int v19), (0, .ref (q 0)), (1, .int a_g), (2, .int a_hour), (3, .int a_what)]) hx hb (zD_g DX6_game 27 rfl) hl (by decide) rfl (fun ls hl => ?_)
          refine lv_iconst (v := (-1 : Int32)) hx hb (zD_g DX6_game 28 rfl) (by decide) ?_
          refine lv_istore (lv' := [(6, .int (-1 : Int32)), (5, .int (0 : Int32)), (4, .int v19), (0, .ref (q 0)), (1, .int a_g), (2, .int a_hour), (3, .int a_what)]) hx hb (zD_g DX6_game 29 rfl) hl (by decide) rfl (fun ls hl => ?_)
          refine lv_iconst (v := (0 : Int32)) hx hb (zD_g DX6_game 30 rfl) (by decide) ?_
          refine lv_istore (lv' := [(7, .int (0 : Int32)), (6, .int (-1 : Int32)), (5, .int (0 : Int32)), (4, .int v19), (0, .ref (q 0)), (1, .int a_g), (2, .int a_hour), (3, .int a_what)]) hx hb (zD_g DX6_game 31 rfl) hl (by decide) rfl (fun ls hl => ?_)
          have hL23 : ∀ (k23 : Int32 → Int32 → Option (Int32 × (Nat → Int32))) (hk23 : ∀ (y65 : Int32) (y66 : Int32), k23 y65 y66 = some (r, d_refused) → ∀ (H : Heap) (locs : List Loc), va_P D vwCl (cMod cI cZ q quiet mabove mbelow typed mat mstart mtoken mvalue many book images mkept aside refused text items drawn row best) H → va_D A (cMod cI cZ q quiet mabove mbelow typed mat mstart mtoken mvalue many book images mkept aside refused text items drawn row best) → va_S A s.heap H locs → ∀ (ls : Array Slot), lv_has ls 11 [(3, .int a_what), (5, .int y65), (6, .int y66)] → W p l e rm6_game s m args below meth c H locs 0 0 Q (F0 m 226 ls [])) (n23 : Nat) (y20 : Int32) (y21 : Int32) (y22 : Int32), L6_game_57 k23 book a_g a_hour v19 n23 y20 y21 y22 = some (r, d_refused) → ∀ (H : Heap) (locs : List Loc), va_P D vwCl (cMod cI cZ q quiet mabove mbelow typed mat mstart mtoken mvalue many book images mkept aside refused text items drawn row best) H → va_D A (cMod cI cZ q quiet mabove mbelow typed mat mstart mtoken mvalue many book images mkept aside refused text items drawn row best) → va_S A s.heap H locs → ∀ (ls : Array Slot), lv_has ls 11 [(0, .ref (q 0)), (1, .int a_g), (2, .int a_hour), (3, .int a_what), (4, .int v19), (5, .int y20), (6, .int y21), (7, .int y22)] → W p l e rm6_game s m args below meth c H locs 0 0 Q (F0 m 57 ls []) := by
            intro k23 hk23 n23
            induction n23 with
            | zero =>
              intro y20 y21 y22 hf
              cases hf
            | succ n23 ih23 =>
              intro y20 y21 y22 hf H locs hP hD hS ls hl
              rw [L6_game_57] at hf
              refine lv_iload hx hb (zD_g DX6_game 32 rfl) (lv_at hl 7 rfl) ?_
              refine lv_iconst (v := (2 : Int32)) hx hb (zD_g DX6_game 33 rfl) (by decide) ?_
              refine lv_icmp_ge (tgt := 226) hx hb (zD_g DX6_game 34 rfl) (by decide) (fun c24 => ?_) (fun c24 => ?_)
              · replace hf := z_t c24 hf
                exact hk23 _ _ hf _ _ hP hD hS ls (lv_sub hl [3, 5, 6] rfl)
              · replace hf := z_f c24 hf
                refine lv_iconst (v := (0 : Int32)) hx hb (zD_g DX6_game 35 rfl) (by decide) ?_
                refine lv_istore (lv' := [(8, .int (0 : Int32)), (0, .ref (q 0)), (1, .int a_g), (2, .int a_hour), (3, .int a_what), (4, .int v19), (5, .int y20), (6, .int y21), (7, .int y22)]) hx hb (zD_g DX6_game 36 rfl) hl (by decide) rfl (fun ls hl => ?_)
                have hL28 : ∀ (k28 : Int32 → Int32 → Option (Int32 × (Nat → Int32))) (hk28 : ∀ (y63 : Int32) (y64 : Int32), k28 y63 y64 = some (r, d_refused) → ∀ (H : Heap) (locs : List Loc), va_P D vwCl (cMod cI cZ q quiet mabove mbelow typed mat mstart mtoken mvalue many book images mkept aside refused text items drawn row best) H → va_D A (cMod cI cZ q quiet mabove mbelow typed mat mstart mtoken mvalue many book images mkept aside refused text items drawn row best) → va_S A s.heap H locs → ∀ (ls : Array Slot), lv_has ls 11 [(0, .ref (q 0)), (1, .int a_g), (2, .int a_hour), (3, .int a_what), (4, .int v19), (5, .int y63), (6, .int y64), (7, .int y22)] → W p l e rm6_game s m args below meth c H locs 0 0 Q (F0 m 220 ls [])) (n28 : Nat) (y25 : Int32) (y26 : Int32) (y27 : Int32), L6_game_66 k28 book a_g a_hour v19 y22 n28 y25 y26 y27 = some (r, d_refused) → ∀ (H : Heap) (locs : List Loc), va_P D vwCl (cMod cI cZ q quiet mabove mbelow typed mat mstart mtoken mvalue many book images mkept aside refused text items drawn row best) H → va_D A (cMod cI cZ q quiet mabove mbelow typed mat mstart mtoken mvalue many book images mkept aside refused text items drawn row best) → va_S A s.heap H locs → ∀ (ls : Array Slot), lv_has ls 11 [(0, .ref (q 0)), (1, .int a_g), (2, .int a_hour), (3, .int a_what), (4, .int v19), (5, .int y25), (6, .int y26), (7, .int y22), (8, .int y27)] → W p l e rm6_game s m args below meth c H locs 0 0 Q (F0 m 66 ls []) := by
                  intro k28 hk28 n28
                  induction n28 with
                  | zero =>
                    intro y25 y26 y27 hf
                    cases hf
                  | succ n28 ih28 =>
                    intro y25 y26 y27 hf H locs hP hD hS ls hl
                    rw [L6_game_66] at hf
                    refine lv_iload hx hb (zD_g DX6_game 37 rfl) (lv_at hl 8 rfl) ?_
                    refine lv_iconst (v := (3 : Int32)) hx hb (zD_g DX6_game 38 rfl) (by decide) ?_
                    refine lv_icmp_ge (tgt := 220) hx hb (zD_g DX6_game 39 rfl) (by decide) (fun c29 => ?_) (fun c29 => ?_)
                    · replace hf := z_t c29 hf
                      exact hk28 _ _ hf _ _ hP hD hS ls (lv_sub hl [0, 1, 2, 3, 4, 5, 6, 7] rfl)
                    · replace hf := z_f c29 hf
                      refine lv_iload hx hb (zD_g DX6_game 40 rfl) (lv_at hl 4 rfl) ?_
                      obtain ⟨v31, hr61, hf⟩ := zb1_s hf
                      have hJ61 : ∀ (H : Heap) (locs : List Loc), va_P D vwCl (cMod cI cZ q quiet mabove mbelow typed mat mstart mtoken mvalue many book images mkept aside refused text items drawn row best) H → va_D A (cMod cI cZ q quiet mabove mbelow typed mat mstart mtoken mvalue many book images mkept aside refused text items drawn row best) → va_S A s.heap H locs → ∀ (ls : Array Slot), lv_has ls 11 [(0, .ref (q 0)), (1, .int a_g), (2, .int a_hour), (3, .int a_what), (4, .int v19), (5, .int y25), (6, .int y26), (7, .int y22), (8, .int y27)] → W p l e rm6_game s m args below meth c H locs 0 0 Q (F0 m 87 ls [.int v31]) := by
                        intro H locs hP hD hS ls hl
                        refine lv_iload hx hb (zD_g DX6_game 47 rfl) (lv_at hl 8 rfl) ?_
                        obtain ⟨r32, hc33, hf⟩ := zb1_s hf
                        refine z_Sp (As := [.int v31, .int y27]) (rest := []) ⟨hx, hb, hml, hown, hts⟩ hK (c6_senderLoses  hc33) (va_cwS 2 hts gX6_game_X6_senderLoses rfl rfl rfl hd6_senderLoses ⟨Nat.le_of_ble_eq_true rfl, Nat.le_of_ble_eq_true rfl⟩) (hP.sub [] rfl) rfl hl.1 rfl rfl (Nat.le_of_ble_eq_true rfl) (zD_g DX6_game 48 rfl) ⟨Nat.zero_le _, Nat.zero_le _⟩ ?_
                        refine lv_iload hx hb (zD_g DX6_game 49 rfl) (lv_at hl 4 rfl) ?_
                        obtain ⟨v35, hr59, hf⟩ := zb1_s hf
                        have hJ59 : ∀ (H : Heap) (locs : List Loc), va_P D vwCl (cMod cI cZ q quiet mabove mbelow typed mat mstart mtoken mvalue many book images mkept aside refused text items drawn row best) H → va_D A (cMod cI cZ q quiet mabove mbelow typed mat mstart mtoken mvalue many book images mkept aside refused text items drawn row best) → va_S A s.heap H locs → ∀ (ls : Array Slot), lv_has ls 11 [(0, .ref (q 0)), (1, .int a_g), (2, .int a_hour), (3, .int a_what), (4, .int v19), (5, .int y25), (6, .int y26), (7, .int y22), (8, .int y27)] → W p l e rm6_game s m args below meth c H locs 0 0 Q (F0 m 108 ls [.int v35, .int r32]) := by
                          intro H locs hP hD hS ls hl
                          refine lv_iload hx hb (zD_g DX6_game 57 rfl) (lv_at hl 8 rfl) ?_
                          obtain ⟨r36, hc37, hf⟩ := zb1_s hf
                          refine z_Sp (As := [.int v35, .int y27]) (rest := [.int r32]) ⟨hx, hb, hml, hown, hts⟩ hK (c6_senderLoses  hc37) (va_cwS 2 hts gX6_game_X6_senderLoses rfl rfl rfl hd6_senderLoses ⟨Nat.le_of_ble_eq_true rfl, Nat.le_of_ble_eq_true rfl⟩) (hP.sub [] rfl) rfl hl.1 rfl rfl (Nat.le_of_ble_eq_true rfl) (zD_g DX6_game 58 rfl) ⟨Nat.zero_le _, Nat.zero_le _⟩ ?_
                          obtain ⟨v39, hr58, hf⟩ := zb1_s hf
                          have hJ58 : ∀ (H : Heap) (locs : List Loc), va_P D vwCl (cMod cI cZ q quiet mabove mbelow typed mat mstart mtoken mvalue many book images mkept aside refused text items drawn row best) H → va_D A (cMod cI cZ q quiet mabove mbelow typed mat mstart mtoken mvalue many book images mkept aside refused text items drawn row best) → va_S A s.heap H locs → ∀ (ls : Array Slot), lv_has ls 11 [(0, .ref (q 0)), (1, .int a_g), (2, .int a_hour), (3, .int a_what), (4, .int v19), (5, .int y25), (6, .int y26), (7, .int y22), (8, .int y27)] → W p l e rm6_game s m args below meth c H locs 0 0 Q (F0 m 121 ls [.int v39]) := by
                            intro H locs hP hD hS ls hl
                            refine lv_istore (lv' := [(9, .int v39), (0, .ref (q 0)), (1, .int a_g), (2, .int a_hour), (3, .int a_what), (4, .int v19), (5, .int y25), (6, .int y26), (7, .int y22), (8, .int y27)]) hx hb (zD_g DX6_game 63 rfl) hl (by decide) rfl (fun ls hl => ?_)
                            refine lv_iconst (v := (0 : Int32)) hx hb (zD_g DX6_game 64 rfl) (by decide) ?_
                            refine lv_istore (lv' := [(10, .int (0 : Int32)), (9, .int v39), (0, .ref (q 0)), (1, .int a_g), (2, .int a_hour), (3, .int a_what), (4, .int v19), (5, .int y25), (6, .int y26), (7, .int y22), (8, .int y27)]) hx hb (zD_g DX6_game 65 rfl) hl (by decide) rfl (fun ls hl => ?_)
                            have hL42 : ∀ (k42 : Int32 → Option (Int32 × (Nat → Int32))) (hk42 : ∀ (y50 : Int32), k42 y50 = some (r, d_refused) → ∀ (H : Heap) (locs : List Loc), va_P D vwCl (cMod cI cZ q quiet mabove mbelow typed mat mstart mtoken mvalue many book images mkept aside refused text items drawn row best) H → va_D A (cMod cI cZ q quiet mabove mbelow typed mat mstart mtoken mvalue many book images mkept aside refused text items drawn row best) → va_S A s.heap H locs → ∀ (ls : Array Slot), lv_has ls 11 [(0, .ref (q 0)), (1, .int a_g), (2, .int a_hour), (3, .int a_what), (4, .int v19), (5, .int y25), (6, .int y26), (7, .int y22), (8, .int y27), (9, .int y50)] → W p l e rm6_game s m args below meth c H locs 0 0 Q (F0 m 173 ls [])) (n42 : Nat) (y40 : Int32) (y41 : Int32), L6_game_126 k42 book a_g a_hour y22 y27 n42 y40 y41 = some (r, d_refused) → ∀ (H : Heap) (locs : List Loc), va_P D vwCl (cMod cI cZ q quiet mabove mbelow typed mat mstart mtoken mvalue many book images mkept aside refused text items drawn row best) H → va_D A (cMod cI cZ q quiet mabove mbelow typed mat mstart mtoken mvalue many book images mkept aside refused text items drawn row best) → va_S A s.heap H locs → ∀ (ls : Array Slot), lv_has ls 11 [(0, .ref (q 0)), (1, .int a_g), (2, .int a_hour), (3, .int a_what), (4, .int v19), (5, .int y25), (6, .int y26), (7, .int y22), (8, .int y27), (9, .int y40), (10, .int y41)] → W p l e rm6_game s m args below meth c H locs 0 0 Q (F0 m 126 ls []) := by
                              intro k42 hk42 n42
                              induction n42 with
                              | zero =>
                                intro y40 y41 hf
                                cases hf
                              | succ n42 ih42 =>
                                intro y40 y41 hf H locs hP hD hS ls hl
                                rw [L6_game_126] at hf
                                refine lv_iload hx hb (zD_g DX6_game 66 rfl) (lv_at hl 10 rfl) ?_
                                refine lv_iconst (v := (3 : Int32)) hx hb (zD_g DX6_game 67 rfl) (by decide) ?_
                                refine lv_icmp_ge (tgt := 173) hx hb (zD_g DX6_game 68 rfl) (by decide) (fun c43 => ?_) (fun c43 => ?_)
                                · replace hf := z_t c43 hf
                                  exact hk42 _ hf _ _ hP hD hS ls (lv_sub hl [0, 1, 2, 3, 4, 5, 6, 7, 8, 9] rfl)
                                · replace hf := z_f c43 hf
                                  refine lv_iload hx hb (zD_g DX6_game 69 rfl) (lv_at hl 9 rfl) ?_
                                  refine lv_if_eq (tgt := 164) hx hb (zD_g DX6_game 70 rfl) (by decide) (fun c44 => ?_) (fun c44 => ?_)
                                  · replace hf := z_t c44 hf
                                    refine lv_iconst (v := (0 : Int32)) hx hb (zD_g DX6_game 86 rfl) (by decide) ?_
                                    refine lv_istore (lv' := [(9, .int (0 : Int32)), (0, .ref (q 0)), (1, .int a_g), (2, .int a_hour), (3, .int a_what), (4, .int v19), (5, .int y25), (6, .int y26), (7, .int y22), (8, .int y27), (10, .int y41)]) hx hb (zD_g DX6_game 87 rfl) hl (by decide) rfl (fun ls hl => ?_)
                                    refine lv_iinc (v := y41 + 1) (lv' := [(10, .int (y41 + 1)), (9, .int (0 : Int32)), (0, .ref (q 0)), (1, .int a_g), (2, .int a_hour), (3, .int a_what), (4, .int v19), (5, .int y25), (6, .int y26), (7, .int y22), (8, .int y27)]) (k := 10) hx hb (zD_g DX6_game 88 rfl) hl rfl rfl (by decide) rfl (fun ls hl => ?_)
                                    refine lv_goto (tgt := 126) hx hb (zD_g DX6_game 89 rfl) (by decide) ?_
                                    exact ih42 _ _ hf _ _ hP hD hS ls (lv_sub hl [2, 3, 4, 5, 6, 7, 8, 9, 10, 1, 0] rfl)
                                  · replace hf := z_f c44 hf
                                    refine lv_aload_n hx hb (zD_g DX6_game 71 rfl) rfl (lv_at hl 0 rfl) ?_
                                    refine lv_iload_n hx hb (zD_g DX6_game 72 rfl) rfl (lv_at hl 1 rfl) ?_
                                    refine lv_iload_n hx hb (zD_g DX6_game 73 rfl) rfl (lv_at hl 2 rfl) ?_
                                    refine lv_iload hx hb (zD_g DX6_game 74 rfl) (lv_at hl 7 rfl) ?_
                                    refine lv_iload hx hb (zD_g DX6_game 75 rfl) (lv_at hl 8 rfl) ?_
                                    obtain ⟨r45, hc46, hf⟩ := zb1_s hf
                                    refine z_Vp (As := [.int a_g, .int a_hour, .int y22, .int y27]) (rest := []) ⟨hx, hb, hml, hown, hts⟩ hK (c6_takerLoses (quiet := quiet) (mabove := mabove) (mbelow := mbelow) (typed := typed) (mat := mat) (mstart := mstart) (mtoken := mtoken) (mvalue := mvalue) (many := many) (book := book) (images := images) (mkept := mkept) (aside := aside) (refused := refused) (text := text) (items := items) (drawn := drawn) (row := row) (best := best) (q := q) hc46) (cwV 4 hts gX6_game_X6_takerLoses rfl rfl rfl hd6_takerLoses ⟨Nat.le_of_ble_eq_true rfl, Nat.le_of_ble_eq_true rfl⟩) hP rfl rfl rfl rfl hl.1 rfl rfl (Nat.le_of_ble_eq_true rfl) (zD_g DX6_game 76 rfl) ⟨Nat.zero_le _, Nat.zero_le _⟩ ?_
                                    refine lv_aload_n hx hb (zD_g DX6_game 77 rfl) rfl (lv_at hl 0 rfl) ?_
                                    refine lv_iload_n hx hb (zD_g DX6_game 78 rfl) rfl (lv_at hl 1 rfl) ?_
                                    refine lv_iload_n hx hb (zD_g DX6_game 79 rfl) rfl (lv_at hl 2 rfl) ?_
                                    refine lv_iload hx hb (zD_g DX6_game 80 rfl) (lv_at hl 7 rfl) ?_
                                    refine lv_iload hx hb (zD_g DX6_game 81 rfl) (lv_at hl 10 rfl) ?_
                                    obtain ⟨r47, hc48, hf⟩ := zb1_s hf
                                    refine z_Vp (As := [.int a_g, .int a_hour, .int y22, .int y41]) (rest := [.int r45]) ⟨hx, hb, hml, hown, hts⟩ hK (c6_takerLoses (quiet := quiet) (mabove := mabove) (mbelow := mbelow) (typed := typed) (mat := mat) (mstart := mstart) (mtoken := mtoken) (mvalue := mvalue) (many := many) (book := book) (images := images) (mkept := mkept) (aside := aside) (refused := refused) (text := text) (items := items) (drawn := drawn) (row := row) (best := best) (q := q) hc48) (cwV 4 hts gX6_game_X6_takerLoses rfl rfl rfl hd6_takerLoses ⟨Nat.le_of_ble_eq_true rfl, Nat.le_of_ble_eq_true rfl⟩) hP rfl rfl rfl rfl hl.1 rfl rfl (Nat.le_of_ble_eq_true rfl) (zD_g DX6_game 82 rfl) ⟨Nat.zero_le _, Nat.zero_le _⟩ ?_
                                    refine lv_icmp_gt (tgt := 164) hx hb (zD_g DX6_game 83 rfl) (by decide) (fun c49 => ?_) (fun c49 => ?_)
                                    · replace hf := z_t c49 hf
                                      refine lv_iconst (v := (0 : Int32)) hx hb (zD_g DX6_game 86 rfl) (by decide) ?_
                                      refine lv_istore (lv' := [(9, .int (0 : Int32)), (0, .ref (q 0)), (1, .int a_g), (2, .int a_hour), (3, .int a_what), (4, .int v19), (5, .int y25), (6, .int y26), (7, .int y22), (8, .int y27), (10, .int y41)]) hx hb (zD_g DX6_game 87 rfl) hl (by decide) rfl (fun ls hl => ?_)
                                      refine lv_iinc (v := y41 + 1) (lv' := [(10, .int (y41 + 1)), (9, .int (0 : Int32)), (0, .ref (q 0)), (1, .int a_g), (2, .int a_hour), (3, .int a_what), (4, .int v19), (5, .int y25), (6, .int y26), (7, .int y22), (8, .int y27)]) (k := 10) hx hb (zD_g DX6_game 88 rfl) hl rfl rfl (by decide) rfl (fun ls hl => ?_)
                                      refine lv_goto (tgt := 126) hx hb (zD_g DX6_game 89 rfl) (by decide) ?_
                                      exact ih42 _ _ hf _ _ hP hD hS ls (lv_sub hl [2, 3, 4, 5, 6, 7, 8, 9, 10, 1, 0] rfl)
                                    · replace hf := z_f c49 hf
                                      refine lv_iconst (v := (1 : Int32)) hx hb (zD_g DX6_game 84 rfl) (by decide) ?_
                                      refine lv_goto (tgt := 165) hx hb (zD_g DX6_game 85 rfl) (by decide) ?_
                                      refine lv_istore (lv' := [(9, .int (1 : Int32)), (0, .ref (q 0)), (1, .int a_g), (2, .int a_hour), (3, .int a_what), (4, .int v19), (5, .int y25), (6, .int y26), (7, .int y22), (8, .int y27), (10, .int y41)]) hx hb (zD_g DX6_game 87 rfl) hl (by decide) rfl (fun ls hl => ?_)
                                      refine lv_iinc (v := y41 + 1) (lv' := [(10, .int (y41 + 1)), (9, .int (1 : Int32)), (0, .ref (q 0)), (1, .int a_g), (2, .int a_hour), (3, .int a_what), (4, .int v19), (5, .int y25), (6, .int y26), (7, .int y22), (8, .int y27)]) (k := 10) hx hb (zD_g DX6_game 88 rfl) hl rfl rfl (by decide) rfl (fun ls hl => ?_)
                                      refine lv_goto (tgt := 126) hx hb (zD_g DX6_game 89 rfl) (by decide) ?_
                                      exact ih42 _ _ hf _ _ hP hD hS ls (lv_sub hl [2, 3, 4, 5, 6, 7, 8, 9, 10, 1, 0] rfl)
                            refine hL42 _ (fun y50 hf H locs hP hD hS ls hl => ?_) _ _ _ hf _ _ hP hD hS ls (lv_sub hl [2, 3, 4, 5, 6, 7, 8, 9, 10, 1, 0] rfl)
                            refine lv_iload hx hb (zD_g DX6_game 90 rfl) (lv_at hl 5 rfl) ?_
                            refine lv_iload hx hb (zD_g DX6_game 91 rfl) (lv_at hl 9 rfl) ?_
                            obtain ⟨v52, hr57, hf⟩ := zb1_s hf
                            have hJ57 : ∀ (H : Heap) (locs : List Loc), va_P D vwCl (cMod cI cZ q quiet mabove mbelow typed mat mstart mtoken mvalue many book images mkept aside refused text items drawn row best) H → va_D A (cMod cI cZ q quiet mabove mbelow typed mat mstart mtoken mvalue many book images mkept aside refused text items drawn row best) → va_S A s.heap H locs → ∀ (ls : Array Slot), lv_has ls 11 [(0, .ref (q 0)), (1, .int a_g), (2, .int a_hour), (3, .int a_what), (4, .int v19), (6, .int y26), (7, .int y22), (8, .int y27), (9, .int y50)] → W p l e rm6_game s m args below meth c H locs 0 0 Q (F0 m 185 ls [.int v52, .int y25]) := by
                              intro H locs hP hD hS ls hl
                              refine lv_iadd hx hb (zD_g DX6_game 96 rfl) ?_
                              refine lv_topi (fun x53 ex53 => ?_)
                              replace hf := zl_s hf x53 ex53
                              refine lv_istore (lv' := [(5, .int x53), (0, .ref (q 0)), (1, .int a_g), (2, .int a_hour), (3, .int a_what), (4, .int v19), (6, .int y26), (7, .int y22), (8, .int y27), (9, .int y50)]) hx hb (zD_g DX6_game 97 rfl) hl (by decide) rfl (fun ls hl => ?_)
                              refine lv_iload hx hb (zD_g DX6_game 98 rfl) (lv_at hl 9 rfl) ?_
                              refine lv_if_eq (tgt := 210) hx hb (zD_g DX6_game 99 rfl) (by decide) (fun c54 => ?_) (fun c54 => ?_)
                              · replace hf := z_t c54 hf
                                refine lv_iload hx hb (zD_g DX6_game 109 rfl) (lv_at hl 6 rfl) ?_
                                refine lv_istore (lv' := [(6, .int y26), (5, .int x53), (0, .ref (q 0)), (1, .int a_g), (2, .int a_hour), (3, .int a_what), (4, .int v19), (7, .int y22), (8, .int y27), (9, .int y50)]) hx hb (zD_g DX6_game 110 rfl) hl (by decide) rfl (fun ls hl => ?_)
                                refine lv_iinc (v := y27 + 1) (lv' := [(8, .int (y27 + 1)), (6, .int y26), (5, .int x53), (0, .ref (q 0)), (1, .int a_g), (2, .int a_hour), (3, .int a_what), (4, .int v19), (7, .int y22), (9, .int y50)]) (k := 8) hx hb (zD_g DX6_game 111 rfl) hl rfl rfl (by decide) rfl (fun ls hl => ?_)
                                refine lv_goto (tgt := 66) hx hb (zD_g DX6_game 112 rfl) (by decide) ?_
                                exact ih28 _ _ _ hf _ _ hP hD hS ls (lv_sub hl [3, 4, 5, 6, 7, 2, 1, 8, 0] rfl)
                              · replace hf := z_f c54 hf
                                refine lv_iload hx hb (zD_g DX6_game 100 rfl) (lv_at hl 6 rfl) ?_
                                refine lv_iconst (v := (-1 : Int32)) hx hb (zD_g DX6_game 101 rfl) (by decide) ?_
                                refine lv_icmp_ne (tgt := 210) hx hb (zD_g DX6_game 102 rfl) (by decide) (fun c55 => ?_) (fun c55 => ?_)
                                · replace hf := z_f c55 hf
                                  refine lv_iload hx hb (zD_g DX6_game 109 rfl) (lv_at hl 6 rfl) ?_
                                  refine lv_istore (lv' := [(6, .int y26), (5, .int x53), (0, .ref (q 0)), (1, .int a_g), (2, .int a_hour), (3, .int a_what), (4, .int v19), (7, .int y22), (8, .int y27), (9, .int y50)]) hx hb (zD_g DX6_game 110 rfl) hl (by decide) rfl (fun ls hl => ?_)
                                  refine lv_iinc (v := y27 + 1) (lv' := [(8, .int (y27 + 1)), (6, .int y26), (5, .int x53), (0, .ref (q 0)), (1, .int a_g), (2, .int a_hour), (3, .int a_what), (4, .int v19), (7, .int y22), (9, .int y50)]) (k := 8) hx hb (zD_g DX6_game 111 rfl) hl rfl rfl (by decide) rfl (fun ls hl => ?_)
                                  refine lv_goto (tgt := 66) hx hb (zD_g DX6_game 112 rfl) (by decide) ?_
                                  exact ih28 _ _ _ hf _ _ hP hD hS ls (lv_sub hl [3, 4, 5, 6, 7, 2, 1, 8, 0] rfl)
                                · replace hf := z_t c55 hf
                                  refine lv_bipush (v := (10 : Int32)) hx hb (zD_g DX6_game 103 rfl) (by decide) ?_
                                  refine lv_iload hx hb (zD_g DX6_game 104 rfl) (lv_at hl 7 rfl) ?_
                                  refine lv_imul hx hb (zD_g DX6_game 105 rfl) ?_
                                  refine lv_iload hx hb (zD_g DX6_game 106 rfl) (lv_at hl 8 rfl) ?_
                                  refine lv_iadd hx hb (zD_g DX6_game 107 rfl) ?_
                                  refine lv_goto (tgt := 212) hx hb (zD_g DX6_game 108 rfl) (by decide) ?_
                                  refine lv_topi (fun x56 ex56 => ?_)
                                  replace hf := zl_s hf x56 ex56
                                  refine lv_istore (lv' := [(6, .int x56), (5, .int x53), (0, .ref (q 0)), (1, .int a_g), (2, .int a_hour), (3, .int a_what), (4, .int v19), (7, .int y22), (8, .int y27), (9, .int y50)]) hx hb (zD_g DX6_game 110 rfl) hl (by decide) rfl (fun ls hl => ?_)
                                  refine lv_iinc (v := y27 + 1) (lv' := [(8, .int (y27 + 1)), (6, .int x56), (5, .int x53), (0, .ref (q 0)), (1, .int a_g), (2, .int a_hour), (3, .int a_what), (4, .int v19), (7, .int y22), (9, .int y50)]) (k := 8) hx hb (zD_g DX6_game 111 rfl) hl rfl rfl (by decide) rfl (fun ls hl => ?_)
                                  refine lv_goto (tgt := 66) hx hb (zD_g DX6_game 112 rfl) (by decide) ?_
                                  exact ih28 _ _ _ hf _ _ hP hD hS ls (lv_sub hl [3, 4, 5, 6, 7, 2, 1, 8, 0] rfl)
                            clear hf
                            have hf := hr57
                            refine lv_if_eq (tgt := 184) hx hb (zD_g DX6_game 92 rfl) (by decide) (fun c51 => ?_) (fun c51 => ?_)
                            · replace hf := z_t c51 hf
                              refine lv_iconst (v := (0 : Int32)) hx hb (zD_g DX6_game 95 rfl) (by decide) ?_
                              cases hf
                              exact hJ57 _ _ hP hD hS ls (lv_sub hl [0, 1, 2, 3, 4, 6, 7, 8, 9] rfl)
                            · replace hf := z_f c51 hf
                              refine lv_iconst (v := (1 : Int32)) hx hb (zD_g DX6_game 93 rfl) (by decide) ?_
                              refine lv_goto (tgt := 185) hx hb (zD_g DX6_game 94 rfl) (by decide) ?_
                              cases hf
                              exact hJ57 _ _ hP hD hS ls (lv_sub hl [0, 1, 2, 3, 4, 6, 7, 8, 9] rfl)
                          clear hf
                          have hf := hr58
                          refine lv_icmp_gt (tgt := 120) hx hb (zD_g DX6_game 59 rfl) (by decide) (fun c38 => ?_) (fun c38 => ?_)
                          · replace hf := z_t c38 hf
                            refine lv_iconst (v := (0 : Int32)) hx hb (zD_g DX6_game 62 rfl) (by decide) ?_
                            cases hf
                            exact hJ58 _ _ hP hD hS ls (lv_sub hl [0, 1, 2, 3, 4, 5, 6, 7, 8] rfl)
                          · replace hf := z_f c38 hf
                            refine lv_iconst (v := (1 : Int32)) hx hb (zD_g DX6_game 60 rfl) (by decide) ?_
                            refine lv_goto (tgt := 121) hx hb (zD_g DX6_game 61 rfl) (by decide) ?_
                            cases hf
                            exact hJ58 _ _ hP hD hS ls (lv_sub hl [0, 1, 2, 3, 4, 5, 6, 7, 8] rfl)
                        clear hf
                        have hf := hr59
                        refine lv_if_eq (tgt := 107) hx hb (zD_g DX6_game 50 rfl) (by decide) (fun c34 => ?_) (fun c34 => ?_)
                        · replace hf := z_t c34 hf
                          refine lv_iconst (v := (0 : Int32)) hx hb (zD_g DX6_game 56 rfl) (by decide) ?_
                          cases hf
                          exact hJ59 _ _ hP hD hS ls (lv_sub hl [0, 1, 2, 3, 4, 5, 6, 7, 8] rfl)
                        · replace hf := z_f c34 hf
                          refine lv_iload hx hb (zD_g DX6_game 51 rfl) (lv_at hl 7 rfl) ?_
                          refine lv_iconst (v := (1 : Int32)) hx hb (zD_g DX6_game 52 rfl) (by decide) ?_
                          refine lv_icmp_ne (tgt := 107) hx hb (zD_g DX6_game 53 rfl) (by decide) (fun c60 => ?_) (fun c60 => ?_)
                          · replace hf := z_f c60 hf
                            refine lv_iconst (v := (0 : Int32)) hx hb (zD_g DX6_game 56 rfl) (by decide) ?_
                            cases hf
                            exact hJ59 _ _ hP hD hS ls (lv_sub hl [0, 1, 2, 3, 4, 5, 6, 7, 8] rfl)
                          · replace hf := z_t c60 hf
                            refine lv_iconst (v := (1 : Int32)) hx hb (zD_g DX6_game 54 rfl) (by decide) ?_
                            refine lv_goto (tgt := 108) hx hb (zD_g DX6_game 55 rfl) (by decide) ?_
                            cases hf
                            exact hJ59 _ _ hP hD hS ls (lv_sub hl [0, 1, 2, 3, 4, 5, 6, 7, 8] rfl)
                      clear hf
                      have hf := hr61
                      refine lv_if_eq (tgt := 86) hx hb (zD_g DX6_game 41 rfl) (by decide) (fun c30 => ?_) (fun c30 => ?_)
                      · replace hf := z_t c30 hf
                        refine lv_iconst (v := (0 : Int32)) hx hb (zD_g DX6_game 46 rfl) (by decide) ?_
                        cases hf
                        exact hJ61 _ _ hP hD hS ls (lv_sub hl [0, 1, 2, 3, 4, 5, 6, 7, 8] rfl)
                      · replace hf := z_f c30 hf
                        refine lv_iload hx hb (zD_g DX6_game 42 rfl) (lv_at hl 7 rfl) ?_
                        refine lv_if_ne (tgt := 86) hx hb (zD_g DX6_game 43 rfl) (by decide) (fun c62 => ?_) (fun c62 => ?_)
                        · replace hf := z_f c62 hf
                          refine lv_iconst (v := (0 : Int32)) hx hb (zD_g DX6_game 46 rfl) (by decide) ?_
                          cases hf
                          exact hJ61 _ _ hP hD hS ls (lv_sub hl [0, 1, 2, 3, 4, 5, 6, 7, 8] rfl)
                        · replace hf := z_t c62 hf
                          refine lv_iconst (v := (1 : Int32)) hx hb (zD_g DX6_game 44 rfl) (by decide) ?_
                          refine lv_goto (tgt := 87) hx hb (zD_g DX6_game 45 rfl) (by decide) ?_
                          cases hf
                          exact hJ61 _ _ hP hD hS ls (lv_sub hl [0, 1, 2, 3, 4, 5, 6, 7, 8] rfl)
                refine hL28 _ (fun y63 y64 hf H locs hP hD hS ls hl => ?_) _ _ _ _ hf _ _ hP hD hS ls (lv_sub hl [1, 2, 3, 4, 5, 6, 7, 8, 0] rfl)
                refine lv_iinc (v := y22 + 1) (lv' := [(7, .int (y22 + 1)), (0, .ref (q 0)), (1, .int a_g), (2, .int a_hour), (3, .int a_what), (4, .int v19), (5, .int y63), (6, .int y64)]) (k := 7) hx hb (zD_g DX6_game 113 rfl) hl rfl rfl (by decide) rfl (fun ls hl => ?_)
                refine lv_goto (tgt := 57) hx hb (zD_g DX6_game 114 rfl) (by decide) ?_
                exact ih23 _ _ _ hf _ _ hP hD hS ls (lv_sub hl [1, 2, 3, 4, 5, 6, 7, 0] rfl)
          refine hL23 _ (fun y65 y66 hf H locs hP hD hS ls hl => ?_) _ _ _ _ hf _ _ hP hD hS ls (lv_sub hl [4, 5, 6, 7, 3, 2, 1, 0] rfl)
          refine lv_iload_n hx hb (zD_g DX6_game 115 rfl) rfl (lv_at hl 0 rfl) ?_
          refine lv_if_ne (tgt := 235) hx hb (zD_g DX6_game 116 rfl) (by decide) (fun c67 => ?_) (fun c67 => ?_)
          · replace hf := z_f c67 hf
            refine lv_iload hx hb (zD_g DX6_game 119 rfl) (lv_at hl 2 rfl) ?_
            cases hf
            exact hret _ _ _ _ hP hD hS (zD_g DX6_game 120 rfl)
          · replace hf := z_t c67 hf
            refine lv_iload hx hb (zD_g DX6_game 117 rfl) (lv_at hl 1 rfl) ?_
            refine lv_goto (tgt := 237) hx hb (zD_g DX6_game 118 rfl) (by decide) ?_
            cases hf
            exact hret _ _ _ _ hP hD hS (zD_g DX6_game 120 rfl)
        clear hf
        have hf := hr68
        refine lv_if_eq (tgt := 45) hx hb (zD_g DX6_game 21 rfl) (by decide) (fun c18 => ?_) (fun c18 => ?_)
        · replace hf := z_t c18 hf
          refine lv_iconst (v := (0 : Int32)) hx hb (zD_g DX6_game 24 rfl) (by decide) ?_
          cases hf
          exact hJ68 _ _ hP hD hS ls (lv_sub hl [0, 1, 2, 3] rfl)
        · replace hf := z_f c18 hf
          refine lv_iconst (v := (1 : Int32)) hx hb (zD_g DX6_game 22 rfl) (by decide) ?_
          refine lv_goto (tgt := 46) hx hb (zD_g DX6_game 23 rfl) (by decide) ?_
          cases hf
          exact hJ68 _ _ hP hD hS ls (lv_sub hl [0, 1, 2, 3] rfl)
      · replace hf := z_t c15 hf
        refine lv_aload_n hx hb (zD_g DX6_game 13 rfl) rfl (lv_at hl 0 rfl) ?_
        refine lv_iconst (v := (0 : Int32)) hx hb (zD_g DX6_game 14 rfl) (by decide) ?_
        refine lv_bipush (v := (-10 : Int32)) hx hb (zD_g DX6_game 15 rfl) (by decide) ?_
        obtain ⟨r69, refused_70, hc71, hf⟩ := zb2_s hf
        refine z_Vm (As := [.int (0 : Int32), .int (-10 : Int32)]) (rest := []) (ws' := (cMod cI cZ q quiet mabove mbelow typed mat mstart mtoken mvalue many book images mkept aside refused_70 text items drawn row best)) ⟨hx, hb, hml, hown, hts⟩ hK (c6_refuses (quiet := quiet) (mabove := mabove) (mbelow := mbelow) (typed := typed) (mat := mat) (mstart := mstart) (mtoken := mtoken) (mvalue := mvalue) (many := many) (book := book) (images := images) (mkept := mkept) (aside := aside) (refused := refused) (text := text) (items := items) (drawn := drawn) (row := row) (best := best) (q := q) hc71) (cwV 2 hts gX6_game_X6_refuses rfl rfl rfl hd6_refuses ⟨Nat.le_of_ble_eq_true rfl, Nat.le_of_ble_eq_true rfl⟩) hP hD hS hA 11 [0, 1, 2, 3, 4, 5, 6, 7, 8, 9, 10] [] [0, 1, 2, 3, 4, 5, 6, 7, 8, 9, 10] (by decide +kernel) rfl rfl rfl rfl rfl rfl rfl hl.1 rfl rfl (Nat.le_of_ble_eq_true rfl) (zD_g DX6_game 16 rfl) ⟨Nat.zero_le _, Nat.zero_le _⟩ (fun H locs hP hD hS => ?_)
        cases hf
        exact hret _ _ _ _ hP hD hS (zD_g DX6_game 17 rfl)
