abbrev dlX6_stand : List (Nat × Instr × Nat) := [(0, .aload_n 0, 1), (1, .iload_n 1, 1), (2, .invokevirtual 84, 3), (5, .ifCond .eq 13, 3), (8, .iload_n 2, 1), (9, .i2l, 1), (10, .lconst 0, 1), (11, .lconst 1, 1), (12, .invokestatic 56, 3), (15, .ifCond .ne 8, 3), (18, .aload_n 0, 1), (19, .invokevirtual 66, 3), (22, .ireturn, 1), (23, .aload_n 0, 1), (24, .iload_n 1, 1), (25, .invokevirtual 87, 3), (28, .istore_n 3, 1), (29, .iconst 0, 1), (30, .istore 4, 2), (32, .iconst 1, 1), (33, .istore 5, 2), (35, .iload 5, 2), (37, .bipush 6, 2), (39, .if_icmp .ge 37, 3), (42, .aload_n 0, 1), (43, .iload_n 1, 1), (44, .iload_n 3, 1), (45, .iload 5, 2), (47, .invokevirtual 206, 3), (50, .aload_n 0, 1), (51, .iload_n 1, 1), (52, .iload_n 3, 1), (53, .iload 4, 2), (55, .invokevirtual 206, 3), (58, .if_icmp .ge 8, 3), (61, .iload 5, 2), (63, .goto 5, 3), (66, .iload 4, 2), (68, .istore 4, 2), (70, .iinc 5 1, 3), (73, .goto (-38), 3), (76, .iload_n 2, 1), (77, .ifCond .ne 8, 3), (80, .iload 4, 2), (82, .goto 11, 3), (85, .aload_n 0, 1), (86, .iload_n 1, 1), (87, .iload_n 3, 1), (88, .iload 4, 2), (90, .invokevirtual 206, 3), (93, .ireturn, 1)]
theorem DX6_stand : zD cX6_stand dlX6_stand = true := by decide +kernel
set_option maxRecDepth 20000 in
theorem ggX6_stand_X6_isGift : GoodIn wsX6_stand wsX6_isGift := goodIn_r _ [5, 6, 7, 8, 4, 9, 40, 41, 42, 43, 44, 45, 46, 47, 48, 49, 50, 51, 52, 53, 54, 55, 56, 57, 58] (by decide +kernel) (by decide +kernel)
set_option maxRecDepth 20000 in
theorem gX6_stand_X6_isGift : GoodIn wsX6_stand (wsV RX6 84 RX6 yX6_isGift wsX6_isGift) := goodIn_app (goodIn_of _ (by decide +kernel)) ggX6_stand_X6_isGift
set_option maxRecDepth 20000 in
theorem ggX6_stand_X6_in : GoodIn wsX6_stand wsX6_in := goodIn_r _ [9] (by decide +kernel) (by decide +kernel)
set_option maxRecDepth 20000 in
theorem gX6_stand_X6_in : GoodIn wsX6_stand (va_wsS RX6 56 yX6_in wsX6_in) := goodIn_app (goodIn_of _ (by decide +kernel)) ggX6_stand_X6_in
set_option maxRecDepth 20000 in
theorem ggX6_stand_X6_bad : GoodIn wsX6_stand wsX6_bad := goodIn_r _ [13, 14, 15, 16, 4, 17, 18, 19, 40, 41, 42, 43, 44, 45, 46, 47, 48, 49, 50, 51, 52, 53, 54, 55, 56, 57, 58] (by decide +kernel) (by decide +kernel)
set_option maxRecDepth 20000 in
theorem gX6_stand_X6_bad : GoodIn wsX6_stand (wsV RX6 66 RX6 yX6_bad wsX6_bad) := goodIn_app (goodIn_of _ (by decide +kernel)) ggX6_stand_X6_bad
set_option maxRecDepth 20000 in
theorem ggX6_stand_X6_thingsIn : GoodIn wsX6_stand wsX6_thingsIn := goodIn_r _ [23, 6, 40, 41, 42, 43, 44, 45, 46, 47, 48, 49, 50, 51, 52, 53, 54, 55, 56, 57, 58] (by decide +kernel) (by decide +kernel)
set_option maxRecDepth 20000 in
theorem gX6_stand_X6_thingsIn : GoodIn wsX6_stand (wsV RX6 87 RX6 yX6_thingsIn wsX6_thingsIn) := goodIn_app (goodIn_of _ (by decide +kernel)) ggX6_stand_X6_thingsIn
set_option maxRecDepth 20000 in
theorem ggX6_stand_X6_loses : GoodIn wsX6_stand wsX6_loses := goodIn_r _ [27, 6, 28, 29, 30, 4, 31, 32, 33, 34, 35, 36, 37, 38, 39, 40, 41, 42, 43, 44, 45, 46, 47, 48, 49, 50, 51, 52, 53, 54, 55, 56, 57, 58] (by decide +kernel) (by decide +kernel)
set_option maxRecDepth 20000 in
theorem gX6_stand_X6_loses : GoodIn wsX6_stand (wsV RX6 206 RX6 yX6_loses wsX6_loses) := goodIn_app (goodIn_of _ (by decide +kernel)) ggX6_stand_X6_loses
theorem hd6_stand : yX6_stand.cls = RX6 ∧ yX6_stand.cls ≠ "java/lang/invoke/MethodHandle" ∧ yX6_stand.cls ≠ "java/lang/invoke/VarHandle" ∧ (parseMethodDescriptor yX6_stand.desc).map (fun d => d.parameters.length) = some 2 := by decide +kernel
abbrev rm6_stand : Room := { frames := 3, cells := 0, slots := 0, locals := 73 }
set_option maxHeartbeats 4000000 in
set_option maxRecDepth 100000 in
theorem c6_stand {l : Launch} {D : va_G} {cI cZ cB : ClassId} {q : Nat → Nat} {sz : Nat} {quiet : Int32} {mabove : Int64} {mbelow : Int64} {typed : Int32} {mat : Int32} {mstart : Int32} {mtoken : Int32} {mvalue : Int32} {many : Int32} {book : Nat → Int32} {images : Nat → Int32} {mkept : Nat → Int32} {aside : Nat → Int32} {refused : Nat → Int32} {text : Nat → Int32} {items : Nat → Int32} {drawn : Nat → Int32} {row : Nat → Int32} {best : Nat → Int32} {a_g : Int32} {a_what : Int32} {r : Int32} {d_refused : Nat → Int32} (hf : f6_stand quiet book refused a_g a_what = some (r, d_refused)) : Met l yX6_stand wsX6_stand rm6_stand (zPm D cI cZ cB [.ref (q 0), .int a_g, .int a_what] sz (cMod cI cZ q quiet mabove mbelow typed mat mstart mtoken mvalue many book images mkept aside refused text items drawn row best)) (zQm D (some (.int r)) (cMod cI cZ q quiet mabove mbelow typed mat mstart mtoken mvalue many book images mkept aside d_refused text items drawn row best) (va_A (cMod cI cZ q quiet mabove mbelow typed mat mstart mtoken mvalue many book images mkept aside refused text items drawn row best) sz)) 0 0 (va_A (cMod cI cZ q quiet mabove mbelow typed mat mstart mtoken mvalue many book images mkept aside refused text items drawn row best) sz) := by
  unfold f6_stand at hf
  refine z_mutI RX6 (by decide +kernel) rfl rfl (Nat.le_of_ble_eq_true rfl) ?_
  intro p e s m args below meth c Q A ls hx hb hml hown hts hK hP hD hS hA hret hl
  have hl : lv_has ls 6 [(0, .ref (q 0)), (1, .int a_g), (2, .int a_what)] := hl
  refine lv_aload_n hx hb (zD_g DX6_stand 0 rfl) rfl (lv_at hl 0 rfl) ?_
  refine lv_iload_n hx hb (zD_g DX6_stand 1 rfl) rfl (lv_at hl 1 rfl) ?_
  obtain ⟨r1, hc2, hf⟩ := zb1_s hf
  refine z_Vp (As := [.int a_g]) (rest := []) ⟨hx, hb, hml, hown, hts⟩ hK (c6_isGift (quiet := quiet) (mabove := mabove) (mbelow := mbelow) (typed := typed) (mat := mat) (mstart := mstart) (mtoken := mtoken) (mvalue := mvalue) (many := many) (book := book) (images := images) (mkept := mkept) (aside := aside) (refused := refused) (text := text) (items := items) (drawn := drawn) (row := row) (best := best) (q := q) hc2) (cwV 1 hts gX6_stand_X6_isGift rfl rfl rfl hd6_isGift ⟨Nat.le_of_ble_eq_true rfl, Nat.le_of_ble_eq_true rfl⟩) hP rfl rfl rfl rfl hl.1 rfl rfl (Nat.le_of_ble_eq_true rfl) (zD_g DX6_stand 2 rfl) ⟨Nat.zero_le _, Nat.zero_le _⟩ ?_
  refine lv_if_eq (tgt := 18) hx hb (zD_g DX6_stand 3 rfl) (by decide) (fun c3 => ?_) (fun c3 => ?_)
  · replace hf := z_t c3 hf
    refine lv_aload_n hx hb (zD_g DX6_stand 10 rfl) rfl (lv_at hl 0 rfl) ?_
    obtain ⟨r4, refused_5, hc6, hf⟩ := zb2_s hf
    refine z_Vm (As := []) (rest := []) (ws' := (cMod cI cZ q quiet mabove mbelow typed mat mstart mtoken mvalue many book images mkept aside refused_5 text items drawn row best)) ⟨hx, hb, hml, hown, hts⟩ hK (c6_bad (quiet := quiet) (mabove := mabove) (mbelow := mbelow) (typed := typed) (mat := mat) (mstart := mstart) (mtoken := mtoken) (mvalue := mvalue) (many := many) (book := book) (images := images) (mkept := mkept) (aside := aside) (refused := refused) (text := text) (items := items) (drawn := drawn) (row := row) (best := best) (q := q) hc6) (cwV 0 hts gX6_stand_X6_bad rfl rfl rfl hd6_bad ⟨Nat.le_of_ble_eq_true rfl, Nat.le_of_ble_eq_true rfl⟩) hP hD hS hA 11 [0, 1, 2, 3, 4, 5, 6, 7, 8, 9, 10] [] [0, 1, 2, 3, 4, 5, 6, 7, 8, 9, 10] (by decide +kernel) rfl rfl rfl rfl rfl rfl rfl hl.1 rfl rfl (Nat.le_of_ble_eq_true rfl) (zD_g DX6_stand 11 rfl) ⟨Nat.zero_le _, Nat.zero_le _⟩ (fun H locs hP hD hS => ?_)
    cases hf
    exact hret _ _ _ _ hP hD hS (zD_g DX6_stand 12 rfl)
  · replace hf := z_f c3 hf
    refine lv_iload_n hx hb (zD_g DX6_stand 4 rfl) rfl (lv_at hl 2 rfl) ?_
    refine lv_i2l (v := (a_what).toInt64) hx hb (zD_g DX6_stand 5 rfl) rfl ?_
    refine lv_lconst (v := (0 : Int64)) hx hb (zD_g DX6_stand 6 rfl) (by decide) ?_
    refine lv_lconst (v := (1 : Int64)) hx hb (zD_g DX6_stand 7 rfl) (by decide) ?_
    obtain ⟨r7, hc8, hf⟩ := zb1_s hf
    refine z_Sp (As := [.long ((a_what).toInt64), .long (0 : Int64), .long (1 : Int64)]) (rest := []) ⟨hx, hb, hml, hown, hts⟩ hK (c6_in  hc8) (va_cwS 3 hts gX6_stand_X6_in rfl rfl rfl hd6_in ⟨Nat.le_of_ble_eq_true rfl, Nat.le_of_ble_eq_true rfl⟩) (hP.sub [] rfl) rfl hl.1 rfl rfl (Nat.le_of_ble_eq_true rfl) (zD_g DX6_stand 8 rfl) ⟨Nat.zero_le _, Nat.zero_le _⟩ ?_
    refine lv_if_ne (tgt := 23) hx hb (zD_g DX6_stand 9 rfl) (by decide) (fun c9 => ?_) (fun c9 => ?_)
    · replace hf := z_f c9 hf
      refine lv_aload_n hx hb (zD_g DX6_stand 13 rfl) rfl (lv_at hl 0 rfl) ?_
      refine lv_iload_n hx hb (zD_g DX6_stand 14 rfl) rfl (lv_at hl 1 rfl) ?_
      obtain ⟨r10, hc11, hf⟩ := zb1_s hf
      refine z_Vp (As := [.int a_g]) (rest := []) ⟨hx, hb, hml, hown, hts⟩ hK (c6_thingsIn (quiet := quiet) (mabove := mabove) (mbelow := mbelow) (typed := typed) (mat := mat) (mstart := mstart) (mtoken := mtoken) (mvalue := mvalue) (many := many) (book := book) (images := images) (mkept := mkept) (aside := aside) (refused := refused) (text := text) (items := items) (drawn := drawn) (row := row) (best := best) (q := q) hc11) (cwV 1 hts gX6_stand_X6_thingsIn rfl rfl rfl hd6_thingsIn ⟨Nat.le_of_ble_eq_true rfl, Nat.le_of_ble_eq_true rfl⟩) hP rfl rfl rfl rfl hl.1 rfl rfl (Nat.le_of_ble_eq_true rfl) (zD_g DX6_stand 15 rfl) ⟨Nat.zero_le _, Nat.zero_le _⟩ ?_
      refine lv_istore_n (lv' := [(3, .int r10), (0, .ref (q 0)), (1, .int a_g), (2, .int a_what)]) hx hb (zD_g DX6_stand 16 rfl) rfl hl (by decide) rfl (fun ls hl => ?_)
      refine lv_iconst (v := (0 : Int32)) hx hb (zD_g DX6_stand 17 rfl) (by decide) ?_
      refine lv_istore (lv' := [(4, .int (0 : Int32)), (3, .int r10), (0, .ref (q 0)), (1, .int a_g), (2, .int a_what)]) hx hb (zD_g DX6_stand 18 rfl) hl (by decide) rfl (fun ls hl => ?_)
      refine lv_iconst (v := (1 : Int32)) hx hb (zD_g DX6_stand 19 rfl) (by decide) ?_
      refine lv_istore (lv' := [(5, .int (1 : Int32)), (4, .int (0 : Int32)), (3, .int r10), (0, .ref (q 0)), (1, .int a_g), (2, .int a_what)]) hx hb (zD_g DX6_stand 20 rfl) hl (by decide) rfl (fun ls hl => ?_)
      have hL14 : ∀ (k14 : Int32 → Option (Int32 × (Nat → Int32))) (hk14 : ∀ (y21 : Int32), k14 y21 = some (r, d_refused) → ∀ (H : Heap) (locs : List Loc), va_P D vwCl (cMod cI cZ q quiet mabove mbelow typed mat mstart mtoken mvalue many book images mkept aside refused text items drawn row best) H → va_D A (cMod cI cZ q quiet mabove mbelow typed mat mstart mtoken mvalue many book images mkept aside refused text items drawn row best) → va_S A s.heap H locs → ∀ (ls : Array Slot), lv_has ls 6 [(0, .ref (q 0)), (1, .int a_g), (2, .int a_what), (3, .int r10), (4, .int y21)] → W p l e rm6_stand s m args below meth c H locs 0 0 Q (F0 m 76 ls [])) (n14 : Nat) (y12 : Int32) (y13 : Int32), L6_stand_35 k14 book a_g r10 n14 y12 y13 = some (r, d_refused) → ∀ (H : Heap) (locs : List Loc), va_P D vwCl (cMod cI cZ q quiet mabove mbelow typed mat mstart mtoken mvalue many book images mkept aside refused text items drawn row best) H → va_D A (cMod cI cZ q quiet mabove mbelow typed mat mstart mtoken mvalue many book images mkept aside refused text items drawn row best) → va_S A s.heap H locs → ∀ (ls : Array Slot), lv_has ls 6 [(0, .ref (q 0)), (1, .int a_g), (2, .int a_what), (3, .int r10), (4, .int y12), (5, .int y13)] → W p l e rm6_stand s m args below meth c H locs 0 0 Q (F0 m 35 ls []) := by
        intro k14 hk14 n14
        induction n14 with
        | zero =>
          intro y12 y13 hf
          cases hf
        | succ n14 ih14 =>
          intro y12 y13 hf H locs hP hD hS ls hl
          rw [L6_stand_35] at hf
          refine lv_iload hx hb (zD_g DX6_stand 21 rfl) (lv_at hl 5 rfl) ?_
          refine lv_bipush (v := (6 : Int32)) hx hb (zD_g DX6_stand 22 rfl) (by decide) ?_
          refine lv_icmp_ge (tgt := 76) hx hb (zD_g DX6_stand 23 rfl) (by decide) (fun c15 => ?_) (fun c15 => ?_)
          · replace hf := z_t c15 hf
            exact hk14 _ hf _ _ hP hD hS ls (lv_sub hl [0, 1, 2, 3, 4] rfl)
          · replace hf := z_f c15 hf
            refine lv_aload_n hx hb (zD_g DX6_stand 24 rfl) rfl (lv_at hl 0 rfl) ?_
            refine lv_iload_n hx hb (zD_g DX6_stand 25 rfl) rfl (lv_at hl 1 rfl) ?_
            refine lv_iload_n hx hb (zD_g DX6_stand 26 rfl) rfl (lv_at hl 3 rfl) ?_
            refine lv_iload hx hb (zD_g DX6_stand 27 rfl) (lv_at hl 5 rfl) ?_
            obtain ⟨r16, hc17, hf⟩ := zb1_s hf
            refine z_Vp (As := [.int a_g, .int r10, .int y13]) (rest := []) ⟨hx, hb, hml, hown, hts⟩ hK (c6_loses (quiet := quiet) (mabove := mabove) (mbelow := mbelow) (typed := typed) (mat := mat) (mstart := mstart) (mtoken := mtoken) (mvalue := mvalue) (many := many) (book := book) (images := images) (mkept := mkept) (aside := aside) (refused := refused) (text := text) (items := items) (drawn := drawn) (row := row) (best := best) (q := q) hc17) (cwV 3 hts gX6_stand_X6_loses rfl rfl rfl hd6_loses ⟨Nat.le_of_ble_eq_true rfl, Nat.le_of_ble_eq_true rfl⟩) hP rfl rfl rfl rfl hl.1 rfl rfl (Nat.le_of_ble_eq_true rfl) (zD_g DX6_stand 28 rfl) ⟨Nat.zero_le _, Nat.zero_le _⟩ ?_
            refine lv_aload_n hx hb (zD_g DX6_stand 29 rfl) rfl (lv_at hl 0 rfl) ?_
            refine lv_iload_n hx hb (zD_g DX6_stand 30 rfl) rfl (lv_at hl 1 rfl) ?_
            refine lv_iload_n hx hb (zD_g DX6_stand 31 rfl) rfl (lv_at hl 3 rfl) ?_
            refine lv_iload hx hb (zD_g DX6_stand 32 rfl) (lv_at hl 4 rfl) ?_
            obtain ⟨r18, hc19, hf⟩ := zb1_s hf
            refine z_Vp (As := [.int a_g, .int r10, .int y12]) (rest := [.int r16]) ⟨hx, hb, hml, hown, hts⟩ hK (c6_loses (quiet := quiet) (mabove := mabove) (mbelow := mbelow) (typed := typed) (mat := mat) (mstart := mstart) (mtoken := mtoken) (mvalue := mvalue) (many := many) (book := book) (images := images) (mkept := mkept) (aside := aside) (refused := refused) (text := text) (items := items) (drawn := drawn) (row := row) (best := best) (q := q) hc19) (cwV 3 hts gX6_stand_X6_loses rfl rfl rfl hd6_loses ⟨Nat.le_of_ble_eq_true rfl, Nat.le_of_ble_eq_true rfl⟩) hP rfl rfl rfl rfl hl.1 rfl rfl (Nat.le_of_ble_eq_true rfl) (zD_g DX6_stand 33 rfl) ⟨Nat.zero_le _, Nat.zero_le _⟩ ?_
            refine lv_icmp_ge (tgt := 66) hx hb (zD_g DX6_stand 34 rfl) (by decide) (fun c20 => ?_) (fun c20 => ?_)
            · replace hf := z_t c20 hf
              refine lv_iload hx hb (zD_g DX6_stand 37 rfl) (lv_at hl 4 rfl) ?_
              refine lv_istore (lv' := [(4, .int y12), (0, .ref (q 0)), (1, .int a_g), (2, .int a_what), (3, .int r10), (5, .int y13)]) hx hb (zD_g DX6_stand 38 rfl) hl (by decide) rfl (fun ls hl => ?_)
              refine lv_iinc (v := y13 + 1) (lv' := [(5, .int (y13 + 1)), (4, .int y12), (0, .ref (q 0)), (1, .int a_g), (2, .int a_what), (3, .int r10)]) (k := 5) hx hb (zD_g DX6_stand 39 rfl) hl rfl rfl (by decide) rfl (fun ls hl => ?_)
              refine lv_goto (tgt := 35) hx hb (zD_g DX6_stand 40 rfl) (by decide) ?_
              exact ih14 _ _ hf _ _ hP hD hS ls (lv_sub hl [2, 3, 4, 5, 1, 0] rfl)
            · replace hf := z_f c20 hf
              refine lv_iload hx hb (zD_g DX6_stand 35 rfl) (lv_at hl 5 rfl) ?_
              refine lv_goto (tgt := 68) hx hb (zD_g DX6_stand 36 rfl) (by decide) ?_
              refine lv_istore (lv' := [(4, .int y13), (0, .ref (q 0)), (1, .int a_g), (2, .int a_what), (3, .int r10), (5, .int y13)]) hx hb (zD_g DX6_stand 38 rfl) hl (by decide) rfl (fun ls hl => ?_)
              refine lv_iinc (v := y13 + 1) (lv' := [(5, .int (y13 + 1)), (4, .int y13), (0, .ref (q 0)), (1, .int a_g), (2, .int a_what), (3, .int r10)]) (k := 5) hx hb (zD_g DX6_stand 39 rfl) hl rfl rfl (by decide) rfl (fun ls hl => ?_)
              refine lv_goto (tgt := 35) hx hb (zD_g DX6_stand 40 rfl) (by decide) ?_
              exact ih14 _ _ hf _ _ hP hD hS ls (lv_sub hl [2, 3, 4, 5, 1, 0] rfl)
      refine hL14 _ (fun y21 hf H locs hP hD hS ls hl => ?_) _ _ _ hf _ _ hP hD hS ls (lv_sub hl [3, 4, 5, 2, 1, 0] rfl)
      refine lv_iload_n hx hb (zD_g DX6_stand 41 rfl) rfl (lv_at hl 2 rfl) ?_
      refine lv_if_ne (tgt := 85) hx hb (zD_g DX6_stand 42 rfl) (by decide) (fun c22 => ?_) (fun c22 => ?_)
      · replace hf := z_f c22 hf
        refine lv_aload_n hx hb (zD_g DX6_stand 45 rfl) rfl (lv_at hl 0 rfl) ?_
        refine lv_iload_n hx hb (zD_g DX6_stand 46 rfl) rfl (lv_at hl 1 rfl) ?_
        refine lv_iload_n hx hb (zD_g DX6_stand 47 rfl) rfl (lv_at hl 3 rfl) ?_
        refine lv_iload hx hb (zD_g DX6_stand 48 rfl) (lv_at hl 4 rfl) ?_
        obtain ⟨r23, hc24, hf⟩ := zb1_s hf
        refine z_Vp (As := [.int a_g, .int r10, .int y21]) (rest := []) ⟨hx, hb, hml, hown, hts⟩ hK (c6_loses (quiet := quiet) (mabove := mabove) (mbelow := mbelow) (typed := typed) (mat := mat) (mstart := mstart) (mtoken := mtoken) (mvalue := mvalue) (many := many) (book := book) (images := images) (mkept := mkept) (aside := aside) (refused := refused) (text := text) (items := items) (drawn := drawn) (row := row) (best := best) (q := q) hc24) (cwV 3 hts gX6_stand_X6_loses rfl rfl rfl hd6_loses ⟨Nat.le_of_ble_eq_true rfl, Nat.le_of_ble_eq_true rfl⟩) hP rfl rfl rfl rfl hl.1 rfl rfl (Nat.le_of_ble_eq_true rfl) (zD_g DX6_stand 49 rfl) ⟨Nat.zero_le _, Nat.zero_le _⟩ ?_
        cases hf
        exact hret _ _ _ _ hP hD hS (zD_g DX6_stand 50 rfl)
      · replace hf := z_t c22 hf
        refine lv_iload hx hb (zD_g DX6_stand 43 rfl) (lv_at hl 4 rfl) ?_
        refine lv_goto (tgt := 93) hx hb (zD_g DX6_stand 44 rfl) (by decide) ?_
        cases hf
        exact hret _ _ _ _ hP hD hS (zD_g DX6_stand 50 rfl)
    · replace hf := z_t c9 hf
      refine lv_aload_n hx hb (zD_g DX6_stand 10 rfl) rfl (lv_at hl 0 rfl) ?_
      obtain ⟨r25, refused_26, hc27, hf⟩ := zb2_s hf
      refine z_Vm (As := []) (rest := []) (ws' := (cMod cI cZ q quiet mabove mbelow typed mat mstart mtoken mvalue many book images mkept aside refused_26 text items drawn row best)) ⟨hx, hb, hml, hown, hts⟩ hK (c6_bad (quiet := quiet) (mabove := mabove) (mbelow := mbelow) (typed := typed) (mat := mat) (mstart := mstart) (mtoken := mtoken) (mvalue := mvalue) (many := many) (book := book) (images := images) (mkept := mkept) (aside := aside) (refused := refused) (text := text) (items := items) (drawn := drawn) (row := row) (best := best) (q := q) hc27) (cwV 0 hts gX6_stand_X6_bad rfl rfl rfl hd6_bad ⟨Nat.le_of_ble_eq_true rfl, Nat.le_of_ble_eq_true rfl⟩) hP hD hS hA 11 [0, 1, 2, 3, 4, 5, 6, 7, 8, 9, 10] [] [0, 1, 2, 3, 4, 5, 6, 7, 8, 9, 10] (by decide +kernel) rfl rfl rfl rfl rfl rfl rfl hl.1 rfl rfl (Nat.le_of_ble_eq_true rfl) (zD_g DX6_stand 11 rfl) ⟨Nat.zero_le _, Nat.zero_le _⟩ (fun H locs hP hD hS => ?_)
      cases hf
      exact hret _ _ _ _ hP hD hS (zD_g DX6_stand 12 rfl)
abbrev dlX6_tell : List (Nat × Instr × Nat) := [(0, .aload_n 0, 1), (1, .iload_n 1, 1), (2, .invokevirtual 84, 3), (5, .ifCond .eq 27, 3), (8, .iload_n 2, 1), (9, .i2l, 1), (10, .lconst 0, 1), (11, .ldc2_w 241, 3), (14, .invokestatic 56, 3), (17, .ifCond .eq 15, 3), (20, .aload_n 0, 1), (21, .bipush 62, 2), (23, .iload_n 1, 1), (24, .iadd, 1), (25, .iload_n 2, 1), (26, .invokevirtual 100, 3), (29, .goto 7, 3), (32, .aload_n 0, 1), (33, .invokevirtual 66, 3), (36, .ireturn, 1)]
theorem DX6_tell : zD cX6_tell dlX6_tell = true := by decide +kernel
set_option maxRecDepth 20000 in
theorem ggX6_tell_X6_isGift : GoodIn wsX6_tell wsX6_isGift := goodIn_r _ [6, 7, 8, 9, 5, 10, 25, 26, 27, 28, 29, 30, 31, 32, 33, 34, 35, 36, 37, 38, 39, 40, 41, 42, 43] (by decide +kernel) (by decide +kernel)
set_option maxRecDepth 20000 in
theorem gX6_tell_X6_isGift : GoodIn wsX6_tell (wsV RX6 84 RX6 yX6_isGift wsX6_isGift) := goodIn_app (goodIn_of _ (by decide +kernel)) ggX6_tell_X6_isGift
set_option maxRecDepth 20000 in
theorem ggX6_tell_X6_in : GoodIn wsX6_tell wsX6_in := goodIn_r _ [10] (by decide +kernel) (by decide +kernel)
set_option maxRecDepth 20000 in
theorem gX6_tell_X6_in : GoodIn wsX6_tell (va_wsS RX6 56 yX6_in wsX6_in) := goodIn_app (goodIn_of _ (by decide +kernel)) ggX6_tell_X6_in
set_option maxRecDepth 20000 in
theorem ggX6_tell_X6_puts : GoodIn wsX6_tell wsX6_puts := goodIn_r _ [14, 7, 25, 26, 27, 28, 29, 30, 31, 32, 33, 34, 35, 36, 37, 38, 39, 40, 41, 42, 43] (by decide +kernel) (by decide +kernel)
set_option maxRecDepth 20000 in
theorem gX6_tell_X6_puts : GoodIn wsX6_tell (wsV RX6 100 RX6 yX6_puts wsX6_puts) := goodIn_app (goodIn_of _ (by decide +kernel)) ggX6_tell_X6_puts
set_option maxRecDepth 20000 in
theorem ggX6_tell_X6_bad : GoodIn wsX6_tell wsX6_bad := goodIn_r _ [18, 19, 20, 21, 5, 22, 23, 24, 25, 26, 27, 28, 29, 30, 31, 32, 33, 34, 35, 36, 37, 38, 39, 40, 41, 42, 43] (by decide +kernel) (by decide +kernel)
set_option maxRecDepth 20000 in
theorem gX6_tell_X6_bad : GoodIn wsX6_tell (wsV RX6 66 RX6 yX6_bad wsX6_bad) := goodIn_app (goodIn_of _ (by decide +kernel)) ggX6_tell_X6_bad
theorem hd6_tell : yX6_tell.cls = RX6 ∧ yX6_tell.cls ≠ "java/lang/invoke/MethodHandle" ∧ yX6_tell.cls ≠ "java/lang/invoke/VarHandle" ∧ (parseMethodDescriptor yX6_tell.desc).map (fun d => d.parameters.length) = some 2 := by decide +kernel
abbrev rm6_tell : Room := { frames := 2, cells := 0, slots := 0, locals := 46 }
set_option maxHeartbeats 4000000 in
set_option maxRecDepth 100000 in
theorem c6_tell {l : Launch} {D : va_G} {cI cZ cB : ClassId} {q : Nat → Nat} {sz : Nat} {quiet : Int32} {mabove : Int64} {mbelow : Int64} {typed : Int32} {mat : Int32} {mstart : Int32} {mtoken : Int32} {mvalue : Int32} {many : Int32} {book : Nat → Int32} {images : Nat → Int32} {mkept : Nat → Int32} {aside : Nat → Int32} {refused : Nat → Int32} {text : Nat → Int32} {items : Nat → Int32} {drawn : Nat → Int32} {row : Nat → Int32} {best : Nat → Int32} {a_g : Int32} {a_n : Int32} {r : Int32} {d_book : Nat → Int32} {d_refused : Nat → Int32} (hf : f6_tell quiet book refused a_g a_n = some (r, d_book, d_refused)) : Met l yX6_tell wsX6_tell rm6_tell (zPm D cI cZ cB [.ref (q 0), .int a_g, .int a_n] sz (cMod cI cZ q quiet mabove mbelow typed mat mstart mtoken mvalue many book images mkept aside refused text items drawn row best)) (zQm D (some (.int r)) (cMod cI cZ q quiet mabove mbelow typed mat mstart mtoken mvalue many d_book images mkept aside d_refused text items drawn row best) (va_A (cMod cI cZ q quiet mabove mbelow typed mat mstart mtoken mvalue many book images mkept aside refused text items drawn row best) sz)) 0 0 (va_A (cMod cI cZ q quiet mabove mbelow typed mat mstart mtoken mvalue many book images mkept aside refused text items drawn row best) sz) := by
  unfold f6_tell at hf
  refine z_mutI RX6 (by decide +kernel) rfl rfl (Nat.le_of_ble_eq_true rfl) ?_
  intro p e s m args below meth c Q A ls hx hb hml hown hts hK hP hD hS hA hret hl
  have hl : lv_has ls 3 [(0, .ref (q 0)), (1, .int a_g), (2, .int a_n)] := hl
  refine lv_aload_n hx hb (zD_g DX6_tell 0 rfl) rfl (lv_at hl 0 rfl) ?_
  refine lv_iload_n hx hb (zD_g DX6_tell 1 rfl) rfl (lv_at hl 1 rfl) ?_
  obtain ⟨r1, hc2, hf⟩ := zb1_s hf
  refine z_Vp (As := [.int a_g]) (rest := []) ⟨hx, hb, hml, hown, hts⟩ hK (c6_isGift (quiet := quiet) (mabove := mabove) (mbelow := mbelow) (typed := typed) (mat := mat) (mstart := mstart) (mtoken := mtoken) (mvalue := mvalue) (many := many) (book := book) (images := images) (mkept := mkept) (aside := aside) (refused := refused) (text := text) (items := items) (drawn := drawn) (row := row) (best := best) (q := q) hc2) (cwV 1 hts gX6_tell_X6_isGift rfl rfl rfl hd6_isGift ⟨Nat.le_of_ble_eq_true rfl, Nat.le_of_ble_eq_true rfl⟩) hP rfl rfl rfl rfl hl.1 rfl rfl (Nat.le_of_ble_eq_true rfl) (zD_g DX6_tell 2 rfl) ⟨Nat.zero_le _, Nat.zero_le _⟩ ?_
  refine lv_if_eq (tgt := 32) hx hb (zD_g DX6_tell 3 rfl) (by decide) (fun c3 => ?_) (fun c3 => ?_)
  · replace hf := z_t c3 hf
    refine lv_aload_n hx hb (zD_g DX6_tell 17 rfl) rfl (lv_at hl 0 rfl) ?_
    obtain ⟨r4, refused_5, hc6, hf⟩ := zb2_s hf
    refine z_Vm (As := []) (rest := []) (ws' := (cMod cI cZ q quiet mabove mbelow typed mat mstart mtoken mvalue many book images mkept aside refused_5 text items drawn row best)) ⟨hx, hb, hml, hown, hts⟩ hK (c6_bad (quiet := quiet) (mabove := mabove) (mbelow := mbelow) (typed := typed) (mat := mat) (mstart := mstart) (mtoken := mtoken) (mvalue := mvalue) (many := many) (book := book) (images := images) (mkept := mkept) (aside := aside) (refused := refused) (text := text) (items := items) (drawn := drawn) (row := row) (best := best) (q := q) hc6) (cwV 0 hts gX6_tell_X6_bad rfl rfl rfl hd6_bad ⟨Nat.le_of_ble_eq_true rfl, Nat.le_of_ble_eq_true rfl⟩) hP hD hS hA 11 [0, 1, 2, 3, 4, 5, 6, 7, 8, 9, 10] [] [0, 1, 2, 3, 4, 5, 6, 7, 8, 9, 10] (by decide +kernel) rfl rfl rfl rfl rfl rfl rfl hl.1 rfl rfl (Nat.le_of_ble_eq_true rfl) (zD_g DX6_tell 18 rfl) ⟨Nat.zero_le _, Nat.zero_le _⟩ (fun H locs hP hD hS => ?_)
    cases hf
    exact hret _ _ _ _ hP hD hS (zD_g DX6_tell 19 rfl)
  · replace hf := z_f c3 hf
    refine lv_iload_n hx hb (zD_g DX6_tell 4 rfl) rfl (lv_at hl 2 rfl) ?_
    refine lv_i2l (v := (a_n).toInt64) hx hb (zD_g DX6_tell 5 rfl) rfl ?_
    refine lv_lconst (v := (0 : Int64)) hx hb (zD_g DX6_tell 6 rfl) (by decide) ?_
    refine lv_ldc2 (v := (99 : Int64)) hx hb hown (hts _ (List.mem_of_getElem? (i := 1) rfl)) (zD_g DX6_tell 7 rfl) ?_
    obtain ⟨r7, hc8, hf⟩ := zb1_s hf
    refine z_Sp (As := [.long ((a_n).toInt64), .long (0 : Int64), .long (99 : Int64)]) (rest := []) ⟨hx, hb, hml, hown, hts⟩ hK (c6_in  hc8) (va_cwS 3 hts gX6_tell_X6_in rfl rfl rfl hd6_in ⟨Nat.le_of_ble_eq_true rfl, Nat.le_of_ble_eq_true rfl⟩) (hP.sub [] rfl) rfl hl.1 rfl rfl (Nat.le_of_ble_eq_true rfl) (zD_g DX6_tell 8 rfl) ⟨Nat.zero_le _, Nat.zero_le _⟩ ?_
    refine lv_if_eq (tgt := 32) hx hb (zD_g DX6_tell 9 rfl) (by decide) (fun c9 => ?_) (fun c9 => ?_)
    · replace hf := z_t c9 hf
      refine lv_aload_n hx hb (zD_g DX6_tell 17 rfl) rfl (lv_at hl 0 rfl) ?_
      obtain ⟨r10, refused_11, hc12, hf⟩ := zb2_s hf
      refine z_Vm (As := []) (rest := []) (ws' := (cMod cI cZ q quiet mabove mbelow typed mat mstart mtoken mvalue many book images mkept aside refused_11 text items drawn row best)) ⟨hx, hb, hml, hown, hts⟩ hK (c6_bad (quiet := quiet) (mabove := mabove) (mbelow := mbelow) (typed := typed) (mat := mat) (mstart := mstart) (mtoken := mtoken) (mvalue := mvalue) (many := many) (book := book) (images := images) (mkept := mkept) (aside := aside) (refused := refused) (text := text) (items := items) (drawn := drawn) (row := row) (best := best) (q := q) hc12) (cwV 0 hts gX6_tell_X6_bad rfl rfl rfl hd6_bad ⟨Nat.le_of_ble_eq_true rfl, Nat.le_of_ble_eq_true rfl⟩) hP hD hS hA 11 [0, 1, 2, 3, 4, 5, 6, 7, 8, 9, 10] [] [0, 1, 2, 3, 4, 5, 6, 7, 8, 9, 10] (by decide +kernel) rfl rfl rfl rfl rfl rfl rfl hl.1 rfl rfl (Nat.le_of_ble_eq_true rfl) (zD_g DX6_tell 18 rfl) ⟨Nat.zero_le _, Nat.zero_le _⟩ (fun H locs hP hD hS => ?_)
      cases hf
      exact hret _ _ _ _ hP hD hS (zD_g DX6_tell 19 rfl)
    · replace hf := z_f c9 hf
      refine lv_aload_n hx hb (zD_g DX6_tell 10 rfl) rfl (lv_at hl 0 rfl) ?_
      refine lv_bipush (v := (62 : Int32)) hx hb (zD_g DX6_tell 11 rfl) (by decide) ?_
      refine lv_iload_n hx hb (zD_g DX6_tell 12 rfl) rfl (lv_at hl 1 rfl) ?_
      refine lv_iadd hx hb (zD_g DX6_tell 13 rfl) ?_
      refine lv_iload_n hx hb (zD_g DX6_tell 14 rfl) rfl (lv_at hl 2 rfl) ?_
      obtain ⟨r13, book_14, hc15, hf⟩ := zb2_s hf
      refine z_Vm (As := [.int ((62 : Int32) + a_g), .int a_n]) (rest := []) (ws' := (cMod cI cZ q quiet mabove mbelow typed mat mstart mtoken mvalue many book_14 images mkept aside refused text items drawn row best)) ⟨hx, hb, hml, hown, hts⟩ hK (c6_puts (quiet := quiet) (mabove := mabove) (mbelow := mbelow) (typed := typed) (mat := mat) (mstart := mstart) (mtoken := mtoken) (mvalue := mvalue) (many := many) (book := book) (images := images) (mkept := mkept) (aside := aside) (refused := refused) (text := text) (items := items) (drawn := drawn) (row := row) (best := best) (q := q) hc15) (cwV 2 hts gX6_tell_X6_puts rfl rfl rfl hd6_puts ⟨Nat.le_of_ble_eq_true rfl, Nat.le_of_ble_eq_true rfl⟩) hP hD hS hA 11 [0, 1, 2, 3, 4, 5, 6, 7, 8, 9, 10] [] [0, 1, 2, 3, 4, 5, 6, 7, 8, 9, 10] (by decide +kernel) rfl rfl rfl rfl rfl rfl rfl hl.1 rfl rfl (Nat.le_of_ble_eq_true rfl) (zD_g DX6_tell 15 rfl) ⟨Nat.zero_le _, Nat.zero_le _⟩ (fun H locs hP hD hS => ?_)
      refine lv_goto (tgt := 36) hx hb (zD_g DX6_tell 16 rfl) (by decide) ?_
      cases hf
      exact hret _ _ _ _ hP hD hS (zD_g DX6_tell 19 rfl)
abbrev dlX6_sat : List (Nat × Instr × Nat) := [(0, .aload_n 0, 1), (1, .iload_n 1, 1), (2, .invokevirtual 81, 3), (5, .ifCond .eq 10, 3), (8, .iload_n 2, 1), (9, .invokestatic 105, 3), (12, .ifCond .ne 8, 3), (15, .aload_n 0, 1), (16, .invokevirtual 66, 3), (19, .ireturn, 1), (20, .aload_n 0, 1), (21, .getfield 7, 3), (24, .bipush 36, 2), (26, .iload_n 1, 1), (27, .iadd, 1), (28, .iaload, 1), (29, .iconst (-1), 1), (30, .if_icmp .eq 8, 3), (33, .aload_n 0, 1), (34, .invokevirtual 94, 3), (37, .ireturn, 1), (38, .iconst 0, 1), (39, .istore_n 3, 1), (40, .iconst 0, 1), (41, .istore 4, 2), (43, .iload 4, 2), (45, .aload_n 0, 1), (46, .getfield 7, 3), (49, .iconst 1, 1), (50, .iaload, 1), (51, .if_icmp .ge 105, 3), (54, .iconst 1, 1), (55, .istore 5, 2), (57, .iconst 0, 1), (58, .istore 6, 2), (60, .iload 6, 2), (62, .aload_n 0, 1), (63, .getfield 7, 3), (66, .iconst 1, 1), (67, .iaload, 1), (68, .if_icmp .ge 66, 3), (71, .aload_n 0, 1), (72, .iload 6, 2), (74, .invokevirtual 87, 3), (77, .iload 6, 2), (79, .iload 4, 2), (81, .if_icmp .ne 9, 3), (84, .iconst 1, 1), (85, .iload_n 1, 1), (86, .ishl, 1), (87, .goto 4, 3), (90, .iconst 0, 1), (91, .ior, 1), (92, .istore 7, 2), (94, .iload 5, 2), (96, .ifCond .eq 29, 3), (99, .aload_n 0, 1), (100, .iload 6, 2), (102, .iload 7, 2), (104, .iload_n 2, 1), (105, .invokevirtual 206, 3), (108, .aload_n 0, 1), (109, .getfield 7, 3), (112, .bipush 62, 2), (114, .iload 6, 2), (116, .iadd, 1), (117, .iaload, 1), (118, .if_icmp .ne 7, 3), (121, .iconst 1, 1), (122, .goto 4, 3), (125, .iconst 0, 1), (126, .istore 5, 2), (128, .iinc 6 1, 3), (131, .goto (-71), 3), (134, .iload_n 3, 1), (135, .iload 5, 2), (137, .ifCond .eq 10, 3), (140, .iconst 1, 1), (141, .iload 4, 2), (143, .ishl, 1), (144, .goto 4, 3), (147, .iconst 0, 1), (148, .ior, 1), (149, .istore_n 3, 1), (150, .iinc 4 1, 3), (153, .goto (-110), 3), (156, .iload_n 3, 1), (157, .ireturn, 1)]
theorem DX6_sat : zD cX6_sat dlX6_sat = true := by decide +kernel
set_option maxRecDepth 20000 in
theorem ggX6_sat_X6_isThing : GoodIn wsX6_sat wsX6_isThing := goodIn_r _ [6, 1, 7, 8, 5, 9, 48, 49, 50, 51, 52, 53, 54, 55, 56, 57, 58, 59, 60, 61, 62, 63, 64, 65, 66] (by decide +kernel) (by decide +kernel)
set_option maxRecDepth 20000 in
theorem gX6_sat_X6_isThing : GoodIn wsX6_sat (wsV RX6 81 RX6 yX6_isThing wsX6_isThing) := goodIn_app (goodIn_of _ (by decide +kernel)) ggX6_sat_X6_isThing
set_option maxRecDepth 20000 in
theorem ggX6_sat_X6_isHour : GoodIn wsX6_sat wsX6_isHour := goodIn_r _ [12, 13, 7, 8, 5, 9] (by decide +kernel) (by decide +kernel)
set_option maxRecDepth 20000 in
theorem gX6_sat_X6_isHour : GoodIn wsX6_sat (va_wsS RX6 105 yX6_isHour wsX6_isHour) := goodIn_app (goodIn_of _ (by decide +kernel)) ggX6_sat_X6_isHour
set_option maxRecDepth 20000 in
theorem ggX6_sat_X6_bad : GoodIn wsX6_sat wsX6_bad := goodIn_r _ [17, 18, 19, 20, 5, 21, 22, 23, 48, 49, 50, 51, 52, 53, 54, 55, 56, 57, 58, 59, 60, 61, 62, 63, 64, 65, 66] (by decide +kernel) (by decide +kernel)
set_option maxRecDepth 20000 in
theorem gX6_sat_X6_bad : GoodIn wsX6_sat (wsV RX6 66 RX6 yX6_bad wsX6_bad) := goodIn_app (goodIn_of _ (by decide +kernel)) ggX6_sat_X6_bad
set_option maxRecDepth 20000 in
theorem ggX6_sat_X6_no : GoodIn wsX6_sat wsX6_no := goodIn_r _ [27, 18, 19, 20, 5, 21, 22, 23, 48, 49, 50, 51, 52, 53, 54, 55, 56, 57, 58, 59, 60, 61, 62, 63, 64, 65, 66] (by decide +kernel) (by decide +kernel)
set_option maxRecDepth 20000 in
theorem gX6_sat_X6_no : GoodIn wsX6_sat (wsV RX6 94 RX6 yX6_no wsX6_no) := goodIn_app (goodIn_of _ (by decide +kernel)) ggX6_sat_X6_no
set_option maxRecDepth 20000 in
theorem ggX6_sat_X6_thingsIn : GoodIn wsX6_sat wsX6_thingsIn := goodIn_r _ [31, 1, 48, 49, 50, 51, 52, 53, 54, 55, 56, 57, 58, 59, 60, 61, 62, 63, 64, 65, 66] (by decide +kernel) (by decide +kernel)
set_option maxRecDepth 20000 in
theorem gX6_sat_X6_thingsIn : GoodIn wsX6_sat (wsV RX6 87 RX6 yX6_thingsIn wsX6_thingsIn) := goodIn_app (goodIn_of _ (by decide +kernel)) ggX6_sat_X6_thingsIn
set_option maxRecDepth 20000 in
theorem ggX6_sat_X6_loses : GoodIn wsX6_sat wsX6_loses := goodIn_r _ [35, 1, 36, 37, 38, 5, 39, 40, 41, 42, 43, 44, 45, 46, 47, 48, 49, 50, 51, 52, 53, 54, 55, 56, 57, 58, 59, 60, 61, 62, 63, 64, 65, 66] (by decide +kernel) (by decide +kernel)
set_option maxRecDepth 20000 in
theorem gX6_sat_X6_loses : GoodIn wsX6_sat (wsV RX6 206 RX6 yX6_loses wsX6_loses) := goodIn_app (goodIn_of _ (by decide +kernel)) ggX6_sat_X6_loses
theorem hd6_sat : yX6_sat.cls = RX6 ∧ yX6_sat.cls ≠ "java/lang/invoke/MethodHandle" ∧ yX6_sat.cls ≠ "java/lang/invoke/VarHandle" ∧ (parseMethodDescriptor yX6_sat.desc).map (fun d => d.parameters.length) = some 2 := by decide +kernel
abbrev rm6_sat : Room := { frames := 3, cells := 0, slots := 0, locals := 73 }
theorem in6_sat_6 : ∀ w ∈ wsX60, w ∈ wsX6_sat := fun w h => List.mem_cons_of_mem _ (List.mem_append_right _ h)
set_option maxHeartbeats 4000000 in
set_option maxRecDepth 100000 in
theorem c6_sat {l : Launch} {D : va_G} {cI cZ cB : ClassId} {q : Nat → Nat} {sz : Nat} {quiet : Int32} {mabove : Int64} {mbelow : Int64} {typed : Int32} {mat : Int32} {mstart : Int32} {mtoken : Int32} {mvalue : Int32} {many : Int32} {book : Nat → Int32} {images : Nat → Int32} {mkept : Nat → Int32} {aside : Nat → Int32} {refused : Nat → Int32} {text : Nat → Int32} {items : Nat → Int32} {drawn : Nat → Int32} {row : Nat → Int32} {best : Nat → Int32} {a_t : Int32} {a_hour : Int32} {r : Int32} {d_refused : Nat → Int32} (hf : f6_sat quiet book refused a_t a_hour = some (r, d_refused)) : Met l yX6_sat wsX6_sat rm6_sat (zPm D cI cZ cB [.ref (q 0), .int a_t, .int a_hour] sz (cMod cI cZ q quiet mabove mbelow typed mat mstart mtoken mvalue many book images mkept aside refused text items drawn row best)) (zQm D (some (.int r)) (cMod cI cZ q quiet mabove mbelow typed mat mstart mtoken mvalue many book images mkept aside d_refused text items drawn row best) (va_A (cMod cI cZ q quiet mabove mbelow typed mat mstart mtoken mvalue many book images mkept aside refused text items drawn row best) sz)) 0 0 (va_A (cMod cI cZ q quiet mabove mbelow typed mat mstart mtoken mvalue many book images mkept aside refused text items drawn row best) sz) := by
  unfold f6_sat at hf
  refine z_mutI RX6 (by decide +kernel) rfl rfl (Nat.le_of_ble_eq_true rfl) ?_
  intro p e s m args below meth c Q A ls hx hb hml hown hts hK hP hD hS hA hret hl
  have hl : lv_has ls 8 [(0, .ref (q 0)), (1, .int a_t), (2, .int a_hour)] := hl
  refine lv_aload_n hx hb (zD_g DX6_sat 0 rfl) rfl (lv_at hl 0 rfl) ?_
  refine lv_iload_n hx hb (zD_g DX6_sat 1 rfl) rfl (lv_at hl 1 rfl) ?_
  obtain ⟨r1, hc2, hf⟩ := zb1_s hf
  refine z_Vp (As := [.int a_t]) (rest := []) ⟨hx, hb, hml, hown, hts⟩ hK (c6_isThing (quiet := quiet) (mabove := mabove) (mbelow := mbelow) (typed := typed) (mat := mat) (mstart := mstart) (mtoken := mtoken) (mvalue := mvalue) (many := many) (book := book) (images := images) (mkept := mkept) (aside := aside) (refused := refused) (text := text) (items := items) (drawn := drawn) (row := row) (best := best) (q := q) hc2) (cwV 1 hts gX6_sat_X6_isThing rfl rfl rfl hd6_isThing ⟨Nat.le_of_ble_eq_true rfl, Nat.le_of_ble_eq_true rfl⟩) hP rfl rfl rfl rfl hl.1 rfl rfl (Nat.le_of_ble_eq_true rfl) (zD_g DX6_sat 2 rfl) ⟨Nat.zero_le _, Nat.zero_le _⟩ ?_
  refine lv_if_eq (tgt := 15) hx hb (zD_g DX6_sat 3 rfl) (by decide) (fun c3 => ?_) (fun c3 => ?_)
  · replace hf := z_t c3 hf
    refine lv_aload_n hx hb (zD_g DX6_sat 7 rfl) rfl (lv_at hl 0 rfl) ?_
    obtain ⟨r4, refused_5, hc6, hf⟩ := zb2_s hf
    refine z_Vm (As := []) (rest := []) (ws' := (cMod cI cZ q quiet mabove mbelow typed mat mstart mtoken mvalue many book images mkept aside refused_5 text items drawn row best)) ⟨hx, hb, hml, hown, hts⟩ hK (c6_bad (quiet := quiet) (mabove := mabove) (mbelow := mbelow) (typed := typed) (mat := mat) (mstart := mstart) (mtoken := mtoken) (mvalue := mvalue) (many := many) (book := book) (images := images) (mkept := mkept) (aside := aside) (refused := refused) (text := text) (items := items) (drawn := drawn) (row := row) (best := best) (q := q) hc6) (cwV 0 hts gX6_sat_X6_bad rfl rfl rfl hd6_bad ⟨Nat.le_of_ble_eq_true rfl, Nat.le_of_ble_eq_true rfl⟩) hP hD hS hA 11 [0, 1, 2, 3, 4, 5, 6, 7, 8, 9, 10] [] [0, 1, 2, 3, 4, 5, 6, 7, 8, 9, 10] (by decide +kernel) rfl rfl rfl rfl rfl rfl rfl hl.1 rfl rfl (Nat.le_of_ble_eq_true rfl) (zD_g DX6_sat 8 rfl) ⟨Nat.zero_le _, Nat.zero_le _⟩ (fun H locs hP hD hS => ?_)
    cases hf
    exact hret _ _ _ _ hP hD hS (zD_g DX6_sat 9 rfl)
  · replace hf := z_f c3 hf
    refine lv_iload_n hx hb (zD_g DX6_sat 4 rfl) rfl (lv_at hl 2 rfl) ?_
    obtain ⟨r7, hc8, hf⟩ := zb1_s hf
    refine z_Sp (As := [.int a_hour]) (rest := []) ⟨hx, hb, hml, hown, hts⟩ hK (c6_isHour  hc8) (va_cwS 1 hts gX6_sat_X6_isHour rfl rfl rfl hd6_isHour ⟨Nat.le_of_ble_eq_true rfl, Nat.le_of_ble_eq_true rfl⟩) (hP.sub [] rfl) rfl hl.1 rfl rfl (Nat.le_of_ble_eq_true rfl) (zD_g DX6_sat 5 rfl) ⟨Nat.zero_le _, Nat.zero_le _⟩ ?_
    refine lv_if_ne (tgt := 20) hx hb (zD_g DX6_sat 6 rfl) (by decide) (fun c9 => ?_) (fun c9 => ?_)
    · replace hf := z_f c9 hf
      refine lv_aload_n hx hb (zD_g DX6_sat 10 rfl) rfl (lv_at hl 0 rfl) ?_
      refine va_get (D := D) (ci := 5) (v := .ref (q 1)) (C := RX6) (T := TX6) (N := 19) hx hb hts in6_sat_6 hown hK.1 hP 0 rfl rfl 0 (by decide) (hts _ (List.mem_of_getElem? (i := 1) rfl)) (fun _ h9 => h9) rfl (zD_g DX6_sat 11 rfl) ?_
      refine lv_bipush (v := (36 : Int32)) hx hb (zD_g DX6_sat 12 rfl) (by decide) ?_
      refine lv_iload_n hx hb (zD_g DX6_sat 13 rfl) rfl (lv_at hl 1 rfl) ?_
      refine lv_iadd hx hb (zD_g DX6_sat 14 rfl) ?_
      obtain ⟨h10, hf⟩ := zg_s hf
      refine z_iald (k := ((36 : Int32) + a_t).toNatClampNeg) hx hb hK.1 hP 1 0 rfl rfl h10 rfl (zD_g DX6_sat 15 rfl) ?_
      refine lv_iconst (v := (-1 : Int32)) hx hb (zD_g DX6_sat 16 rfl) (by decide) ?_
      refine lv_icmp_eq (tgt := 38) hx hb (zD_g DX6_sat 17 rfl) (by decide) (fun c11 => ?_) (fun c11 => ?_)
      · replace hf := z_t c11 hf
        refine lv_iconst (v := (0 : Int32)) hx hb (zD_g DX6_sat 21 rfl) (by decide) ?_
        refine lv_istore_n (lv' := [(3, .int (0 : Int32)), (0, .ref (q 0)), (1, .int a_t), (2, .int a_hour)]) hx hb (zD_g DX6_sat 22 rfl) rfl hl (by decide) rfl (fun ls hl => ?_)
        refine lv_iconst (v := (0 : Int32)) hx hb (zD_g DX6_sat 23 rfl) (by decide) ?_
        refine lv_istore (lv' := [(4, .int (0 : Int32)), (3, .int (0 : Int32)), (0, .ref (q 0)), (1, .int a_t), (2, .int a_hour)]) hx hb (zD_g DX6_sat 24 rfl) hl (by decide) rfl (fun ls hl => ?_)
        have hL14 : ∀ (k14 : Int32 → Option (Int32 × (Nat → Int32))) (hk14 : ∀ (y35 : Int32), k14 y35 = some (r, d_refused) → ∀ (H : Heap) (locs : List Loc), va_P D vwCl (cMod cI cZ q quiet mabove mbelow typed mat mstart mtoken mvalue many book images mkept aside refused text items drawn row best) H → va_D A (cMod cI cZ q quiet mabove mbelow typed mat mstart mtoken mvalue many book images mkept aside refused text items drawn row best) → va_S A s.heap H locs → ∀ (ls : Array Slot), lv_has ls 8 [(3, .int y35)] → W p l e rm6_sat s m args below meth c H locs 0 0 Q (F0 m 156 ls [])) (n14 : Nat) (y12 : Int32) (y13 : Int32), L6_sat_43 k14 book a_t a_hour n14 y12 y13 = some (r, d_refused) → ∀ (H : Heap) (locs : List Loc), va_P D vwCl (cMod cI cZ q quiet mabove mbelow typed mat mstart mtoken mvalue many book images mkept aside refused text items drawn row best) H → va_D A (cMod cI cZ q quiet mabove mbelow typed mat mstart mtoken mvalue many book images mkept aside refused text items drawn row best) → va_S A s.heap H locs → ∀ (ls : Array Slot), lv_has ls 8 [(0, .ref (q 0)), (1, .int a_t), (2, .int a_hour), (3, .int y12), (4, .int y13)] → W p l e rm6_sat s m args below meth c H locs 0 0 Q (F0 m 43 ls []) := by
          intro k14 hk14 n14
          induction n14 with
          | zero =>
            intro y12 y13 hf
            cases hf
          | succ n14 ih14 =>
            intro y12 y13 hf H locs hP hD hS ls hl
            rw [L6_sat_43] at hf
            refine lv_iload hx hb (zD_g DX6_sat 25 rfl) (lv_at hl 4 rfl) ?_
            refine lv_aload_n hx hb (zD_g DX6_sat 26 rfl) rfl (lv_at hl 0 rfl) ?_
            refine va_get (D := D) (ci := 5) (v := .ref (q 1)) (C := RX6) (T := TX6) (N := 19) hx hb hts in6_sat_6 hown hK.1 hP 0 rfl rfl 0 (by decide) (hts _ (List.mem_of_getElem? (i := 1) rfl)) (fun _ h9 => h9) rfl (zD_g DX6_sat 27 rfl) ?_
            refine lv_iconst (v := (1 : Int32)) hx hb (zD_g DX6_sat 28 rfl) (by decide) ?_
            refine z_iald (k := 1) hx hb hK.1 hP 1 0 rfl rfl (by unfold vp_in; decide) rfl (zD_g DX6_sat 29 rfl) ?_
            refine lv_icmp_ge (tgt := 156) hx hb (zD_g DX6_sat 30 rfl) (by decide) (fun c15 => ?_) (fun c15 => ?_)
            · replace hf := z_t c15 hf
              exact hk14 _ hf _ _ hP hD hS ls (lv_sub hl [3] rfl)
            · replace hf := z_f c15 hf
              refine lv_iconst (v := (1 : Int32)) hx hb (zD_g DX6_sat 31 rfl) (by decide) ?_
              refine lv_istore (lv' := [(5, .int (1 : Int32)), (0, .ref (q 0)), (1, .int a_t), (2, .int a_hour), (3, .int y12), (4, .int y13)]) hx hb (zD_g DX6_sat 32 rfl) hl (by decide) rfl (fun ls hl => ?_)
              refine lv_iconst (v := (0 : Int32)) hx hb (zD_g DX6_sat 33 rfl) (by decide) ?_
              refine lv_istore (lv' := [(6, .int (0 : Int32)), (5, .int (1 : Int32)), (0, .ref (q 0)), (1, .int a_t), (2, .int a_hour), (3, .int y12), (4, .int y13)]) hx hb (zD_g DX6_sat 34 rfl) hl (by decide) rfl (fun ls hl => ?_)
              have hL18 : ∀ (k18 : Int32 → Option (Int32 × (Nat → Int32))) (hk18 : ∀ (y31 : Int32), k18 y31 = some (r, d_refused) → ∀ (H : Heap) (locs : List Loc), va_P D vwCl (cMod cI cZ q quiet mabove mbelow typed mat mstart mtoken mvalue many book images mkept aside refused text items drawn row best) H → va_D A (cMod cI cZ q quiet mabove mbelow typed mat mstart mtoken mvalue many book images mkept aside refused text items drawn row best) → va_S A s.heap H locs → ∀ (ls : Array Slot), lv_has ls 8 [(0, .ref (q 0)), (1, .int a_t), (2, .int a_hour), (3, .int y12), (4, .int y13), (5, .int y31)] → W p l e rm6_sat s m args below meth c H locs 0 0 Q (F0 m 134 ls [])) (n18 : Nat) (y16 : Int32) (y17 : Int32), L6_sat_60 k18 book a_t a_hour y13 n18 y16 y17 = some (r, d_refused) → ∀ (H : Heap) (locs : List Loc), va_P D vwCl (cMod cI cZ q quiet mabove mbelow typed mat mstart mtoken mvalue many book images mkept aside refused text items drawn row best) H → va_D A (cMod cI cZ q quiet mabove mbelow typed mat mstart mtoken mvalue many book images mkept aside refused text items drawn row best) → va_S A s.heap H locs → ∀ (ls : Array Slot), lv_has ls 8 [(0, .ref (q 0)), (1, .int a_t), (2, .int a_hour), (3, .int y12), (4, .int y13), (5, .int y16), (6, .int y17)] → W p l e rm6_sat s m args below meth c H locs 0 0 Q (F0 m 60 ls []) := by
                intro k18 hk18 n18
                induction n18 with
                | zero =>
                  intro y16 y17 hf
                  cases hf
                | succ n18 ih18 =>
                  intro y16 y17 hf H locs hP hD hS ls hl
                  rw [L6_sat_60] at hf
                  refine lv_iload hx hb (zD_g DX6_sat 35 rfl) (lv_at hl 6 rfl) ?_
                  refine lv_aload_n hx hb (zD_g DX6_sat 36 rfl) rfl (lv_at hl 0 rfl) ?_
                  refine va_get (D := D) (ci := 5) (v := .ref (q 1)) (C := RX6) (T := TX6) (N := 19) hx hb hts in6_sat_6 hown hK.1 hP 0 rfl rfl 0 (by decide) (hts _ (List.mem_of_getElem? (i := 1) rfl)) (fun _ h9 => h9) rfl (zD_g DX6_sat 37 rfl) ?_
                  refine lv_iconst (v := (1 : Int32)) hx hb (zD_g DX6_sat 38 rfl) (by decide) ?_
                  refine z_iald (k := 1) hx hb hK.1 hP 1 0 rfl rfl (by unfold vp_in; decide) rfl (zD_g DX6_sat 39 rfl) ?_
                  refine lv_icmp_ge (tgt := 134) hx hb (zD_g DX6_sat 40 rfl) (by decide) (fun c19 => ?_) (fun c19 => ?_)
                  · replace hf := z_t c19 hf
                    exact hk18 _ hf _ _ hP hD hS ls (lv_sub hl [0, 1, 2, 3, 4, 5] rfl)
                  · replace hf := z_f c19 hf
                    refine lv_aload_n hx hb (zD_g DX6_sat 41 rfl) rfl (lv_at hl 0 rfl) ?_
                    refine lv_iload hx hb (zD_g DX6_sat 42 rfl) (lv_at hl 6 rfl) ?_
                    obtain ⟨r20, hc21, hf⟩ := zb1_s hf
                    refine z_Vp (As := [.int y17]) (rest := []) ⟨hx, hb, hml, hown, hts⟩ hK (c6_thingsIn (quiet := quiet) (mabove := mabove) (mbelow := mbelow) (typed := typed) (mat := mat) (mstart := mstart) (mtoken := mtoken) (mvalue := mvalue) (many := many) (book := book) (images := images) (mkept := mkept) (aside := aside) (refused := refused) (text := text) (items := items) (drawn := drawn) (row := row) (best := best) (q := q) hc21) (cwV 1 hts gX6_sat_X6_thingsIn rfl rfl rfl hd6_thingsIn ⟨Nat.le_of_ble_eq_true rfl, Nat.le_of_ble_eq_true rfl⟩) hP rfl rfl rfl rfl hl.1 rfl rfl (Nat.le_of_ble_eq_true rfl) (zD_g DX6_sat 43 rfl) ⟨Nat.zero_le _, Nat.zero_le _⟩ ?_
                    refine lv_iload hx hb (zD_g DX6_sat 44 rfl) (lv_at hl 6 rfl) ?_
                    refine lv_iload hx hb (zD_g DX6_sat 45 rfl) (lv_at hl 4 rfl) ?_
                    obtain ⟨v23, hr30, hf⟩ := zb1_s hf
                    have hJ30 : ∀ (H : Heap) (locs : List Loc), va_P D vwCl (cMod cI cZ q quiet mabove mbelow typed mat mstart mtoken mvalue many book images mkept aside refused text items drawn row best) H → va_D A (cMod cI cZ q quiet mabove mbelow typed mat mstart mtoken mvalue many book images mkept aside refused text items drawn row best) → va_S A s.heap H locs → ∀ (ls : Array Slot), lv_has ls 8 [(0, .ref (q 0)), (1, .int a_t), (2, .int a_hour), (3, .int y12), (4, .int y13), (5, .int y16), (6, .int y17)] → W p l e rm6_sat s m args below meth c H locs 0 0 Q (F0 m 91 ls [.int v23, .int r20]) := by
                      intro H locs hP hD hS ls hl
                      refine lv_ior hx hb (zD_g DX6_sat 52 rfl) ?_
                      refine lv_topi (fun x24 ex24 => ?_)
                      replace hf := zl_s hf x24 ex24
                      refine lv_istore (lv' := [(7, .int x24), (0, .ref (q 0)), (1, .int a_t), (2, .int a_hour), (3, .int y12), (4, .int y13), (5, .int y16), (6, .int y17)]) hx hb (zD_g DX6_sat 53 rfl) hl (by decide) rfl (fun ls hl => ?_)
                      refine lv_iload hx hb (zD_g DX6_sat 54 rfl) (lv_at hl 6 rfl) ?_
                      refine lv_if_eq (tgt := 125) hx hb (zD_g DX6_sat 55 rfl) (by decide) (fun c25 => ?_) (fun c25 => ?_)
                      · replace hf := z_t c25 hf
                        refine lv_iconst (v := (0 : Int32)) hx hb (zD_g DX6_sat 70 rfl) (by decide) ?_
                        refine lv_istore (lv' := [(5, .int (0 : Int32)), (7, .int x24), (0, .ref (q 0)), (1, .int a_t), (2, .int a_hour), (3, .int y12), (4, .int y13), (6, .int y17)]) hx hb (zD_g DX6_sat 71 rfl) hl (by decide) rfl (fun ls hl => ?_)
                        refine lv_iinc (v := y17 + 1) (lv' := [(6, .int (y17 + 1)), (5, .int (0 : Int32)), (7, .int x24), (0, .ref (q 0)), (1, .int a_t), (2, .int a_hour), (3, .int y12), (4, .int y13)]) (k := 7) hx hb (zD_g DX6_sat 72 rfl) hl rfl rfl (by decide) rfl (fun ls hl => ?_)
                        refine lv_goto (tgt := 60) hx hb (zD_g DX6_sat 73 rfl) (by decide) ?_
                        exact ih18 _ _ hf _ _ hP hD hS ls (lv_sub hl [3, 4, 5, 6, 7, 1, 0] rfl)
                      · replace hf := z_f c25 hf
                        refine lv_aload_n hx hb (zD_g DX6_sat 56 rfl) rfl (lv_at hl 1 rfl) ?_
                        refine lv_iload hx hb (zD_g DX6_sat 57 rfl) (lv_at hl 7 rfl) ?_
                        refine lv_iload hx hb (zD_g DX6_sat 58 rfl) (lv_at hl 0 rfl) ?_
                        refine lv_iload_n hx hb (zD_g DX6_sat 59 rfl) rfl (lv_at hl 3 rfl) ?_
                        obtain ⟨r26, hc27, hf⟩ := zb1_s hf
                        refine z_Vp (As := [.int y17, .int x24, .int a_hour]) (rest := []) ⟨hx, hb, hml, hown, hts⟩ hK (c6_loses (quiet := quiet) (mabove := mabove) (mbelow := mbelow) (typed := typed) (mat := mat) (mstart := mstart) (mtoken := mtoken) (mvalue := mvalue) (many := many) (book := book) (images := images) (mkept := mkept) (aside := aside) (refused := refused) (text := text) (items := items) (drawn := drawn) (row := row) (best := best) (q := q) hc27) (cwV 3 hts gX6_sat_X6_loses rfl rfl rfl hd6_loses ⟨Nat.le_of_ble_eq_true rfl, Nat.le_of_ble_eq_true rfl⟩) hP rfl rfl rfl rfl hl.1 rfl rfl (Nat.le_of_ble_eq_true rfl) (zD_g DX6_sat 60 rfl) ⟨Nat.zero_le _, Nat.zero_le _⟩ ?_
                        refine lv_aload_n hx hb (zD_g DX6_sat 61 rfl) rfl (lv_at hl 1 rfl) ?_
                        refine va_get (D := D) (ci := 5) (v := .ref (q 1)) (C := RX6) (T := TX6) (N := 19) hx hb hts in6_sat_6 hown hK.1 hP 0 rfl rfl 0 (by decide) (hts _ (List.mem_of_getElem? (i := 1) rfl)) (fun _ h9 => h9) rfl (zD_g DX6_sat 62 rfl) ?_
                        refine lv_bipush (v := (62 : Int32)) hx hb (zD_g DX6_sat 63 rfl) (by decide) ?_
                        refine lv_iload hx hb (zD_g DX6_sat 64 rfl) (lv_at hl 7 rfl) ?_
                        refine lv_iadd hx hb (zD_g DX6_sat 65 rfl) ?_
                        obtain ⟨h28, hf⟩ := zg_s hf
                        refine z_iald (k := ((62 : Int32) + y17).toNatClampNeg) hx hb hK.1 hP 1 0 rfl rfl h28 rfl (zD_g DX6_sat 66 rfl) ?_
                        refine lv_icmp_ne (tgt := 125) hx hb (zD_g DX6_sat 67 rfl) (by decide) (fun c29 => ?_) (fun c29 => ?_)
                        · replace hf := z_f c29 hf
                          refine lv_iconst (v := (0 : Int32)) hx hb (zD_g DX6_sat 70 rfl) (by decide) ?_
                          refine lv_istore (lv' := [(5, .int (0 : Int32)), (7, .int x24), (0, .ref (q 0)), (1, .int a_t), (2, .int a_hour), (3, .int y12), (4, .int y13), (6, .int y17)]) hx hb (zD_g DX6_sat 71 rfl) hl (by decide) rfl (fun ls hl => ?_)
                          refine lv_iinc (v := y17 + 1) (lv' := [(6, .int (y17 + 1)), (5, .int (0 : Int32)), (7, .int x24), (0, .ref (q 0)), (1, .int a_t), (2, .int a_hour), (3, .int y12), (4, .int y13)]) (k := 7) hx hb (zD_g DX6_sat 72 rfl) hl rfl rfl (by decide) rfl (fun ls hl => ?_)
                          refine lv_goto (tgt := 60) hx hb (zD_g DX6_sat 73 rfl) (by decide) ?_
                          exact ih18 _ _ hf _ _ hP hD hS ls (lv_sub hl [3, 4, 5, 6, 7, 1, 0] rfl)
                        · replace hf := z_t c29 hf
                          refine lv_iconst (v := (1 : Int32)) hx hb (zD_g DX6_sat 68 rfl) (by decide) ?_
                          refine lv_goto (tgt := 126) hx hb (zD_g DX6_sat 69 rfl) (by decide) ?_
                          refine lv_istore (lv' := [(5, .int (1 : Int32)), (7, .int x24), (0, .ref (q 0)), (1, .int a_t), (2, .int a_hour), (3, .int y12), (4, .int y13), (6, .int y17)]) hx hb (zD_g DX6_sat 71 rfl) hl (by decide) rfl (fun ls hl => ?_)
                          refine lv_iinc (v := y17 + 1) (lv' := [(6, .int (y17 + 1)), (5, .int (1 : Int32)), (7, .int x24), (0, .ref (q 0)), (1, .int a_t), (2, .int a_hour), (3, .int y12), (4, .int y13)]) (k := 7) hx hb (zD_g DX6_sat 72 rfl) hl rfl rfl (by decide) rfl (fun ls hl => ?_)
                          refine lv_goto (tgt := 60) hx hb (zD_g DX6_sat 73 rfl) (by decide) ?_
                          exact ih18 _ _ hf _ _ hP hD hS ls (lv_sub hl [3, 4, 5, 6, 7, 1, 0] rfl)
                    clear hf
                    have hf := hr30
                    refine lv_icmp_ne (tgt := 90) hx hb (zD_g DX6_sat 46 rfl) (by decide) (fun c22 => ?_) (fun c22 => ?_)
                    · replace hf := z_f c22 hf
                      refine lv_iconst (v := (0 : Int32)) hx hb (zD_g DX6_sat 51 rfl) (by decide) ?_
                      cases hf
                      exact hJ30 _ _ hP hD hS ls (lv_sub hl [0, 1, 2, 3, 4, 5, 6] rfl)
                    · replace hf := z_t c22 hf
                      refine lv_iconst (v := (1 : Int32)) hx hb (zD_g DX6_sat 47 rfl) (by decide) ?_
                      refine lv_iload_n hx hb (zD_g DX6_sat 48 rfl) rfl (lv_at hl 1 rfl) ?_
                      refine lv_ishl hx hb (zD_g DX6_sat 49 rfl) ?_
                      refine lv_goto (tgt := 91) hx hb (zD_g DX6_sat 50 rfl) (by decide) ?_
                      cases hf
                      exact hJ30 _ _ hP hD hS ls (lv_sub hl [0, 1, 2, 3, 4, 5, 6] rfl)
              refine hL18 _ (fun y31 hf H locs hP hD hS ls hl => ?_) _ _ _ hf _ _ hP hD hS ls (lv_sub hl [2, 3, 4, 5, 6, 1, 0] rfl)
              refine lv_iload_n hx hb (zD_g DX6_sat 74 rfl) rfl (lv_at hl 3 rfl) ?_
              refine lv_iload hx hb (zD_g DX6_sat 75 rfl) (lv_at hl 5 rfl) ?_
              refine lv_if_eq (tgt := 147) hx hb (zD_g DX6_sat 76 rfl) (by decide) (fun c32 => ?_) (fun c32 => ?_)
              · replace hf := z_t c32 hf
                refine lv_iconst (v := (0 : Int32)) hx hb (zD_g DX6_sat 81 rfl) (by decide) ?_
                refine lv_ior hx hb (zD_g DX6_sat 82 rfl) ?_
                refine lv_topi (fun x33 ex33 => ?_)
                replace hf := zl_s hf x33 ex33
                refine lv_istore_n (lv' := [(3, .int x33), (0, .ref (q 0)), (1, .int a_t), (2, .int a_hour), (4, .int y13), (5, .int y31)]) hx hb (zD_g DX6_sat 83 rfl) rfl hl (by decide) rfl (fun ls hl => ?_)
                refine lv_iinc (v := y13 + 1) (lv' := [(4, .int (y13 + 1)), (3, .int x33), (0, .ref (q 0)), (1, .int a_t), (2, .int a_hour), (5, .int y31)]) (k := 4) hx hb (zD_g DX6_sat 84 rfl) hl rfl rfl (by decide) rfl (fun ls hl => ?_)
                refine lv_goto (tgt := 43) hx hb (zD_g DX6_sat 85 rfl) (by decide) ?_
                exact ih14 _ _ hf _ _ hP hD hS ls (lv_sub hl [2, 3, 4, 1, 0] rfl)
              · replace hf := z_f c32 hf
                refine lv_iconst (v := (1 : Int32)) hx hb (zD_g DX6_sat 77 rfl) (by decide) ?_
                refine lv_iload hx hb (zD_g DX6_sat 78 rfl) (lv_at hl 4 rfl) ?_
                refine lv_ishl hx hb (zD_g DX6_sat 79 rfl) ?_
                refine lv_goto (tgt := 148) hx hb (zD_g DX6_sat 80 rfl) (by decide) ?_
                refine lv_ior hx hb (zD_g DX6_sat 82 rfl) ?_
                refine lv_topi (fun x34 ex34 => ?_)
                replace hf := zl_s hf x34 ex34
                refine lv_istore_n (lv' := [(3, .int x34), (0, .ref (q 0)), (1, .int a_t), (2, .int a_hour), (4, .int y13), (5, .int y31)]) hx hb (zD_g DX6_sat 83 rfl) rfl hl (by decide) rfl (fun ls hl => ?_)
                refine lv_iinc (v := y13 + 1) (lv' := [(4, .int (y13 + 1)), (3, .int x34), (0, .ref (q 0)), (1, .int a_t), (2, .int a_hour), (5, .int y31)]) (k := 4) hx hb (zD_g DX6_sat 84 rfl) hl rfl rfl (by decide) rfl (fun ls hl => ?_)
                refine lv_goto (tgt := 43) hx hb (zD_g DX6_sat 85 rfl) (by decide) ?_
                exact ih14 _ _ hf _ _ hP hD hS ls (lv_sub hl [2, 3, 4, 1, 0] rfl)
        refine hL14 _ (fun y35 hf H locs hP hD hS ls hl => ?_) _ _ _ hf _ _ hP hD hS ls (lv_sub hl [2, 3, 4, 1, 0] rfl)
        refine lv_iload_n hx hb (zD_g DX6_sat 86 rfl) rfl (lv_at hl 0 rfl) ?_
        cases hf
        exact hret _ _ _ _ hP hD hS (zD_g DX6_sat 87 rfl)
      · replace hf := z_f c11 hf
        refine lv_aload_n hx hb (zD_g DX6_sat 18 rfl) rfl (lv_at hl 0 rfl) ?_
        obtain ⟨r36, refused_37, hc38, hf⟩ := zb2_s hf
        refine z_Vm (As := []) (rest := []) (ws' := (cMod cI cZ q quiet mabove mbelow typed mat mstart mtoken mvalue many book images mkept aside refused_37 text items drawn row best)) ⟨hx, hb, hml, hown, hts⟩ hK (c6_no (quiet := quiet) (mabove := mabove) (mbelow := mbelow) (typed := typed) (mat := mat) (mstart := mstart) (mtoken := mtoken) (mvalue := mvalue) (many := many) (book := book) (images := images) (mkept := mkept) (aside := aside) (refused := refused) (text := text) (items := items) (drawn := drawn) (row := row) (best := best) (q := q) hc38) (cwV 0 hts gX6_sat_X6_no rfl rfl rfl hd6_no ⟨Nat.le_of_ble_eq_true rfl, Nat.le_of_ble_eq_true rfl⟩) hP hD hS hA 11 [0, 1, 2, 3, 4, 5, 6, 7, 8, 9, 10] [] [0, 1, 2, 3, 4, 5, 6, 7, 8, 9, 10] (by decide +kernel) rfl rfl rfl rfl rfl rfl rfl hl.1 rfl rfl (Nat.le_of_ble_eq_true rfl) (zD_g DX6_sat 19 rfl) ⟨Nat.zero_le _, Nat.zero_le _⟩ (fun H locs hP hD hS => ?_)
        cases hf
        exact hret _ _ _ _ hP hD hS (zD_g DX6_sat 20 rfl)
    · replace hf := z_t c9 hf
      refine lv_aload_n hx hb (zD_g DX6_sat 7 rfl) rfl (lv_at hl 0 rfl) ?_
      obtain ⟨r39, refused_40, hc41, hf⟩ := zb2_s hf
      refine z_Vm (As := []) (rest := []) (ws' := (cMod cI cZ q quiet mabove mbelow typed mat mstart mtoken mvalue many book images mkept aside refused_40 text items drawn row best)) ⟨hx, hb, hml, hown, hts⟩ hK (c6_bad (quiet := quiet) (mabove := mabove) (mbelow := mbelow) (typed := typed) (mat := mat) (mstart := mstart) (mtoken := mtoken) (mvalue := mvalue) (many := many) (book := book) (images := images) (mkept := mkept) (aside := aside) (refused := refused) (text := text) (items := items) (drawn := drawn) (row := row) (best := best) (q := q) hc41) (cwV 0 hts gX6_sat_X6_bad rfl rfl rfl hd6_bad ⟨Nat.le_of_ble_eq_true rfl, Nat.le_of_ble_eq_true rfl⟩) hP hD hS hA 11 [0, 1, 2, 3, 4, 5, 6, 7, 8, 9, 10] [] [0, 1, 2, 3, 4, 5, 6, 7, 8, 9, 10] (by decide +kernel) rfl rfl rfl rfl rfl rfl rfl hl.1 rfl rfl (Nat.le_of_ble_eq_true rfl) (zD_g DX6_sat 8 rfl) ⟨Nat.zero_le _, Nat.zero_le _⟩ (fun H locs hP hD hS => ?_)
      cases hf
      exact hret _ _ _ _ hP hD hS (zD_g DX6_sat 9 rfl)
abbrev dlX6_lays : List (Nat × Instr × Nat) := [(0, .iload_n 1, 1), (1, .istore_n 3, 1), (2, .iconst 0, 1), (3, .istore 4, 2), (5, .iload_n 2, 1), (6, .iconst 1, 1), (7, .isub, 1), (8, .istore 5, 2), (10, .iload 5, 2), (12, .ifCond .lt 37, 3), (15, .aload_n 0, 1), (16, .getfield 35, 3), (19, .iload 5, 2), (21, .iload_n 3, 1), (22, .iload_n 2, 1), (23, .irem, 1), (24, .iastore, 1), (25, .iload_n 3, 1), (26, .iload_n 2, 1), (27, .idiv, 1), (28, .istore_n 3, 1), (29, .iload 4, 2), (31, .iconst 1, 1), (32, .aload_n 0, 1), (33, .getfield 35, 3), (36, .iload 5, 2), (38, .iaload, 1), (39, .ishl, 1), (40, .ior, 1), (41, .istore 4, 2), (43, .iinc 5 (-1), 3), (46, .goto (-36), 3), (49, .iload 4, 2), (51, .iconst 1, 1), (52, .iload_n 2, 1), (53, .ishl, 1), (54, .iconst 1, 1), (55, .isub, 1), (56, .if_icmp .ne 7, 3), (59, .iconst 1, 1), (60, .goto 4, 3), (63, .iconst 0, 1), (64, .ireturn, 1)]
theorem DX6_lays : zD cX6_lays dlX6_lays = true := by decide +kernel
theorem hd6_lays : yX6_lays.cls = RX6 ∧ yX6_lays.cls ≠ "java/lang/invoke/MethodHandle" ∧ yX6_lays.cls ≠ "java/lang/invoke/VarHandle" ∧ (parseMethodDescriptor yX6_lays.desc).map (fun d => d.parameters.length) = some 2 := by decide +kernel
abbrev rm6_lays : Room := { frames := 0, cells := 0, slots := 0, locals := 0 }
theorem in6_lays_6 : ∀ w ∈ wsX60, w ∈ wsX6_lays := fun w h => List.mem_cons_of_mem _ (List.mem_append_right _ h)
set_option maxHeartbeats 4000000 in
set_option maxRecDepth 100000 in
theorem c6_lays {l : Launch} {D : va_G} {cI cZ cB : ClassId} {q : Nat → Nat} {sz : Nat} {quiet : Int32} {mabove : Int64} {mbelow : Int64} {typed : Int32} {mat : Int32} {mstart : Int32} {mtoken : Int32} {mvalue : Int32} {many : Int32} {book : Nat → Int32} {images : Nat → Int32} {mkept : Nat → Int32} {aside : Nat → Int32} {refused : Nat → Int32} {text : Nat → Int32} {items : Nat → Int32} {drawn : Nat → Int32} {row : Nat → Int32} {best : Nat → Int32} {a_code : Int32} {a_n : Int32} {r : Int32} {d_row : Nat → Int32} (hf : f6_lays row a_code a_n = some (r, d_row)) : Met l yX6_lays wsX6_lays rm6_lays (zPm D cI cZ cB [.ref (q 0), .int a_code, .int a_n] sz (cMod cI cZ q quiet mabove mbelow typed mat mstart mtoken mvalue many book images mkept aside refused text items drawn row best)) (zQm D (some (.int r)) (cMod cI cZ q quiet mabove mbelow typed mat mstart mtoken mvalue many book images mkept aside refused text items drawn d_row best) (va_A (cMod cI cZ q quiet mabove mbelow typed mat mstart mtoken mvalue many book images mkept aside refused text items drawn row best) sz)) 0 0 (va_A (cMod cI cZ q quiet mabove mbelow typed mat mstart mtoken mvalue many book images mkept aside refused text items drawn row best) sz) := by
  unfold f6_lays at hf
  refine z_mutZ RX6 (by decide +kernel) rfl rfl (Nat.le_of_ble_eq_true rfl) ?_
  intro p e s m args below meth c Q A ls hx hb hml hown hts hK hP hD hS hA hret hl
  have hl : lv_has ls 6 [(0, .ref (q 0)), (1, .int a_code), (2, .int a_n)] := hl
  refine lv_iload_n hx hb (zD_g DX6_lays 0 rfl) rfl (lv_at hl 1 rfl) ?_
  refine lv_istore_n (lv' := [(3, .int a_code), (0, .ref (q 0)), (1, .int a_code), (2, .int a_n)]) hx hb (zD_g DX6_lays 1 rfl) rfl hl (by decide) rfl (fun ls hl => ?_)
  refine lv_iconst (v := (0 : Int32)) hx hb (zD_g DX6_lays 2 rfl) (by decide) ?_
  refine lv_istore (lv' := [(4, .int (0 : Int32)), (3, .int a_code), (0, .ref (q 0)), (1, .int a_code), (2, .int a_n)]) hx hb (zD_g DX6_lays 3 rfl) hl (by decide) rfl (fun ls hl => ?_)
  refine lv_iload_n hx hb (zD_g DX6_lays 4 rfl) rfl (lv_at hl 4 rfl) ?_
  refine lv_iconst (v := (1 : Int32)) hx hb (zD_g DX6_lays 5 rfl) (by decide) ?_
  refine lv_isub hx hb (zD_g DX6_lays 6 rfl) ?_
  refine lv_topi (fun x1 ex1 => ?_)
  replace hf := zl_s hf x1 ex1
  refine lv_istore (lv' := [(5, .int x1), (4, .int (0 : Int32)), (3, .int a_code), (0, .ref (q 0)), (1, .int a_code), (2, .int a_n)]) hx hb (zD_g DX6_lays 7 rfl) hl (by decide) rfl (fun ls hl => ?_)
  have hL6 : ∀ (k6 : Int32 → (Nat → Int32) → Option (Int32 × (Nat → Int32))) (hk6 : ∀ (y15 : Int32) (row_16 : Nat → Int32), k6 y15 row_16 = some (r, d_row) → ∀ (H : Heap) (locs : List Loc), va_P D vwCl (cMod cI cZ q quiet mabove mbelow typed mat mstart mtoken mvalue many book images mkept aside refused text items drawn row_16 best) H → va_D A (cMod cI cZ q quiet mabove mbelow typed mat mstart mtoken mvalue many book images mkept aside refused text items drawn row_16 best) → va_S A s.heap H locs → ∀ (ls : Array Slot), lv_has ls 6 [(2, .int a_n), (4, .int y15)] → W p l e rm6_lays s m args below meth c H locs 0 0 Q (F0 m 49 ls [])) (n6 : Nat) (y2 : Int32) (y3 : Int32) (y4 : Int32) (row_5 : Nat → Int32), L6_lays_10 k6 a_n n6 y2 y3 y4 row_5 = some (r, d_row) → ∀ (H : Heap) (locs : List Loc), va_P D vwCl (cMod cI cZ q quiet mabove mbelow typed mat mstart mtoken mvalue many book images mkept aside refused text items drawn row_5 best) H → va_D A (cMod cI cZ q quiet mabove mbelow typed mat mstart mtoken mvalue many book images mkept aside refused text items drawn row_5 best) → va_S A s.heap H locs → ∀ (ls : Array Slot), lv_has ls 6 [(0, .ref (q 0)), (2, .int a_n), (3, .int y2), (4, .int y3), (5, .int y4)] → W p l e rm6_lays s m args below meth c H locs 0 0 Q (F0 m 10 ls []) := by
    intro k6 hk6 n6
    induction n6 with
    | zero =>
      intro y2 y3 y4 row_5 hf
      cases hf
    | succ n6 ih6 =>
      intro y2 y3 y4 row_5 hf H locs hP hD hS ls hl
      rw [L6_lays_10] at hf
      refine lv_iload hx hb (zD_g DX6_lays 8 rfl) (lv_at hl 4 rfl) ?_
      refine lv_if_lt (tgt := 49) hx hb (zD_g DX6_lays 9 rfl) (by decide) (fun c7 => ?_) (fun c7 => ?_)
      · replace hf := z_t c7 hf
        exact hk6 _ _ hf _ _ hP hD hS ls (lv_sub hl [1, 3] rfl)
      · replace hf := z_f c7 hf
        refine lv_aload_n hx hb (zD_g DX6_lays 10 rfl) rfl (lv_at hl 0 rfl) ?_
        refine va_get (D := D) (ci := 5) (v := .ref (q 9)) (C := RX6) (T := TX6) (N := 19) hx hb hts in6_lays_6 hown hK.1 hP 0 rfl rfl 17 (by decide) (hts _ (List.mem_of_getElem? (i := 1) rfl)) (fun _ h9 => h9) rfl (zD_g DX6_lays 11 rfl) ?_
        refine lv_iload hx hb (zD_g DX6_lays 12 rfl) (lv_at hl 4 rfl) ?_
        refine lv_iload_n hx hb (zD_g DX6_lays 13 rfl) rfl (lv_at hl 2 rfl) ?_
        refine lv_iload_n hx hb (zD_g DX6_lays 14 rfl) rfl (lv_at hl 1 rfl) ?_
        obtain ⟨h8, hf⟩ := zdi_s hf
        refine lv_irem hx hb (zD_g DX6_lays 15 rfl) h8 ?_
        refine lv_topi (fun x9 ex9 => ?_)
        replace hf := zl_s hf x9 ex9
        obtain ⟨h10, hf⟩ := zg_s hf
        refine z_iast (k := y4.toNatClampNeg) (ws' := (cMod cI cZ q quiet mabove mbelow typed mat mstart mtoken mvalue many book images mkept aside refused text items drawn (upd row_5 y4.toNatClampNeg x9) best)) hx hb hK.1 hP hD hS 9 0 rfl rfl h10 rfl rfl (zD_g DX6_lays 16 rfl) (fun H locs hP hD hS => ?_)
        refine lv_iload_n hx hb (zD_g DX6_lays 17 rfl) rfl (lv_at hl 2 rfl) ?_
        refine lv_iload_n hx hb (zD_g DX6_lays 18 rfl) rfl (lv_at hl 1 rfl) ?_
        obtain ⟨h11, hf⟩ := zdi_s hf
        refine lv_idiv hx hb (zD_g DX6_lays 19 rfl) h11 ?_
        refine lv_topi (fun x12 ex12 => ?_)
        replace hf := zl_s hf x12 ex12
        refine lv_istore_n (lv' := [(3, .int x12), (0, .ref (q 0)), (2, .int a_n), (4, .int y3), (5, .int y4)]) hx hb (zD_g DX6_lays 20 rfl) rfl hl (by decide) rfl (fun ls hl => ?_)
        refine lv_iload hx hb (zD_g DX6_lays 21 rfl) (lv_at hl 3 rfl) ?_
        refine lv_iconst (v := (1 : Int32)) hx hb (zD_g DX6_lays 22 rfl) (by decide) ?_
        refine lv_aload_n hx hb (zD_g DX6_lays 23 rfl) rfl (lv_at hl 1 rfl) ?_
        refine va_get (D := D) (ci := 5) (v := .ref (q 9)) (C := RX6) (T := TX6) (N := 19) hx hb hts in6_lays_6 hown hK.1 hP 0 rfl rfl 17 (by decide) (hts _ (List.mem_of_getElem? (i := 1) rfl)) (fun _ h9 => h9) rfl (zD_g DX6_lays 24 rfl) ?_
        refine lv_iload hx hb (zD_g DX6_lays 25 rfl) (lv_at hl 4 rfl) ?_
        obtain ⟨h13, hf⟩ := zg_s hf
        refine z_iald (k := y4.toNatClampNeg) hx hb hK.1 hP 9 0 rfl rfl h13 rfl (zD_g DX6_lays 26 rfl) ?_
        refine lv_ishl hx hb (zD_g DX6_lays 27 rfl) ?_
        refine lv_ior hx hb (zD_g DX6_lays 28 rfl) ?_
        refine lv_topi (fun x14 ex14 => ?_)
        replace hf := zl_s hf x14 ex14
        refine lv_istore (lv' := [(4, .int x14), (3, .int x12), (0, .ref (q 0)), (2, .int a_n), (5, .int y4)]) hx hb (zD_g DX6_lays 29 rfl) hl (by decide) rfl (fun ls hl => ?_)
        refine lv_iinc (v := y4 + (-1)) (lv' := [(5, .int (y4 + (-1))), (4, .int x14), (3, .int x12), (0, .ref (q 0)), (2, .int a_n)]) (k := 4) hx hb (zD_g DX6_lays 30 rfl) hl rfl rfl (by decide) rfl (fun ls hl => ?_)
        refine lv_goto (tgt := 10) hx hb (zD_g DX6_lays 31 rfl) (by decide) ?_
        exact ih6 _ _ _ _ hf _ _ hP hD hS ls (lv_sub hl [3, 4, 2, 1, 0] rfl)
  refine hL6 _ (fun y15 row_16 hf H locs hP hD hS ls hl => ?_) _ _ _ _ _ hf _ _ hP hD hS ls (lv_sub hl [3, 5, 2, 1, 0] rfl)
  refine lv_iload hx hb (zD_g DX6_lays 32 rfl) (lv_at hl 1 rfl) ?_
  refine lv_iconst (v := (1 : Int32)) hx hb (zD_g DX6_lays 33 rfl) (by decide) ?_
  refine lv_iload_n hx hb (zD_g DX6_lays 34 rfl) rfl (lv_at hl 0 rfl) ?_
  refine lv_ishl hx hb (zD_g DX6_lays 35 rfl) ?_
  refine lv_iconst (v := (1 : Int32)) hx hb (zD_g DX6_lays 36 rfl) (by decide) ?_
  refine lv_isub hx hb (zD_g DX6_lays 37 rfl) ?_
  refine lv_icmp_ne (tgt := 63) hx hb (zD_g DX6_lays 38 rfl) (by decide) (fun c17 => ?_) (fun c17 => ?_)
  · replace hf := z_f c17 hf
    refine lv_iconst (v := (0 : Int32)) hx hb (zD_g DX6_lays 41 rfl) (by decide) ?_
    cases hf
    exact hret _ _ _ _ rfl hP hD hS (zD_g DX6_lays 42 rfl)
  · replace hf := z_t c17 hf
    refine lv_iconst (v := (1 : Int32)) hx hb (zD_g DX6_lays 39 rfl) (by decide) ?_
    refine lv_goto (tgt := 64) hx hb (zD_g DX6_lays 40 rfl) (by decide) ?_
    cases hf
    exact hret _ _ _ _ rfl hP hD hS (zD_g DX6_lays 42 rfl)
abbrev dlX6_loadOf : List (Nat × Instr × Nat) := [(0, .iconst 0, 1), (1, .istore_n 3, 1), (2, .iconst 0, 1), (3, .istore 4, 2), (5, .iload 4, 2), (7, .iload_n 1, 1), (8, .if_icmp .ge 87, 3), (11, .iconst 0, 1), (12, .istore 5, 2), (14, .iload 4, 2), (16, .istore 6, 2), (18, .iload 6, 2), (20, .iload_n 1, 1), (21, .if_icmp .ge 55, 3), (24, .iload 6, 2), (26, .iload 4, 2), (28, .iload_n 2, 1), (29, .iadd, 1), (30, .if_icmp .ge 46, 3), (33, .iload 5, 2), (35, .aload_n 0, 1), (36, .aload_n 0, 1), (37, .getfield 32, 3), (40, .aload_n 0, 1), (41, .getfield 35, 3), (44, .iload 6, 2), (46, .iaload, 1), (47, .iaload, 1), (48, .aload_n 0, 1), (49, .aload_n 0, 1), (50, .getfield 32, 3), (53, .aload_n 0, 1), (54, .getfield 35, 3), (57, .iload 6, 2), (59, .iaload, 1), (60, .iaload, 1), (61, .invokevirtual 87, 3), (64, .invokevirtual 191, 3), (67, .iadd, 1), (68, .istore 5, 2), (70, .iinc 6 1, 3), (73, .goto (-55), 3), (76, .iload 5, 2), (78, .iload_n 3, 1), (79, .if_icmp .le 8, 3), (82, .iload 5, 2), (84, .goto 4, 3), (87, .iload_n 3, 1), (88, .istore_n 3, 1), (89, .iinc 4 1, 3), (92, .goto (-87), 3), (95, .iload_n 3, 1), (96, .ireturn, 1)]
theorem DX6_loadOf : zD cX6_loadOf dlX6_loadOf = true := by decide +kernel
set_option maxRecDepth 20000 in
theorem ggX6_loadOf_X6_thingsIn : GoodIn wsX6_loadOf wsX6_thingsIn := goodIn_r _ [7, 8, 17, 18, 19, 20, 21, 22, 23, 24, 25, 26, 27, 28, 29, 30, 31, 32, 33, 34, 35] (by decide +kernel) (by decide +kernel)
set_option maxRecDepth 20000 in
theorem gX6_loadOf_X6_thingsIn : GoodIn wsX6_loadOf (wsV RX6 87 RX6 yX6_thingsIn wsX6_thingsIn) := goodIn_app (goodIn_of _ (by decide +kernel)) ggX6_loadOf_X6_thingsIn
set_option maxRecDepth 20000 in
theorem ggX6_loadOf_X6_weighs : GoodIn wsX6_loadOf wsX6_weighs := goodIn_r _ [12, 8, 13, 14, 15, 6, 16, 17, 18, 19, 20, 21, 22, 23, 24, 25, 26, 27, 28, 29, 30, 31, 32, 33, 34, 35] (by decide +kernel) (by decide +kernel)
set_option maxRecDepth 20000 in
theorem gX6_loadOf_X6_weighs : GoodIn wsX6_loadOf (wsV RX6 191 RX6 yX6_weighs wsX6_weighs) := goodIn_app (goodIn_of _ (by decide +kernel)) ggX6_loadOf_X6_weighs
theorem hd6_loadOf : yX6_loadOf.cls = RX6 ∧ yX6_loadOf.cls ≠ "java/lang/invoke/MethodHandle" ∧ yX6_loadOf.cls ≠ "java/lang/invoke/VarHandle" ∧ (parseMethodDescriptor yX6_loadOf.desc).map (fun d => d.parameters.length) = some 2 := by decide +kernel
abbrev rm6_loadOf : Room := { frames := 2, cells := 0, slots := 0, locals := 49 }
theorem in6_loadOf_6 : ∀ w ∈ wsX60, w ∈ wsX6_loadOf := fun w h => List.mem_cons_of_mem _ (List.mem_append_right _ h)
set_option maxHeartbeats 4000000 in
set_option maxRecDepth 100000 in
theorem c6_loadOf {l : Launch} {D : va_G} {cI cZ cB : ClassId} {q : Nat → Nat} {quiet : Int32} {mabove : Int64} {mbelow : Int64} {typed : Int32} {mat : Int32} {mstart : Int32} {mtoken : Int32} {mvalue : Int32} {many : Int32} {book : Nat → Int32} {images : Nat → Int32} {mkept : Nat → Int32} {aside : Nat → Int32} {refused : Nat → Int32} {text : Nat → Int32} {items : Nat → Int32} {drawn : Nat → Int32} {row : Nat → Int32} {best : Nat → Int32} {a_n : Int32} {a_c : Int32} {r : Int32}  (hf : f6_loadOf book drawn row a_n a_c = some r) : Met l yX6_loadOf wsX6_loadOf rm6_loadOf (zPp D cI cZ cB [.ref (q 0), .int a_n, .int a_c] (cMod cI cZ q quiet mabove mbelow typed mat mstart mtoken mvalue many book images mkept aside refused text items drawn row best)) (zQp (some (.int r))) 0 0 (fun _ => False) := by
  unfold f6_loadOf at hf
  refine z_pureI RX6 (by decide +kernel) rfl rfl (Nat.le_of_ble_eq_true rfl) ?_
  intro p e s m args below meth c Q ls hx hb hml hown hts hK hP hret hl
  have hl : lv_has ls 7 [(0, .ref (q 0)), (1, .int a_n), (2, .int a_c)] := hl
  refine lv_iconst (v := (0 : Int32)) hx hb (zD_g DX6_loadOf 0 rfl) (by decide) ?_
  refine lv_istore_n (lv' := [(3, .int (0 : Int32)), (0, .ref (q 0)), (1, .int a_n), (2, .int a_c)]) hx hb (zD_g DX6_loadOf 1 rfl) rfl hl (by decide) rfl (fun ls hl => ?_)
  refine lv_iconst (v := (0 : Int32)) hx hb (zD_g DX6_loadOf 2 rfl) (by decide) ?_
  refine lv_istore (lv' := [(4, .int (0 : Int32)), (3, .int (0 : Int32)), (0, .ref (q 0)), (1, .int a_n), (2, .int a_c)]) hx hb (zD_g DX6_loadOf 3 rfl) hl (by decide) rfl (fun ls hl => ?_)
  have hL3 : ∀ (k3 : Int32 → Option (Int32)) (hk3 : ∀ (y21 : Int32), k3 y21 = some r → ∀ (ls : Array Slot), lv_has ls 7 [(3, .int y21)] → W p l e rm6_loadOf s m args below meth c s.heap [] 0 0 Q (F0 m 95 ls [])) (n3 : Nat) (y1 : Int32) (y2 : Int32), L6_loadOf_5 k3 book drawn row a_n a_c n3 y1 y2 = some r → ∀ (ls : Array Slot), lv_has ls 7 [(0, .ref (q 0)), (1, .int a_n), (2, .int a_c), (3, .int y1), (4, .int y2)] → W p l e rm6_loadOf s m args below meth c s.heap [] 0 0 Q (F0 m 5 ls []) := by
    intro k3 hk3 n3
    induction n3 with
    | zero =>
      intro y1 y2 hf
      cases hf
    | succ n3 ih3 =>
      intro y1 y2 hf ls hl
      rw [L6_loadOf_5] at hf
      refine lv_iload hx hb (zD_g DX6_loadOf 4 rfl) (lv_at hl 4 rfl) ?_
      refine lv_iload_n hx hb (zD_g DX6_loadOf 5 rfl) rfl (lv_at hl 1 rfl) ?_
      refine lv_icmp_ge (tgt := 95) hx hb (zD_g DX6_loadOf 6 rfl) (by decide) (fun c4 => ?_) (fun c4 => ?_)
      · replace hf := z_t c4 hf
        exact hk3 _ hf ls (lv_sub hl [3] rfl)
      · replace hf := z_f c4 hf
        refine lv_iconst (v := (0 : Int32)) hx hb (zD_g DX6_loadOf 7 rfl) (by decide) ?_
        refine lv_istore (lv' := [(5, .int (0 : Int32)), (0, .ref (q 0)), (1, .int a_n), (2, .int a_c), (3, .int y1), (4, .int y2)]) hx hb (zD_g DX6_loadOf 8 rfl) hl (by decide) rfl (fun ls hl => ?_)
        refine lv_iload hx hb (zD_g DX6_loadOf 9 rfl) (lv_at hl 5 rfl) ?_
        refine lv_istore (lv' := [(6, .int y2), (5, .int (0 : Int32)), (0, .ref (q 0)), (1, .int a_n), (2, .int a_c), (3, .int y1), (4, .int y2)]) hx hb (zD_g DX6_loadOf 10 rfl) hl (by decide) rfl (fun ls hl => ?_)
        have hL7 : ∀ (k7 : Int32 → Option (Int32)) (hk7 : ∀ (y19 : Int32), k7 y19 = some r → ∀ (ls : Array Slot), lv_has ls 7 [(0, .ref (q 0)), (1, .int a_n), (2, .int a_c), (3, .int y1), (4, .int y2), (5, .int y19)] → W p l e rm6_loadOf s m args below meth c s.heap [] 0 0 Q (F0 m 76 ls [])) (n7 : Nat) (y5 : Int32) (y6 : Int32), L6_loadOf_18 k7 book drawn row a_n a_c y2 n7 y5 y6 = some r → ∀ (ls : Array Slot), lv_has ls 7 [(0, .ref (q 0)), (1, .int a_n), (2, .int a_c), (3, .int y1), (4, .int y2), (5, .int y5), (6, .int y6)] → W p l e rm6_loadOf s m args below meth c s.heap [] 0 0 Q (F0 m 18 ls []) := by
          intro k7 hk7 n7
          induction n7 with
          | zero =>
            intro y5 y6 hf
            cases hf
          | succ n7 ih7 =>
            intro y5 y6 hf ls hl
            rw [L6_loadOf_18] at hf
            refine lv_iload hx hb (zD_g DX6_loadOf 11 rfl) (lv_at hl 6 rfl) ?_
            refine lv_iload_n hx hb (zD_g DX6_loadOf 12 rfl) rfl (lv_at hl 1 rfl) ?_
            refine lv_icmp_ge (tgt := 76) hx hb (zD_g DX6_loadOf 13 rfl) (by decide) (fun c8 => ?_) (fun c8 => ?_)
            · replace hf := z_t c8 hf
              exact hk7 _ hf ls (lv_sub hl [0, 1, 2, 3, 4, 5] rfl)
            · replace hf := z_f c8 hf
              refine lv_iload hx hb (zD_g DX6_loadOf 14 rfl) (lv_at hl 6 rfl) ?_
              refine lv_iload hx hb (zD_g DX6_loadOf 15 rfl) (lv_at hl 4 rfl) ?_
              refine lv_iload_n hx hb (zD_g DX6_loadOf 16 rfl) rfl (lv_at hl 2 rfl) ?_
              refine lv_iadd hx hb (zD_g DX6_loadOf 17 rfl) ?_
              refine lv_icmp_ge (tgt := 76) hx hb (zD_g DX6_loadOf 18 rfl) (by decide) (fun c9 => ?_) (fun c9 => ?_)
              · replace hf := z_t c9 hf
                exact hk7 _ hf ls (lv_sub hl [0, 1, 2, 3, 4, 5] rfl)
              · replace hf := z_f c9 hf
                refine lv_iload hx hb (zD_g DX6_loadOf 19 rfl) (lv_at hl 5 rfl) ?_
                refine lv_aload_n hx hb (zD_g DX6_loadOf 20 rfl) rfl (lv_at hl 0 rfl) ?_
                refine lv_aload_n hx hb (zD_g DX6_loadOf 21 rfl) rfl (lv_at hl 0 rfl) ?_
                refine va_get (D := D) (ci := 5) (v := .ref (q 8)) (C := RX6) (T := TX6) (N := 19) hx hb hts in6_loadOf_6 hown hK.1 hP 0 rfl rfl 16 (by decide) (hts _ (List.mem_of_getElem? (i := 1) rfl)) (fun _ h9 => h9) rfl (zD_g DX6_loadOf 22 rfl) ?_
                refine lv_aload_n hx hb (zD_g DX6_loadOf 23 rfl) rfl (lv_at hl 0 rfl) ?_
                refine va_get (D := D) (ci := 5) (v := .ref (q 9)) (C := RX6) (T := TX6) (N := 19) hx hb hts in6_loadOf_6 hown hK.1 hP 0 rfl rfl 17 (by decide) (hts _ (List.mem_of_getElem? (i := 2) rfl)) (fun _ h9 => h9) rfl (zD_g DX6_loadOf 24 rfl) ?_
                refine lv_iload hx hb (zD_g DX6_loadOf 25 rfl) (lv_at hl 6 rfl) ?_
                obtain ⟨h10, hf⟩ := zg_s hf
                refine z_iald (k := y6.toNatClampNeg) hx hb hK.1 hP 9 0 rfl rfl h10 rfl (zD_g DX6_loadOf 26 rfl) ?_
                obtain ⟨h11, hf⟩ := zg_s hf
                refine z_iald (k := (row y6.toNatClampNeg).toNatClampNeg) hx hb hK.1 hP 8 0 rfl rfl h11 rfl (zD_g DX6_loadOf 27 rfl) ?_
                refine lv_aload_n hx hb (zD_g DX6_loadOf 28 rfl) rfl (lv_at hl 0 rfl) ?_
                refine lv_aload_n hx hb (zD_g DX6_loadOf 29 rfl) rfl (lv_at hl 0 rfl) ?_
                refine va_get (D := D) (ci := 5) (v := .ref (q 8)) (C := RX6) (T := TX6) (N := 19) hx hb hts in6_loadOf_6 hown hK.1 hP 0 rfl rfl 16 (by decide) (hts _ (List.mem_of_getElem? (i := 1) rfl)) (fun _ h9 => h9) rfl (zD_g DX6_loadOf 30 rfl) ?_
                refine lv_aload_n hx hb (zD_g DX6_loadOf 31 rfl) rfl (lv_at hl 0 rfl) ?_
                refine va_get (D := D) (ci := 5) (v := .ref (q 9)) (C := RX6) (T := TX6) (N := 19) hx hb hts in6_loadOf_6 hown hK.1 hP 0 rfl rfl 17 (by decide) (hts _ (List.mem_of_getElem? (i := 2) rfl)) (fun _ h9 => h9) rfl (zD_g DX6_loadOf 32 rfl) ?_
                refine lv_iload hx hb (zD_g DX6_loadOf 33 rfl) (lv_at hl 6 rfl) ?_
                obtain ⟨h12, hf⟩ := zg_s hf
                refine z_iald (k := y6.toNatClampNeg) hx hb hK.1 hP 9 0 rfl rfl h12 rfl (zD_g DX6_loadOf 34 rfl) ?_
                obtain ⟨h13, hf⟩ := zg_s hf
                refine z_iald (k := (row y6.toNatClampNeg).toNatClampNeg) hx hb hK.1 hP 8 0 rfl rfl h13 rfl (zD_g DX6_loadOf 35 rfl) ?_
                obtain ⟨r14, hc15, hf⟩ := zb1_s hf
                refine z_Vp (As := [.int (drawn (row y6.toNatClampNeg).toNatClampNeg)]) (rest := [.int (drawn (row y6.toNatClampNeg).toNatClampNeg), .ref (q 0), .int y5]) ⟨hx, hb, hml, hown, hts⟩ hK (c6_thingsIn (quiet := quiet) (mabove := mabove) (mbelow := mbelow) (typed := typed) (mat := mat) (mstart := mstart) (mtoken := mtoken) (mvalue := mvalue) (many := many) (book := book) (images := images) (mkept := mkept) (aside := aside) (refused := refused) (text := text) (items := items) (drawn := drawn) (row := row) (best := best) (q := q) hc15) (cwV 1 hts gX6_loadOf_X6_thingsIn rfl rfl rfl hd6_thingsIn ⟨Nat.le_of_ble_eq_true rfl, Nat.le_of_ble_eq_true rfl⟩) hP rfl rfl rfl rfl hl.1 rfl rfl (Nat.le_of_ble_eq_true rfl) (zD_g DX6_loadOf 36 rfl) ⟨Nat.zero_le _, Nat.zero_le _⟩ ?_
                obtain ⟨r16, hc17, hf⟩ := zb1_s hf
                refine z_Vp (As := [.int (drawn (row y6.toNatClampNeg).toNatClampNeg), .int r14]) (rest := [.int y5]) ⟨hx, hb, hml, hown, hts⟩ hK (c6_weighs (quiet := quiet) (mabove := mabove) (mbelow := mbelow) (typed := typed) (mat := mat) (mstart := mstart) (mtoken := mtoken) (mvalue := mvalue) (many := many) (book := book) (images := images) (mkept := mkept) (aside := aside) (refused := refused) (text := text) (items := items) (drawn := drawn) (row := row) (best := best) (q := q) hc17) (cwV 2 hts gX6_loadOf_X6_weighs rfl rfl rfl hd6_weighs ⟨Nat.le_of_ble_eq_true rfl, Nat.le_of_ble_eq_true rfl⟩) hP rfl rfl rfl rfl hl.1 rfl rfl (Nat.le_of_ble_eq_true rfl) (zD_g DX6_loadOf 37 rfl) ⟨Nat.zero_le _, Nat.zero_le _⟩ ?_
                refine lv_iadd hx hb (zD_g DX6_loadOf 38 rfl) ?_
                refine lv_topi (fun x18 ex18 => ?_)
                replace hf := zl_s hf x18 ex18
                refine lv_istore (lv' := [(5, .int x18), (0, .ref (q 0)), (1, .int a_n), (2, .int a_c), (3, .int y1), (4, .int y2), (6, .int y6)]) hx hb (zD_g DX6_loadOf 39 rfl) hl (by decide) rfl (fun ls hl => ?_)
                refine lv_iinc (v := y6 + 1) (lv' := [(6, .int (y6 + 1)), (5, .int x18), (0, .ref (q 0)), (1, .int a_n), (2, .int a_c), (3, .int y1), (4, .int y2)]) (k := 6) hx hb (zD_g DX6_loadOf 40 rfl) hl rfl rfl (by decide) rfl (fun ls hl => ?_)
                refine lv_goto (tgt := 18) hx hb (zD_g DX6_loadOf 41 rfl) (by decide) ?_
                exact ih7 _ _ hf ls (lv_sub hl [2, 3, 4, 5, 6, 1, 0] rfl)
        refine hL7 _ (fun y19 hf ls hl => ?_) _ _ _ hf ls (lv_sub hl [2, 3, 4, 5, 6, 1, 0] rfl)
        refine lv_iload hx hb (zD_g DX6_loadOf 42 rfl) (lv_at hl 5 rfl) ?_
        refine lv_iload_n hx hb (zD_g DX6_loadOf 43 rfl) rfl (lv_at hl 3 rfl) ?_
        refine lv_icmp_le (tgt := 87) hx hb (zD_g DX6_loadOf 44 rfl) (by decide) (fun c20 => ?_) (fun c20 => ?_)
        · replace hf := z_t c20 hf
          refine lv_iload_n hx hb (zD_g DX6_loadOf 47 rfl) rfl (lv_at hl 3 rfl) ?_
          refine lv_istore_n (lv' := [(3, .int y1), (0, .ref (q 0)), (1, .int a_n), (2, .int a_c), (4, .int y2), (5, .int y19)]) hx hb (zD_g DX6_loadOf 48 rfl) rfl hl (by decide) rfl (fun ls hl => ?_)
          refine lv_iinc (v := y2 + 1) (lv' := [(4, .int (y2 + 1)), (3, .int y1), (0, .ref (q 0)), (1, .int a_n), (2, .int a_c), (5, .int y19)]) (k := 4) hx hb (zD_g DX6_loadOf 49 rfl) hl rfl rfl (by decide) rfl (fun ls hl => ?_)
          refine lv_goto (tgt := 5) hx hb (zD_g DX6_loadOf 50 rfl) (by decide) ?_
          exact ih3 _ _ hf ls (lv_sub hl [2, 3, 4, 1, 0] rfl)
        · replace hf := z_f c20 hf
          refine lv_iload hx hb (zD_g DX6_loadOf 45 rfl) (lv_at hl 5 rfl) ?_
          refine lv_goto (tgt := 88) hx hb (zD_g DX6_loadOf 46 rfl) (by decide) ?_
          refine lv_istore_n (lv' := [(3, .int y19), (0, .ref (q 0)), (1, .int a_n), (2, .int a_c), (4, .int y2), (5, .int y19)]) hx hb (zD_g DX6_loadOf 48 rfl) rfl hl (by decide) rfl (fun ls hl => ?_)
          refine lv_iinc (v := y2 + 1) (lv' := [(4, .int (y2 + 1)), (3, .int y19), (0, .ref (q 0)), (1, .int a_n), (2, .int a_c), (5, .int y19)]) (k := 4) hx hb (zD_g DX6_loadOf 49 rfl) hl rfl rfl (by decide) rfl (fun ls hl => ?_)
          refine lv_goto (tgt := 5) hx hb (zD_g DX6_loadOf 50 rfl) (by decide) ?_
          exact ih3 _ _ hf ls (lv_sub hl [2, 3, 4, 1, 0] rfl)
  refine hL3 _ (fun y21 hf ls hl => ?_) _ _ _ hf ls (lv_sub hl [2, 3, 4, 1, 0] rfl)
  refine lv_iload_n hx hb (zD_g DX6_loadOf 51 rfl) rfl (lv_at hl 0 rfl) ?_
  cases hf
  exact hret _ _ (zD_g DX6_loadOf 52 rfl)
abbrev dlX6_carts : List (Nat × Instr × Nat) := [(0, .iload_n 1, 1), (1, .invokestatic 73, 3), (4, .ifCond .eq 33, 3), (7, .iload_n 2, 1), (8, .i2l, 1), (9, .lconst 0, 1), (10, .ldc2_w 243, 3), (13, .invokestatic 56, 3), (16, .ifCond .eq 21, 3), (19, .iload_n 3, 1), (20, .i2l, 1), (21, .lconst 1, 1), (22, .ldc2_w 245, 3), (25, .invokestatic 56, 3), (28, .ifCond .eq 9, 3), (31, .iload 4, 2), (33, .iconst (-1), 1), (34, .if_icmp .ge 11, 3), (37, .aload_n 0, 1), (38, .iconst 0, 1), (39, .bipush (-10), 2), (41, .invokevirtual 52, 3), (44, .ireturn, 1), (45, .iconst 0, 1), (46, .istore 5, 2), (48, .iconst 0, 1), (49, .istore 6, 2), (51, .iload 6, 2), (53, .aload_n 0, 1), (54, .getfield 7, 3), (57, .iconst 1, 1), (58, .iaload, 1), (59, .if_icmp .ge 35, 3), (62, .aload_n 0, 1), (63, .getfield 7, 3), (66, .bipush 68, 2), (68, .iload 6, 2), (70, .iadd, 1), (71, .iaload, 1), (72, .iload_n 1, 1), (73, .if_icmp .ne 15, 3), (76, .aload_n 0, 1), (77, .getfield 32, 3), (80, .iload 5, 2), (82, .iload 6, 2), (84, .iastore, 1), (85, .iinc 5 1, 3), (88, .iinc 6 1, 3), (91, .goto (-40), 3), (94, .iconst 1, 1), (95, .istore 6, 2), (97, .iconst 0, 1), (98, .istore 7, 2), (100, .iload 7, 2), (102, .iload 5, 2), (104, .if_icmp .ge 16, 3), (107, .iload 6, 2), (109, .iload 5, 2), (111, .imul, 1), (112, .istore 6, 2), (114, .iinc 7 1, 3), (117, .goto (-17), 3), (120, .iconst (-1), 1), (121, .istore 7, 2), (123, .iconst 0, 1), (124, .istore 8, 2), (126, .iload 8, 2), (128, .iload 6, 2), (130, .if_icmp .ge 81, 3), (133, .aload_n 0, 1), (134, .iload 8, 2), (136, .iload 5, 2), (138, .invokevirtual 247, 3), (141, .ifCond .eq 64, 3), (144, .aload_n 0, 1), (145, .iload 5, 2), (147, .iload_n 3, 1), (148, .invokevirtual 250, 3), (151, .istore 9, 2), (153, .iload 7, 2), (155, .iconst (-1), 1), (156, .if_icmp .eq 10, 3), (159, .iload 9, 2), (161, .iload 7, 2), (163, .if_icmp .ge 42, 3), (166, .iload 9, 2), (168, .istore 7, 2), (170, .iconst 0, 1), (171, .istore 10, 2), (173, .iload 10, 2), (175, .iload 5, 2), (177, .if_icmp .ge 28, 3), (180, .aload_n 0, 1), (181, .getfield 38, 3), (184, .iload 10, 2), (186, .aload_n 0, 1), (187, .getfield 32, 3), (190, .aload_n 0, 1), (191, .getfield 35, 3), (194, .iload 10, 2), (196, .iaload, 1), (197, .iaload, 1), (198, .iastore, 1), (199, .iinc 10 1, 3), (202, .goto (-29), 3), (205, .iinc 8 1, 3), (208, .goto (-82), 3), (211, .iload 7, 2), (213, .iload_n 2, 1), (214, .if_icmp .le 7, 3), (217, .iconst (-1), 1), (218, .goto 33, 3), (221, .iload 4, 2), (223, .iconst (-1), 1), (224, .if_icmp .ne 8, 3), (227, .iload 7, 2), (229, .goto 22, 3), (232, .iload 4, 2), (234, .iload 5, 2), (236, .if_icmp .ge 13, 3), (239, .aload_n 0, 1), (240, .getfield 38, 3), (243, .iload 4, 2), (245, .iaload, 1), (246, .goto 5, 3), (249, .bipush (-5), 2), (251, .ireturn, 1)]
theorem DX6_carts : zD cX6_carts dlX6_carts = true := by decide +kernel
set_option maxRecDepth 20000 in
theorem ggX6_carts_X6_isCity : GoodIn wsX6_carts wsX6_isCity := goodIn_r _ [10, 11, 12, 9, 13] (by decide +kernel) (by decide +kernel)
set_option maxRecDepth 20000 in
theorem gX6_carts_X6_isCity : GoodIn wsX6_carts (va_wsS RX6 73 yX6_isCity wsX6_isCity) := goodIn_app (goodIn_of _ (by decide +kernel)) ggX6_carts_X6_isCity
set_option maxRecDepth 20000 in
theorem ggX6_carts_X6_in : GoodIn wsX6_carts wsX6_in := goodIn_r _ [13] (by decide +kernel) (by decide +kernel)
set_option maxRecDepth 20000 in
theorem gX6_carts_X6_in : GoodIn wsX6_carts (va_wsS RX6 56 yX6_in wsX6_in) := goodIn_app (goodIn_of _ (by decide +kernel)) ggX6_carts_X6_in
set_option maxRecDepth 20000 in
theorem ggX6_carts_X6_refuses : GoodIn wsX6_carts wsX6_refuses := goodIn_r _ [17, 18, 19, 40, 41, 42, 43, 44, 45, 46, 47, 48, 49, 50, 51, 52, 53, 54, 55, 56, 57, 58] (by decide +kernel) (by decide +kernel)
set_option maxRecDepth 20000 in
theorem gX6_carts_X6_refuses : GoodIn wsX6_carts (wsV RX6 52 RX6 yX6_refuses wsX6_refuses) := goodIn_app (goodIn_of _ (by decide +kernel)) ggX6_carts_X6_refuses
set_option maxRecDepth 20000 in
theorem ggX6_carts_X6_lays : GoodIn wsX6_carts wsX6_lays := goodIn_r _ [23, 6, 40, 41, 42, 43, 44, 45, 46, 47, 48, 49, 50, 51, 52, 53, 54, 55, 56, 57, 58] (by decide +kernel) (by decide +kernel)
set_option maxRecDepth 20000 in
theorem gX6_carts_X6_lays : GoodIn wsX6_carts (wsV RX6 247 RX6 yX6_lays wsX6_lays) := goodIn_app (goodIn_of _ (by decide +kernel)) ggX6_carts_X6_lays
set_option maxRecDepth 20000 in
theorem ggX6_carts_X6_loadOf : GoodIn wsX6_carts wsX6_loadOf := goodIn_r _ [27, 4, 6, 28, 29, 30, 9, 31, 3, 32, 33, 34, 35, 36, 37, 38, 39, 40, 41, 42, 43, 44, 45, 46, 47, 48, 49, 50, 51, 52, 53, 54, 55, 56, 57, 58] (by decide +kernel) (by decide +kernel)
set_option maxRecDepth 20000 in
theorem gX6_carts_X6_loadOf : GoodIn wsX6_carts (wsV RX6 250 RX6 yX6_loadOf wsX6_loadOf) := goodIn_app (goodIn_of _ (by decide +kernel)) ggX6_carts_X6_loadOf
theorem hd6_carts : yX6_carts.cls = RX6 ∧ yX6_carts.cls ≠ "java/lang/invoke/MethodHandle" ∧ yX6_carts.cls ≠ "java/lang/invoke/VarHandle" ∧ (parseMethodDescriptor yX6_carts.desc).map (fun d => d.parameters.length) = some 4 := by decide +kernel
abbrev rm6_carts : Room := { frames := 3, cells := 0, slots := 0, locals := 75 }
theorem in6_carts_6 : ∀ w ∈ wsX60, w ∈ wsX6_carts := fun w h => List.mem_cons_of_mem _ (List.mem_append_right _ h)
set_option maxHeartbeats 4000000 in
set_option maxRecDepth 100000 in
theorem c6_carts {l : Launch} {D : va_G} {cI cZ cB : ClassId} {q : Nat → Nat} {sz : Nat} {quiet : Int32} {mabove : Int64} {mbelow : Int64} {typed : Int32} {mat : Int32} {mstart : Int32} {mtoken : Int32} {mvalue : Int32} {many : Int32} {book : Nat → Int32} {images : Nat → Int32} {mkept : Nat → Int32} {aside : Nat → Int32} {refused : Nat → Int32} {text : Nat → Int32} {items : Nat → Int32} {drawn : Nat → Int32} {row : Nat → Int32} {best : Nat → Int32} {a_c : Int32} {a_b : Int32} {a_near : Int32} {a_place : Int32} {r : Int32} {d_refused : Nat → Int32} {d_drawn : Nat → Int32} {d_row : Nat → Int32} {d_best : Nat → Int32} (hf : f6_carts quiet book refused drawn row best a_c a_b a_near a_place = some (r, d_refused, d_drawn, d_row, d_best)) : Met l yX6_carts wsX6_carts rm6_carts (zPm D cI cZ cB [.ref (q 0), .int a_c, .int a_b, .int a_near, .int a_place] sz (cMod cI cZ q quiet mabove mbelow typed mat mstart mtoken mvalue many book images mkept aside refused text items drawn row best)) (zQm D (some (.int r)) (cMod cI cZ q quiet mabove mbelow typed mat mstart mtoken mvalue many book images mkept aside d_refused text items d_drawn d_row d_best) (va_A (cMod cI cZ q quiet mabove mbelow typed mat mstart mtoken mvalue many book images mkept aside refused text items drawn row best) sz)) 0 0 (va_A (cMod cI cZ q quiet mabove mbelow typed mat mstart mtoken mvalue many book images mkept aside refused text items drawn row best) sz) := by
  unfold f6_carts at hf
  refine z_mutI RX6 (by decide +kernel) rfl rfl (Nat.le_of_ble_eq_true rfl) ?_
  intro p e s m args below meth c Q A ls hx hb hml hown hts hK hP hD hS hA hret hl
  have hl : lv_has ls 11 [(0, .ref (q 0)), (1, .int a_c), (2, .int a_b), (3, .int a_near), (4, .int a_place)] := hl
  refine lv_iload_n hx hb (zD_g DX6_carts 0 rfl) rfl (lv_at hl 1 rfl) ?_
  obtain ⟨r1, hc2, hf⟩ := zb1_s hf
  refine z_Sp (As := [.int a_c]) (rest := []) ⟨hx, hb, hml, hown, hts⟩ hK (c6_isCity  hc2) (va_cwS 1 hts gX6_carts_X6_isCity rfl rfl rfl hd6_isCity ⟨Nat.le_of_ble_eq_true rfl, Nat.le_of_ble_eq_true rfl⟩) (hP.sub [] rfl) rfl hl.1 rfl rfl (Nat.le_of_ble_eq_true rfl) (zD_g DX6_carts 1 rfl) ⟨Nat.zero_le _, Nat.zero_le _⟩ ?_
  refine lv_if_eq (tgt := 37) hx hb (zD_g DX6_carts 2 rfl) (by decide) (fun c3 => ?_) (fun c3 => ?_)
  · replace hf := z_t c3 hf
    refine lv_aload_n hx hb (zD_g DX6_carts 18 rfl) rfl (lv_at hl 0 rfl) ?_
    refine lv_iconst (v := (0 : Int32)) hx hb (zD_g DX6_carts 19 rfl) (by decide) ?_
    refine lv_bipush (v := (-10 : Int32)) hx hb (zD_g DX6_carts 20 rfl) (by decide) ?_
    obtain ⟨r4, refused_5, hc6, hf⟩ := zb2_s hf
    refine z_Vm (As := [.int (0 : Int32), .int (-10 : Int32)]) (rest := []) (ws' := (cMod cI cZ q quiet mabove mbelow typed mat mstart mtoken mvalue many book images mkept aside refused_5 text items drawn row best)) ⟨hx, hb, hml, hown, hts⟩ hK (c6_refuses (quiet := quiet) (mabove := mabove) (mbelow := mbelow) (typed := typed) (mat := mat) (mstart := mstart) (mtoken := mtoken) (mvalue := mvalue) (many := many) (book := book) (images := images) (mkept := mkept) (aside := aside) (refused := refused) (text := text) (items := items) (drawn := drawn) (row := row) (best := best) (q := q) hc6) (cwV 2 hts gX6_carts_X6_refuses rfl rfl rfl hd6_refuses ⟨Nat.le_of_ble_eq_true rfl, Nat.le_of_ble_eq_true rfl⟩) hP hD hS hA 11 [0, 1, 2, 3, 4, 5, 6, 7, 8, 9, 10] [] [0, 1, 2, 3, 4, 5, 6, 7, 8, 9, 10] (by decide +kernel) rfl rfl rfl rfl rfl rfl rfl hl.1 rfl rfl (Nat.le_of_ble_eq_true rfl) (zD_g DX6_carts 21 rfl) ⟨Nat.zero_le _, Nat.zero_le _⟩ (fun H locs hP hD hS => ?_)
    cases hf
    exact hret _ _ _ _ hP hD hS (zD_g DX6_carts 22 rfl)
  · replace hf := z_f c3 hf
    refine lv_iload_n hx hb (zD_g DX6_carts 3 rfl) rfl (lv_at hl 2 rfl) ?_
    refine lv_i2l (v := (a_b).toInt64) hx hb (zD_g DX6_carts 4 rfl) rfl ?_
    refine lv_lconst (v := (0 : Int64)) hx hb (zD_g DX6_carts 5 rfl) (by decide) ?_
    refine lv_ldc2 (v := (400 : Int64)) hx hb hown (hts _ (List.mem_of_getElem? (i := 1) rfl)) (zD_g DX6_carts 6 rfl) ?_
    obtain ⟨r7, hc8, hf⟩ := zb1_s hf
    refine z_Sp (As := [.long ((a_b).toInt64), .long (0 : Int64), .long (400 : Int64)]) (rest := []) ⟨hx, hb, hml, hown, hts⟩ hK (c6_in  hc8) (va_cwS 3 hts gX6_carts_X6_in rfl rfl rfl hd6_in ⟨Nat.le_of_ble_eq_true rfl, Nat.le_of_ble_eq_true rfl⟩) (hP.sub [] rfl) rfl hl.1 rfl rfl (Nat.le_of_ble_eq_true rfl) (zD_g DX6_carts 7 rfl) ⟨Nat.zero_le _, Nat.zero_le _⟩ ?_
    refine lv_if_eq (tgt := 37) hx hb (zD_g DX6_carts 8 rfl) (by decide) (fun c9 => ?_) (fun c9 => ?_)
    · replace hf := z_t c9 hf
      refine lv_aload_n hx hb (zD_g DX6_carts 18 rfl) rfl (lv_at hl 0 rfl) ?_
      refine lv_iconst (v := (0 : Int32)) hx hb (zD_g DX6_carts 19 rfl) (by decide) ?_
      refine lv_bipush (v := (-10 : Int32)) hx hb (zD_g DX6_carts 20 rfl) (by decide) ?_
      obtain ⟨r10, refused_11, hc12, hf⟩ := zb2_s hf
      refine z_Vm (As := [.int (0 : Int32), .int (-10 : Int32)]) (rest := []) (ws' := (cMod cI cZ q quiet mabove mbelow typed mat mstart mtoken mvalue many book images mkept aside refused_11 text items drawn row best)) ⟨hx, hb, hml, hown, hts⟩ hK (c6_refuses (quiet := quiet) (mabove := mabove) (mbelow := mbelow) (typed := typed) (mat := mat) (mstart := mstart) (mtoken := mtoken) (mvalue := mvalue) (many := many) (book := book) (images := images) (mkept := mkept) (aside := aside) (refused := refused) (text := text) (items := items) (drawn := drawn) (row := row) (best := best) (q := q) hc12) (cwV 2 hts gX6_carts_X6_refuses rfl rfl rfl hd6_refuses ⟨Nat.le_of_ble_eq_true rfl, Nat.le_of_ble_eq_true rfl⟩) hP hD hS hA 11 [0, 1, 2, 3, 4, 5, 6, 7, 8, 9, 10] [] [0, 1, 2, 3, 4, 5, 6, 7, 8, 9, 10] (by decide +kernel) rfl rfl rfl rfl rfl rfl rfl hl.1 rfl rfl (Nat.le_of_ble_eq_true rfl) (zD_g DX6_carts 21 rfl) ⟨Nat.zero_le _, Nat.zero_le _⟩ (fun H locs hP hD hS => ?_)
      cases hf
      exact hret _ _ _ _ hP hD hS (zD_g DX6_carts 22 rfl)
    · replace hf := z_f c9 hf
      refine lv_iload_n hx hb (zD_g DX6_carts 9 rfl) rfl (lv_at hl 3 rfl) ?_
      refine lv_i2l (v := (a_near).toInt64) hx hb (zD_g DX6_carts 10 rfl) rfl ?_
      refine lv_lconst (v := (1 : Int64)) hx hb (zD_g DX6_carts 11 rfl) (by decide) ?_
      refine lv_ldc2 (v := (3 : Int64)) hx hb hown (hts _ (List.mem_of_getElem? (i := 2) rfl)) (zD_g DX6_carts 12 rfl) ?_
      obtain ⟨r13, hc14, hf⟩ := zb1_s hf
      refine z_Sp (As := [.long ((a_near).toInt64), .long (1 : Int64), .long (3 : Int64)]) (rest := []) ⟨hx, hb, hml, hown, hts⟩ hK (c6_in  hc14) (va_cwS 3 hts gX6_carts_X6_in rfl rfl rfl hd6_in ⟨Nat.le_of_ble_eq_true rfl, Nat.le_of_ble_eq_true rfl⟩) (hP.sub [] rfl) rfl hl.1 rfl rfl (Nat.le_of_ble_eq_true rfl) (zD_g DX6_carts 13 rfl) ⟨Nat.zero_le _, Nat.zero_le _⟩ ?_
      refine lv_if_eq (tgt := 37) hx hb (zD_g DX6_carts 14 rfl) (by decide) (fun c15 => ?_) (fun c15 => ?_)
      · replace hf := z_t c15 hf
        refine lv_aload_n hx hb (zD_g DX6_carts 18 rfl) rfl (lv_at hl 0 rfl) ?_
        refine lv_iconst (v := (0 : Int32)) hx hb (zD_g DX6_carts 19 rfl) (by decide) ?_
        refine lv_bipush (v := (-10 : Int32)) hx hb (zD_g DX6_carts 20 rfl) (by decide) ?_
        obtain ⟨r16, refused_17, hc18, hf⟩ := zb2_s hf
        refine z_Vm (As := [.int (0 : Int32), .int (-10 : Int32)]) (rest := []) (ws' := (cMod cI cZ q quiet mabove mbelow typed mat mstart mtoken mvalue many book images mkept aside refused_17 text items drawn row best)) ⟨hx, hb, hml, hown, hts⟩ hK (c6_refuses (quiet := quiet) (mabove := mabove) (mbelow := mbelow) (typed := typed) (mat := mat) (mstart := mstart) (mtoken := mtoken) (mvalue := mvalue) (many := many) (book := book) (images := images) (mkept := mkept) (aside := aside) (refused := refused) (text := text) (items := items) (drawn := drawn) (row := row) (best := best) (q := q) hc18) (cwV 2 hts gX6_carts_X6_refuses rfl rfl rfl hd6_refuses ⟨Nat.le_of_ble_eq_true rfl, Nat.le_of_ble_eq_true rfl⟩) hP hD hS hA 11 [0, 1, 2, 3, 4, 5, 6, 7, 8, 9, 10] [] [0, 1, 2, 3, 4, 5, 6, 7, 8, 9, 10] (by decide +kernel) rfl rfl rfl rfl rfl rfl rfl hl.1 rfl rfl (Nat.le_of_ble_eq_true rfl) (zD_g DX6_carts 21 rfl) ⟨Nat.zero_le _, Nat.zero_le _⟩ (fun H locs hP hD hS => ?_)
        cases hf
        exact hret _ _ _ _ hP hD hS (zD_g DX6_carts 22 rfl)
      · replace hf := z_f c15 hf
        refine lv_iload hx hb (zD_g DX6_carts 15 rfl) (lv_at hl 4 rfl) ?_
        refine lv_iconst (v := (-1 : Int32)) hx hb (zD_g DX6_carts 16 rfl) (by decide) ?_
        refine lv_icmp_ge (tgt := 45) hx hb (zD_g DX6_carts 17 rfl) (by decide) (fun c19 => ?_) (fun c19 => ?_)
        · replace hf := z_t c19 hf
          refine lv_iconst (v := (0 : Int32)) hx hb (zD_g DX6_carts 23 rfl) (by decide) ?_
          refine lv_istore (lv' := [(5, .int (0 : Int32)), (0, .ref (q 0)), (1, .int a_c), (2, .int a_b), (3, .int a_near), (4, .int a_place)]) hx hb (zD_g DX6_carts 24 rfl) hl (by decide) rfl (fun ls hl => ?_)
          refine lv_iconst (v := (0 : Int32)) hx hb (zD_g DX6_carts 25 rfl) (by decide) ?_
          refine lv_istore (lv' := [(6, .int (0 : Int32)), (5, .int (0 : Int32)), (0, .ref (q 0)), (1, .int a_c), (2, .int a_b), (3, .int a_near), (4, .int a_place)]) hx hb (zD_g DX6_carts 26 rfl) hl (by decide) rfl (fun ls hl => ?_)
          have hL23 : ∀ (k23 : Int32 → (Nat → Int32) → Option (Int32 × (Nat → Int32) × (Nat → Int32) × (Nat → Int32) × (Nat → Int32))) (hk23 : ∀ (y28 : Int32) (drawn_29 : Nat → Int32), k23 y28 drawn_29 = some (r, d_refused, d_drawn, d_row, d_best) → ∀ (H : Heap) (locs : List Loc), va_P D vwCl (cMod cI cZ q quiet mabove mbelow typed mat mstart mtoken mvalue many book images mkept aside refused text items drawn_29 row best) H → va_D A (cMod cI cZ q quiet mabove mbelow typed mat mstart mtoken mvalue many book images mkept aside refused text items drawn_29 row best) → va_S A s.heap H locs → ∀ (ls : Array Slot), lv_has ls 11 [(0, .ref (q 0)), (2, .int a_b), (3, .int a_near), (4, .int a_place), (5, .int y28)] → W p l e rm6_carts s m args below meth c H locs 0 0 Q (F0 m 94 ls [])) (n23 : Nat) (y20 : Int32) (y21 : Int32) (drawn_22 : Nat → Int32), L6_carts_51 k23 book a_c n23 y20 y21 drawn_22 = some (r, d_refused, d_drawn, d_row, d_best) → ∀ (H : Heap) (locs : List Loc), va_P D vwCl (cMod cI cZ q quiet mabove mbelow typed mat mstart mtoken mvalue many book images mkept aside refused text items drawn_22 row best) H → va_D A (cMod cI cZ q quiet mabove mbelow typed mat mstart mtoken mvalue many book images mkept aside refused text items drawn_22 row best) → va_S A s.heap H locs → ∀ (ls : Array Slot), lv_has ls 11 [(0, .ref (q 0)), (1, .int a_c), (2, .int a_b), (3, .int a_near), (4, .int a_place), (5, .int y20), (6, .int y21)] → W p l e rm6_carts s m args below meth c H locs 0 0 Q (F0 m 51 ls []) := by
            intro k23 hk23 n23
            induction n23 with
            | zero =>
              intro y20 y21 drawn_22 hf
              cases hf
            | succ n23 ih23 =>
              intro y20 y21 drawn_22 hf H locs hP hD hS ls hl
              rw [L6_carts_51] at hf
              refine lv_iload hx hb (zD_g DX6_carts 27 rfl) (lv_at hl 6 rfl) ?_
              refine lv_aload_n hx hb (zD_g DX6_carts 28 rfl) rfl (lv_at hl 0 rfl) ?_
              refine va_get (D := D) (ci := 5) (v := .ref (q 1)) (C := RX6) (T := TX6) (N := 19) hx hb hts in6_carts_6 hown hK.1 hP 0 rfl rfl 0 (by decide) (hts _ (List.mem_of_getElem? (i := 3) rfl)) (fun _ h9 => h9) rfl (zD_g DX6_carts 29 rfl) ?_
              refine lv_iconst (v := (1 : Int32)) hx hb (zD_g DX6_carts 30 rfl) (by decide) ?_
              refine z_iald (k := 1) hx hb hK.1 hP 1 0 rfl rfl (by unfold vp_in; decide) rfl (zD_g DX6_carts 31 rfl) ?_
              refine lv_icmp_ge (tgt := 94) hx hb (zD_g DX6_carts 32 rfl) (by decide) (fun c24 => ?_) (fun c24 => ?_)
              · replace hf := z_t c24 hf
                exact hk23 _ _ hf _ _ hP hD hS ls (lv_sub hl [0, 2, 3, 4, 5] rfl)
              · replace hf := z_f c24 hf
                refine lv_aload_n hx hb (zD_g DX6_carts 33 rfl) rfl (lv_at hl 0 rfl) ?_
                refine va_get (D := D) (ci := 5) (v := .ref (q 1)) (C := RX6) (T := TX6) (N := 19) hx hb hts in6_carts_6 hown hK.1 hP 0 rfl rfl 0 (by decide) (hts _ (List.mem_of_getElem? (i := 3) rfl)) (fun _ h9 => h9) rfl (zD_g DX6_carts 34 rfl) ?_
                refine lv_bipush (v := (68 : Int32)) hx hb (zD_g DX6_carts 35 rfl) (by decide) ?_
                refine lv_iload hx hb (zD_g DX6_carts 36 rfl) (lv_at hl 6 rfl) ?_
                refine lv_iadd hx hb (zD_g DX6_carts 37 rfl) ?_
                obtain ⟨h25, hf⟩ := zg_s hf
                refine z_iald (k := ((68 : Int32) + y21).toNatClampNeg) hx hb hK.1 hP 1 0 rfl rfl h25 rfl (zD_g DX6_carts 38 rfl) ?_
                refine lv_iload_n hx hb (zD_g DX6_carts 39 rfl) rfl (lv_at hl 1 rfl) ?_
                refine lv_icmp_ne (tgt := 88) hx hb (zD_g DX6_carts 40 rfl) (by decide) (fun c26 => ?_) (fun c26 => ?_)
                · replace hf := z_f c26 hf
                  refine lv_iinc (v := y21 + 1) (lv' := [(6, .int (y21 + 1)), (0, .ref (q 0)), (1, .int a_c), (2, .int a_b), (3, .int a_near), (4, .int a_place), (5, .int y20)]) (k := 6) hx hb (zD_g DX6_carts 47 rfl) hl rfl rfl (by decide) rfl (fun ls hl => ?_)
                  refine lv_goto (tgt := 51) hx hb (zD_g DX6_carts 48 rfl) (by decide) ?_
                  exact ih23 _ _ _ hf _ _ hP hD hS ls (lv_sub hl [1, 2, 3, 4, 5, 6, 0] rfl)
                · replace hf := z_t c26 hf
                  refine lv_aload_n hx hb (zD_g DX6_carts 41 rfl) rfl (lv_at hl 0 rfl) ?_
                  refine va_get (D := D) (ci := 5) (v := .ref (q 8)) (C := RX6) (T := TX6) (N := 19) hx hb hts in6_carts_6 hown hK.1 hP 0 rfl rfl 16 (by decide) (hts _ (List.mem_of_getElem? (i := 4) rfl)) (fun _ h9 => h9) rfl (zD_g DX6_carts 42 rfl) ?_
                  refine lv_iload hx hb (zD_g DX6_carts 43 rfl) (lv_at hl 5 rfl) ?_
                  refine lv_iload hx hb (zD_g DX6_carts 44 rfl) (lv_at hl 6 rfl) ?_
                  obtain ⟨h27, hf⟩ := zg_s hf
                  refine z_iast (k := y20.toNatClampNeg) (ws' := (cMod cI cZ q quiet mabove mbelow typed mat mstart mtoken mvalue many book images mkept aside refused text items (upd drawn_22 y20.toNatClampNeg y21) row best)) hx hb hK.1 hP hD hS 8 0 rfl rfl h27 rfl rfl (zD_g DX6_carts 45 rfl) (fun H locs hP hD hS => ?_)
                  refine lv_iinc (v := y20 + 1) (lv' := [(5, .int (y20 + 1)), (0, .ref (q 0)), (1, .int a_c), (2, .int a_b), (3, .int a_near), (4, .int a_place), (6, .int y21)]) (k := 5) hx hb (zD_g DX6_carts 46 rfl) hl rfl rfl (by decide) rfl (fun ls hl => ?_)
                  refine lv_iinc (v := y21 + 1) (lv' := [(6, .int (y21 + 1)), (5, .int (y20 + 1)), (0, .ref (q 0)), (1, .int a_c), (2, .int a_b), (3, .int a_near), (4, .int a_place)]) (k := 6) hx hb (zD_g DX6_carts 47 rfl) hl rfl rfl (by decide) rfl (fun ls hl => ?_)
                  refine lv_goto (tgt := 51) hx hb (zD_g DX6_carts 48 rfl) (by decide) ?_
                  exact ih23 _ _ _ hf _ _ hP hD hS ls (lv_sub hl [2, 3, 4, 5, 6, 1, 0] rfl)
          refine hL23 _ (fun y28 drawn_29 hf H locs hP hD hS ls hl => ?_) _ _ _ _ hf _ _ hP hD hS ls (lv_sub hl [2, 3, 4, 5, 6, 1, 0] rfl)
          refine lv_iconst (v := (1 : Int32)) hx hb (zD_g DX6_carts 49 rfl) (by decide) ?_
          refine lv_istore (lv' := [(6, .int (1 : Int32)), (0, .ref (q 0)), (2, .int a_b), (3, .int a_near), (4, .int a_place), (5, .int y28)]) hx hb (zD_g DX6_carts 50 rfl) hl (by decide) rfl (fun ls hl => ?_)
          refine lv_iconst (v := (0 : Int32)) hx hb (zD_g DX6_carts 51 rfl) (by decide) ?_
          refine lv_istore (lv' := [(7, .int (0 : Int32)), (6, .int (1 : Int32)), (0, .ref (q 0)), (2, .int a_b), (3, .int a_near), (4, .int a_place), (5, .int y28)]) hx hb (zD_g DX6_carts 52 rfl) hl (by decide) rfl (fun ls hl => ?_)
          have hL32 : ∀ (k32 : Int32 → Option (Int32 × (Nat → Int32) × (Nat → Int32) × (Nat → Int32) × (Nat → Int32))) (hk32 : ∀ (y35 : Int32), k32 y35 = some (r, d_refused, d_drawn, d_row, d_best) → ∀ (H : Heap) (locs : List Loc), va_P D vwCl (cMod cI cZ q quiet mabove mbelow typed mat mstart mtoken mvalue many book images mkept aside refused text items drawn_29 row best) H → va_D A (cMod cI cZ q quiet mabove mbelow typed mat mstart mtoken mvalue many book images mkept aside refused text items drawn_29 row best) → va_S A s.heap H locs → ∀ (ls : Array Slot), lv_has ls 11 [(0, .ref (q 0)), (2, .int a_b), (3, .int a_near), (4, .int a_place), (5, .int y28), (6, .int y35)] → W p l e rm6_carts s m args below meth c H locs 0 0 Q (F0 m 120 ls [])) (n32 : Nat) (y30 : Int32) (y31 : Int32), L6_carts_100 k32 y28 n32 y30 y31 = some (r, d_refused, d_drawn, d_row, d_best) → ∀ (H : Heap) (locs : List Loc), va_P D vwCl (cMod cI cZ q quiet mabove mbelow typed mat mstart mtoken mvalue many book images mkept aside refused text items drawn_29 row best) H → va_D A (cMod cI cZ q quiet mabove mbelow typed mat mstart mtoken mvalue many book images mkept aside refused text items drawn_29 row best) → va_S A s.heap H locs → ∀ (ls : Array Slot), lv_has ls 11 [(0, .ref (q 0)), (2, .int a_b), (3, .int a_near), (4, .int a_place), (5, .int y28), (6, .int y30), (7, .int y31)] → W p l e rm6_carts s m args below meth c H locs 0 0 Q (F0 m 100 ls []) := by
            intro k32 hk32 n32
            induction n32 with
            | zero =>
              intro y30 y31 hf
              cases hf
            | succ n32 ih32 =>
              intro y30 y31 hf H locs hP hD hS ls hl
              rw [L6_carts_100] at hf
              refine lv_iload hx hb (zD_g DX6_carts 53 rfl) (lv_at hl 6 rfl) ?_
              refine lv_iload hx hb (zD_g DX6_carts 54 rfl) (lv_at hl 4 rfl) ?_
              refine lv_icmp_ge (tgt := 120) hx hb (zD_g DX6_carts 55 rfl) (by decide) (fun c33 => ?_) (fun c33 => ?_)
              · replace hf := z_t c33 hf
                exact hk32 _ hf _ _ hP hD hS ls (lv_sub hl [0, 1, 2, 3, 4, 5] rfl)
              · replace hf := z_f c33 hf
                refine lv_iload hx hb (zD_g DX6_carts 56 rfl) (lv_at hl 5 rfl) ?_
                refine lv_iload hx hb (zD_g DX6_carts 57 rfl) (lv_at hl 4 rfl) ?_
                refine lv_imul hx hb (zD_g DX6_carts 58 rfl) ?_
                refine lv_topi (fun x34 ex34 => ?_)
                replace hf := zl_s hf x34 ex34
                refine lv_istore (lv' := [(6, .int x34), (0, .ref (q 0)), (2, .int a_b), (3, .int a_near), (4, .int a_place), (5, .int y28), (7, .int y31)]) hx hb (zD_g DX6_carts 59 rfl) hl (by decide) rfl (fun ls hl => ?_)
                refine lv_iinc (v := y31 + 1) (lv' := [(7, .int (y31 + 1)), (6, .int x34), (0, .ref (q 0)), (2, .int a_b), (3, .int a_near), (4, .int a_place), (5, .int y28)]) (k := 6) hx hb (zD_g DX6_carts 60 rfl) hl rfl rfl (by decide) rfl (fun ls hl => ?_)
                refine lv_goto (tgt := 100) hx hb (zD_g DX6_carts 61 rfl) (by decide) ?_
                exact ih32 _ _ hf _ _ hP hD hS ls (lv_sub hl [2, 3, 4, 5, 6, 1, 0] rfl)
          refine hL32 _ (fun y35 hf H locs hP hD hS ls hl => ?_) _ _ _ hf _ _ hP hD hS ls (lv_sub hl [2, 3, 4, 5, 6, 1, 0] rfl)
          refine lv_iconst (v := (-1 : Int32)) hx hb (zD_g DX6_carts 62 rfl) (by decide) ?_
          refine lv_istore (lv' := [(7, .int (-1 : Int32)), (0, .ref (q 0)), (2, .int a_b), (3, .int a_near), (4, .int a_place), (5, .int y28), (6, .int y35)]) hx hb (zD_g DX6_carts 63 rfl) hl (by decide) rfl (fun ls hl => ?_)
          refine lv_iconst (v := (0 : Int32)) hx hb (zD_g DX6_carts 64 rfl) (by decide) ?_
          refine lv_istore (lv' := [(8, .int (0 : Int32)), (7, .int (-1 : Int32)), (0, .ref (q 0)), (2, .int a_b), (3, .int a_near), (4, .int a_place), (5, .int y28), (6, .int y35)]) hx hb (zD_g DX6_carts 65 rfl) hl (by decide) rfl (fun ls hl => ?_)
          have hL40 : ∀ (k40 : Int32 → (Nat → Int32) → (Nat → Int32) → Option (Int32 × (Nat → Int32) × (Nat → Int32) × (Nat → Int32) × (Nat → Int32))) (hk40 : ∀ (y60 : Int32) (row_61 : Nat → Int32) (best_62 : Nat → Int32), k40 y60 row_61 best_62 = some (r, d_refused, d_drawn, d_row, d_best) → ∀ (H : Heap) (locs : List Loc), va_P D vwCl (cMod cI cZ q quiet mabove mbelow typed mat mstart mtoken mvalue many book images mkept aside refused text items drawn_29 row_61 best_62) H → va_D A (cMod cI cZ q quiet mabove mbelow typed mat mstart mtoken mvalue many book images mkept aside refused text items drawn_29 row_61 best_62) → va_S A s.heap H locs → ∀ (ls : Array Slot), lv_has ls 11 [(0, .ref (q 0)), (2, .int a_b), (4, .int a_place), (5, .int y28), (7, .int y60)] → W p l e rm6_carts s m args below meth c H locs 0 0 Q (F0 m 211 ls [])) (n40 : Nat) (y36 : Int32) (y37 : Int32) (row_38 : Nat → Int32) (best_39 : Nat → Int32), L6_carts_126 k40 book a_near y28 drawn_29 y35 n40 y36 y37 row_38 best_39 = some (r, d_refused, d_drawn, d_row, d_best) → ∀ (H : Heap) (locs : List Loc), va_P D vwCl (cMod cI cZ q quiet mabove mbelow typed mat mstart mtoken mvalue many book images mkept aside refused text items drawn_29 row_38 best_39) H → va_D A (cMod cI cZ q quiet mabove mbelow typed mat mstart mtoken mvalue many book images mkept aside refused text items drawn_29 row_38 best_39) → va_S A s.heap H locs → ∀ (ls : Array Slot), lv_has ls 11 [(0, .ref (q 0)), (2, .int a_b), (3, .int a_near), (4, .int a_place), (5, .int y28), (6, .int y35), (7, .int y36), (8, .int y37)] → W p l e rm6_carts s m args below meth c H locs 0 0 Q (F0 m 126 ls []) := by
            intro k40 hk40 n40
            induction n40 with
            | zero =>
              intro y36 y37 row_38 best_39 hf
              cases hf
            | succ n40 ih40 =>
              intro y36 y37 row_38 best_39 hf H locs hP hD hS ls hl
              rw [L6_carts_126] at hf
              refine lv_iload hx hb (zD_g DX6_carts 66 rfl) (lv_at hl 7 rfl) ?_
              refine lv_iload hx hb (zD_g DX6_carts 67 rfl) (lv_at hl 5 rfl) ?_
              refine lv_icmp_ge (tgt := 211) hx hb (zD_g DX6_carts 68 rfl) (by decide) (fun c41 => ?_) (fun c41 => ?_)
              · replace hf := z_t c41 hf
                exact hk40 _ _ _ hf _ _ hP hD hS ls (lv_sub hl [0, 1, 3, 4, 6] rfl)
              · replace hf := z_f c41 hf
                refine lv_aload_n hx hb (zD_g DX6_carts 69 rfl) rfl (lv_at hl 0 rfl) ?_
                refine lv_iload hx hb (zD_g DX6_carts 70 rfl) (lv_at hl 7 rfl) ?_
                refine lv_iload hx hb (zD_g DX6_carts 71 rfl) (lv_at hl 4 rfl) ?_
                obtain ⟨r42, row_43, hc44, hf⟩ := zb2_s hf
                refine z_Vm (As := [.int y37, .int y28]) (rest := []) (ws' := (cMod cI cZ q quiet mabove mbelow typed mat mstart mtoken mvalue many book images mkept aside refused text items drawn_29 row_43 best_39)) ⟨hx, hb, hml, hown, hts⟩ hK (c6_lays (quiet := quiet) (mabove := mabove) (mbelow := mbelow) (typed := typed) (mat := mat) (mstart := mstart) (mtoken := mtoken) (mvalue := mvalue) (many := many) (book := book) (images := images) (mkept := mkept) (aside := aside) (refused := refused) (text := text) (items := items) (drawn := drawn_29) (row := row_38) (best := best_39) (q := q) hc44) (cwV 2 hts gX6_carts_X6_lays rfl rfl rfl hd6_lays ⟨Nat.le_of_ble_eq_true rfl, Nat.le_of_ble_eq_true rfl⟩) hP hD hS hA 11 [0, 1, 2, 3, 4, 5, 6, 7, 8, 9, 10] [] [0, 1, 2, 3, 4, 5, 6, 7, 8, 9, 10] (by decide +kernel) rfl rfl rfl rfl rfl rfl rfl hl.1 rfl rfl (Nat.le_of_ble_eq_true rfl) (zD_g DX6_carts 72 rfl) ⟨Nat.zero_le _, Nat.zero_le _⟩ (fun H locs hP hD hS => ?_)
                refine lv_if_eq (tgt := 205) hx hb (zD_g DX6_carts 73 rfl) (by decide) (fun c45 => ?_) (fun c45 => ?_)
                · replace hf := z_t c45 hf
                  refine lv_iinc (v := y37 + 1) (lv' := [(8, .int (y37 + 1)), (0, .ref (q 0)), (2, .int a_b), (3, .int a_near), (4, .int a_place), (5, .int y28), (6, .int y35), (7, .int y36)]) (k := 7) hx hb (zD_g DX6_carts 105 rfl) hl rfl rfl (by decide) rfl (fun ls hl => ?_)
                  refine lv_goto (tgt := 126) hx hb (zD_g DX6_carts 106 rfl) (by decide) ?_
                  exact ih40 _ _ _ _ hf _ _ hP hD hS ls (lv_sub hl [1, 2, 3, 4, 5, 6, 7, 0] rfl)
                · replace hf := z_f c45 hf
                  refine lv_aload_n hx hb (zD_g DX6_carts 74 rfl) rfl (lv_at hl 0 rfl) ?_
                  refine lv_iload hx hb (zD_g DX6_carts 75 rfl) (lv_at hl 4 rfl) ?_
                  refine lv_iload_n hx hb (zD_g DX6_carts 76 rfl) rfl (lv_at hl 2 rfl) ?_
                  obtain ⟨r46, hc47, hf⟩ := zb1_s hf
                  refine z_Vp (As := [.int y28, .int a_near]) (rest := []) ⟨hx, hb, hml, hown, hts⟩ hK (c6_loadOf (quiet := quiet) (mabove := mabove) (mbelow := mbelow) (typed := typed) (mat := mat) (mstart := mstart) (mtoken := mtoken) (mvalue := mvalue) (many := many) (book := book) (images := images) (mkept := mkept) (aside := aside) (refused := refused) (text := text) (items := items) (drawn := drawn_29) (row := row_43) (best := best_39) (q := q) hc47) (cwV 2 hts gX6_carts_X6_loadOf rfl rfl rfl hd6_loadOf ⟨Nat.le_of_ble_eq_true rfl, Nat.le_of_ble_eq_true rfl⟩) hP rfl rfl rfl rfl hl.1 rfl rfl (Nat.le_of_ble_eq_true rfl) (zD_g DX6_carts 77 rfl) ⟨Nat.zero_le _, Nat.zero_le _⟩ ?_
                  refine lv_istore (lv' := [(9, .int r46), (0, .ref (q 0)), (2, .int a_b), (3, .int a_near), (4, .int a_place), (5, .int y28), (6, .int y35), (7, .int y36), (8, .int y37)]) hx hb (zD_g DX6_carts 78 rfl) hl (by decide) rfl (fun ls hl => ?_)
                  refine lv_iload hx hb (zD_g DX6_carts 79 rfl) (lv_at hl 7 rfl) ?_
                  refine lv_iconst (v := (-1 : Int32)) hx hb (zD_g DX6_carts 80 rfl) (by decide) ?_
                  obtain ⟨kk49, ek49, hf⟩ := zl_x hf
                  have hJ49 : kk49 = some (r, d_refused, d_drawn, d_row, d_best) → ∀ (H : Heap) (locs : List Loc), va_P D vwCl (cMod cI cZ q quiet mabove mbelow typed mat mstart mtoken mvalue many book images mkept aside refused text items drawn_29 row_43 best_39) H → va_D A (cMod cI cZ q quiet mabove mbelow typed mat mstart mtoken mvalue many book images mkept aside refused text items drawn_29 row_43 best_39) → va_S A s.heap H locs → ∀ (ls : Array Slot), lv_has ls 11 [(0, .ref (q 0)), (2, .int a_b), (3, .int a_near), (4, .int a_place), (5, .int y28), (6, .int y35), (8, .int y37), (9, .int r46)] → W p l e rm6_carts s m args below meth c H locs 0 0 Q (F0 m 166 ls []) := by
                    intro hf H locs hP hD hS ls hl
                    replace hf := ek49.symm.trans hf
                    refine lv_iload hx hb (zD_g DX6_carts 85 rfl) (lv_at hl 7 rfl) ?_
                    refine lv_istore (lv' := [(7, .int r46), (0, .ref (q 0)), (2, .int a_b), (3, .int a_near), (4, .int a_place), (5, .int y28), (6, .int y35), (8, .int y37), (9, .int r46)]) hx hb (zD_g DX6_carts 86 rfl) hl (by decide) rfl (fun ls hl => ?_)
                    refine lv_iconst (v := (0 : Int32)) hx hb (zD_g DX6_carts 87 rfl) (by decide) ?_
                    refine lv_istore (lv' := [(10, .int (0 : Int32)), (7, .int r46), (0, .ref (q 0)), (2, .int a_b), (3, .int a_near), (4, .int a_place), (5, .int y28), (6, .int y35), (8, .int y37), (9, .int r46)]) hx hb (zD_g DX6_carts 88 rfl) hl (by decide) rfl (fun ls hl => ?_)
                    have hL52 : ∀ (k52 : (Nat → Int32) → Option (Int32 × (Nat → Int32) × (Nat → Int32) × (Nat → Int32) × (Nat → Int32))) (hk52 : ∀ (best_58 : Nat → Int32), k52 best_58 = some (r, d_refused, d_drawn, d_row, d_best) → ∀ (H : Heap) (locs : List Loc), va_P D vwCl (cMod cI cZ q quiet mabove mbelow typed mat mstart mtoken mvalue many book images mkept aside refused text items drawn_29 row_43 best_58) H → va_D A (cMod cI cZ q quiet mabove mbelow typed mat mstart mtoken mvalue many book images mkept aside refused text items drawn_29 row_43 best_58) → va_S A s.heap H locs → ∀ (ls : Array Slot), lv_has ls 11 [(0, .ref (q 0)), (2, .int a_b), (3, .int a_near), (4, .int a_place), (5, .int y28), (6, .int y35), (7, .int r46), (8, .int y37)] → W p l e rm6_carts s m args below meth c H locs 0 0 Q (F0 m 205 ls [])) (n52 : Nat) (y50 : Int32) (best_51 : Nat → Int32), L6_carts_173 k52 y28 drawn_29 row_43 n52 y50 best_51 = some (r, d_refused, d_drawn, d_row, d_best) → ∀ (H : Heap) (locs : List Loc), va_P D vwCl (cMod cI cZ q quiet mabove mbelow typed mat mstart mtoken mvalue many book images mkept aside refused text items drawn_29 row_43 best_51) H → va_D A (cMod cI cZ q quiet mabove mbelow typed mat mstart mtoken mvalue many book images mkept aside refused text items drawn_29 row_43 best_51) → va_S A s.heap H locs → ∀ (ls : Array Slot), lv_has ls 11 [(0, .ref (q 0)), (2, .int a_b), (3, .int a_near), (4, .int a_place), (5, .int y28), (6, .int y35), (7, .int r46), (8, .int y37), (10, .int y50)] → W p l e rm6_carts s m args below meth c H locs 0 0 Q (F0 m 173 ls []) := by
                      intro k52 hk52 n52
                      induction n52 with
                      | zero =>
                        intro y50 best_51 hf
                        cases hf
                      | succ n52 ih52 =>
                        intro y50 best_51 hf H locs hP hD hS ls hl
                        rw [L6_carts_173] at hf
                        refine lv_iload hx hb (zD_g DX6_carts 89 rfl) (lv_at hl 8 rfl) ?_
                        refine lv_iload hx hb (zD_g DX6_carts 90 rfl) (lv_at hl 4 rfl) ?_
                        refine lv_icmp_ge (tgt := 205) hx hb (zD_g DX6_carts 91 rfl) (by decide) (fun c53 => ?_) (fun c53 => ?_)
                        · replace hf := z_t c53 hf
                          exact hk52 _ hf _ _ hP hD hS ls (lv_sub hl [0, 1, 2, 3, 4, 5, 6, 7] rfl)
                        · replace hf := z_f c53 hf
                          refine lv_aload_n hx hb (zD_g DX6_carts 92 rfl) rfl (lv_at hl 0 rfl) ?_
                          refine va_get (D := D) (ci := 5) (v := .ref (q 10)) (C := RX6) (T := TX6) (N := 19) hx hb hts in6_carts_6 hown hK.1 hP 0 rfl rfl 18 (by decide) (hts _ (List.mem_of_getElem? (i := 5) rfl)) (fun _ h9 => h9) rfl (zD_g DX6_carts 93 rfl) ?_
                          refine lv_iload hx hb (zD_g DX6_carts 94 rfl) (lv_at hl 8 rfl) ?_
                          refine lv_aload_n hx hb (zD_g DX6_carts 95 rfl) rfl (lv_at hl 0 rfl) ?_
                          refine va_get (D := D) (ci := 5) (v := .ref (q 8)) (C := RX6) (T := TX6) (N := 19) hx hb hts in6_carts_6 hown hK.1 hP 0 rfl rfl 16 (by decide) (hts _ (List.mem_of_getElem? (i := 4) rfl)) (fun _ h9 => h9) rfl (zD_g DX6_carts 96 rfl) ?_
                          refine lv_aload_n hx hb (zD_g DX6_carts 97 rfl) rfl (lv_at hl 0 rfl) ?_
                          refine va_get (D := D) (ci := 5) (v := .ref (q 9)) (C := RX6) (T := TX6) (N := 19) hx hb hts in6_carts_6 hown hK.1 hP 0 rfl rfl 17 (by decide) (hts _ (List.mem_of_getElem? (i := 6) rfl)) (fun _ h9 => h9) rfl (zD_g DX6_carts 98 rfl) ?_
                          refine lv_iload hx hb (zD_g DX6_carts 99 rfl) (lv_at hl 8 rfl) ?_
                          obtain ⟨h54, hf⟩ := zg_s hf
                          refine z_iald (k := y50.toNatClampNeg) hx hb hK.1 hP 9 0 rfl rfl h54 rfl (zD_g DX6_carts 100 rfl) ?_
                          obtain ⟨h55, hf⟩ := zg_s hf
                          refine z_iald (k := (row_43 y50.toNatClampNeg).toNatClampNeg) hx hb hK.1 hP 8 0 rfl rfl h55 rfl (zD_g DX6_carts 101 rfl) ?_
                          refine lv_topi (fun x56 ex56 => ?_)
                          replace hf := zl_s hf x56 ex56
                          obtain ⟨h57, hf⟩ := zg_s hf
                          refine z_iast (k := y50.toNatClampNeg) (ws' := (cMod cI cZ q quiet mabove mbelow typed mat mstart mtoken mvalue many book images mkept aside refused text items drawn_29 row_43 (upd best_51 y50.toNatClampNeg x56))) hx hb hK.1 hP hD hS 10 0 rfl rfl h57 rfl rfl (zD_g DX6_carts 102 rfl) (fun H locs hP hD hS => ?_)
                          refine lv_iinc (v := y50 + 1) (lv' := [(10, .int (y50 + 1)), (0, .ref (q 0)), (2, .int a_b), (3, .int a_near), (4, .int a_place), (5, .int y28), (6, .int y35), (7, .int r46), (8, .int y37)]) (k := 8) hx hb (zD_g DX6_carts 103 rfl) hl rfl rfl (by decide) rfl (fun ls hl => ?_)
                          refine lv_goto (tgt := 173) hx hb (zD_g DX6_carts 104 rfl) (by decide) ?_
                          exact ih52 _ _ hf _ _ hP hD hS ls (lv_sub hl [1, 2, 3, 4, 5, 6, 7, 8, 0] rfl)
                    refine hL52 _ (fun best_58 hf H locs hP hD hS ls hl => ?_) _ _ _ hf _ _ hP hD hS ls (lv_sub hl [2, 3, 4, 5, 6, 7, 1, 8, 0] rfl)
                    refine lv_iinc (v := y37 + 1) (lv' := [(8, .int (y37 + 1)), (0, .ref (q 0)), (2, .int a_b), (3, .int a_near), (4, .int a_place), (5, .int y28), (6, .int y35), (7, .int r46)]) (k := 7) hx hb (zD_g DX6_carts 105 rfl) hl rfl rfl (by decide) rfl (fun ls hl => ?_)
                    refine lv_goto (tgt := 126) hx hb (zD_g DX6_carts 106 rfl) (by decide) ?_
                    exact ih40 _ _ _ _ hf _ _ hP hD hS ls (lv_sub hl [1, 2, 3, 4, 5, 6, 7, 0] rfl)
                  refine lv_icmp_eq (tgt := 166) hx hb (zD_g DX6_carts 81 rfl) (by decide) (fun c48 => ?_) (fun c48 => ?_)
                  · replace hf := z_t c48 hf
                    exact hJ49 hf _ _ hP hD hS ls (lv_sub hl [1, 2, 3, 4, 5, 6, 8, 0] rfl)
                  · replace hf := z_f c48 hf
                    refine lv_iload hx hb (zD_g DX6_carts 82 rfl) (lv_at hl 0 rfl) ?_
                    refine lv_iload hx hb (zD_g DX6_carts 83 rfl) (lv_at hl 7 rfl) ?_
                    refine lv_icmp_ge (tgt := 205) hx hb (zD_g DX6_carts 84 rfl) (by decide) (fun c59 => ?_) (fun c59 => ?_)
                    · replace hf := z_t c59 hf
                      refine lv_iinc (v := y37 + 1) (lv' := [(8, .int (y37 + 1)), (9, .int r46), (0, .ref (q 0)), (2, .int a_b), (3, .int a_near), (4, .int a_place), (5, .int y28), (6, .int y35), (7, .int y36)]) (k := 8) hx hb (zD_g DX6_carts 105 rfl) hl rfl rfl (by decide) rfl (fun ls hl => ?_)
                      refine lv_goto (tgt := 126) hx hb (zD_g DX6_carts 106 rfl) (by decide) ?_
                      exact ih40 _ _ _ _ hf _ _ hP hD hS ls (lv_sub hl [2, 3, 4, 5, 6, 7, 8, 0] rfl)
                    · replace hf := z_f c59 hf
                      exact hJ49 hf _ _ hP hD hS ls (lv_sub hl [1, 2, 3, 4, 5, 6, 8, 0] rfl)
          refine hL40 _ (fun y60 row_61 best_62 hf H locs hP hD hS ls hl => ?_) _ _ _ _ _ hf _ _ hP hD hS ls (lv_sub hl [2, 3, 4, 5, 6, 7, 1, 0] rfl)
          refine lv_iload hx hb (zD_g DX6_carts 107 rfl) (lv_at hl 4 rfl) ?_
          refine lv_iload_n hx hb (zD_g DX6_carts 108 rfl) rfl (lv_at hl 1 rfl) ?_
          refine lv_icmp_le (tgt := 221) hx hb (zD_g DX6_carts 109 rfl) (by decide) (fun c63 => ?_) (fun c63 => ?_)
          · replace hf := z_t c63 hf
            refine lv_iload hx hb (zD_g DX6_carts 112 rfl) (lv_at hl 2 rfl) ?_
            refine lv_iconst (v := (-1 : Int32)) hx hb (zD_g DX6_carts 113 rfl) (by decide) ?_
            refine lv_icmp_ne (tgt := 232) hx hb (zD_g DX6_carts 114 rfl) (by decide) (fun c64 => ?_) (fun c64 => ?_)
            · replace hf := z_f c64 hf
              refine lv_iload hx hb (zD_g DX6_carts 117 rfl) (lv_at hl 2 rfl) ?_
              refine lv_iload hx hb (zD_g DX6_carts 118 rfl) (lv_at hl 3 rfl) ?_
              refine lv_icmp_ge (tgt := 249) hx hb (zD_g DX6_carts 119 rfl) (by decide) (fun c65 => ?_) (fun c65 => ?_)
              · replace hf := z_t c65 hf
                refine lv_bipush (v := (-5 : Int32)) hx hb (zD_g DX6_carts 125 rfl) (by decide) ?_
                cases hf
                exact hret _ _ _ _ hP hD hS (zD_g DX6_carts 126 rfl)
              · replace hf := z_f c65 hf
                refine lv_aload_n hx hb (zD_g DX6_carts 120 rfl) rfl (lv_at hl 0 rfl) ?_
                refine va_get (D := D) (ci := 5) (v := .ref (q 10)) (C := RX6) (T := TX6) (N := 19) hx hb hts in6_carts_6 hown hK.1 hP 0 rfl rfl 18 (by decide) (hts _ (List.mem_of_getElem? (i := 5) rfl)) (fun _ h9 => h9) rfl (zD_g DX6_carts 121 rfl) ?_
                refine lv_iload hx hb (zD_g DX6_carts 122 rfl) (lv_at hl 2 rfl) ?_
                obtain ⟨h66, hf⟩ := zg_s hf
                refine z_iald (k := a_place.toNatClampNeg) hx hb hK.1 hP 10 0 rfl rfl h66 rfl (zD_g DX6_carts 123 rfl) ?_
                refine lv_goto (tgt := 251) hx hb (zD_g DX6_carts 124 rfl) (by decide) ?_
                refine lv_topi (fun x67 ex67 => ?_)
                replace hf := zl_s hf x67 ex67
                cases hf
                exact hret _ _ _ _ hP hD hS (zD_g DX6_carts 126 rfl)
            · replace hf := z_t c64 hf
              refine lv_iload hx hb (zD_g DX6_carts 115 rfl) (lv_at hl 4 rfl) ?_
              refine lv_goto (tgt := 251) hx hb (zD_g DX6_carts 116 rfl) (by decide) ?_
              cases hf
              exact hret _ _ _ _ hP hD hS (zD_g DX6_carts 126 rfl)
          · replace hf := z_f c63 hf
            refine lv_iconst (v := (-1 : Int32)) hx hb (zD_g DX6_carts 110 rfl) (by decide) ?_
            refine lv_goto (tgt := 251) hx hb (zD_g DX6_carts 111 rfl) (by decide) ?_
            cases hf
            exact hret _ _ _ _ hP hD hS (zD_g DX6_carts 126 rfl)
        · replace hf := z_f c19 hf
          refine lv_aload_n hx hb (zD_g DX6_carts 18 rfl) rfl (lv_at hl 0 rfl) ?_
          refine lv_iconst (v := (0 : Int32)) hx hb (zD_g DX6_carts 19 rfl) (by decide) ?_
          refine lv_bipush (v := (-10 : Int32)) hx hb (zD_g DX6_carts 20 rfl) (by decide) ?_
          obtain ⟨r68, refused_69, hc70, hf⟩ := zb2_s hf
          refine z_Vm (As := [.int (0 : Int32), .int (-10 : Int32)]) (rest := []) (ws' := (cMod cI cZ q quiet mabove mbelow typed mat mstart mtoken mvalue many book images mkept aside refused_69 text items drawn row best)) ⟨hx, hb, hml, hown, hts⟩ hK (c6_refuses (quiet := quiet) (mabove := mabove) (mbelow := mbelow) (typed := typed) (mat := mat) (mstart := mstart) (mtoken := mtoken) (mvalue := mvalue) (many := many) (book := book) (images := images) (mkept := mkept) (aside := aside) (refused := refused) (text := text) (items := items) (drawn := drawn) (row := row) (best := best) (q := q) hc70) (cwV 2 hts gX6_carts_X6_refuses rfl rfl rfl hd6_refuses ⟨Nat.le_of_ble_eq_true rfl, Nat.le_of_ble_eq_true rfl⟩) hP hD hS hA 11 [0, 1, 2, 3, 4, 5, 6, 7, 8, 9, 10] [] [0, 1, 2, 3, 4, 5, 6, 7, 8, 9, 10] (by decide +kernel) rfl rfl rfl rfl rfl rfl rfl hl.1 rfl rfl (Nat.le_of_ble_eq_true rfl) (zD_g DX6_carts 21 rfl) ⟨Nat.zero_le _, Nat.zero_le _⟩ (fun H locs hP hD hS => ?_)
          cases hf
          exact hret _ _ _ _ hP hD hS (zD_g DX6_carts 22 rfl)
abbrev dlX6_years : List (Nat × Instr × Nat) := [(0, .iload_n 1, 1), (1, .invokestatic 73, 3), (4, .ifCond .eq 27, 3), (7, .iload_n 2, 1), (8, .i2l, 1), (9, .lconst 0, 1), (10, .ldc2_w 253, 3), (13, .invokestatic 56, 3), (16, .ifCond .eq 15, 3), (19, .iload_n 3, 1), (20, .i2l, 1), (21, .lconst 0, 1), (22, .ldc2_w 255, 3), (25, .invokestatic 56, 3), (28, .ifCond .ne 8, 3), (31, .aload_n 0, 1), (32, .invokevirtual 66, 3), (35, .ireturn, 1), (36, .aload_n 0, 1), (37, .getfield 7, 3), (40, .iconst 1, 1), (41, .iaload, 1), (42, .ifCond .ne 8, 3), (45, .aload_n 0, 1), (46, .invokevirtual 94, 3), (49, .ireturn, 1), (50, .iconst 0, 1), (51, .istore 4, 2), (53, .iload 4, 2), (55, .sipush 230, 3), (58, .if_icmp .ge 23, 3), (61, .aload_n 0, 1), (62, .getfield 20, 3), (65, .iload 4, 2), (67, .aload_n 0, 1), (68, .getfield 7, 3), (71, .iload 4, 2), (73, .iaload, 1), (74, .iastore, 1), (75, .iinc 4 1, 3), (78, .goto (-25), 3), (81, .iload_n 3, 1), (82, .i2l, 1), (83, .lstore 4, 2), (85, .iconst 0, 1), (86, .istore 6, 2), (88, .iload 6, 2), (90, .iload_n 2, 1), (91, .if_icmp .ge 76, 3), (94, .lload 4, 2), (96, .ldc2_w 257, 3), (99, .lmul, 1), (100, .ldc2_w 259, 3), (103, .ladd, 1), (104, .ldc2_w 261, 3), (107, .lrem, 1), (108, .lstore 4, 2), (110, .lload 4, 2), (112, .ldc2_w 263, 3), (115, .ldiv, 1), (116, .aload_n 0, 1), (117, .getfield 7, 3), (120, .iconst 1, 1), (121, .iaload, 1), (122, .i2l, 1), (123, .lrem, 1), (124, .l2i, 1), (125, .istore 7, 2), (127, .lload 4, 2), (129, .ldc2_w 257, 3), (132, .lmul, 1), (133, .ldc2_w 259, 3), (136, .ladd, 1), (137, .ldc2_w 261, 3), (140, .lrem, 1), (141, .lstore 4, 2), (143, .aload_n 0, 1), (144, .iload 7, 2), (146, .lload 4, 2), (148, .ldc2_w 263, 3), (151, .ldiv, 1), (152, .ldc2_w 212, 3), (155, .lrem, 1), (156, .l2i, 1), (157, .invokevirtual 209, 3), (160, .pop, 1), (161, .iinc 6 1, 3), (164, .goto (-76), 3), (167, .aload_n 0, 1), (168, .getfield 7, 3), (171, .bipush 92, 2), (173, .iload_n 1, 1), (174, .iadd, 1), (175, .iaload, 1), (176, .istore 6, 2), (178, .iconst 0, 1), (179, .istore 7, 2), (181, .iload 7, 2), (183, .sipush 230, 3), (186, .if_icmp .ge 23, 3), (189, .aload_n 0, 1), (190, .getfield 7, 3), (193, .iload 7, 2), (195, .aload_n 0, 1), (196, .getfield 20, 3), (199, .iload 7, 2), (201, .iaload, 1), (202, .iastore, 1), (203, .iinc 7 1, 3), (206, .goto (-25), 3), (209, .iload 6, 2), (211, .ireturn, 1)]
theorem DX6_years : zD cX6_years dlX6_years = true := by decide +kernel
set_option maxRecDepth 20000 in
theorem ggX6_years_X6_isCity : GoodIn wsX6_years wsX6_isCity := goodIn_r _ [13, 14, 15, 12, 16] (by decide +kernel) (by decide +kernel)
set_option maxRecDepth 20000 in
theorem gX6_years_X6_isCity : GoodIn wsX6_years (va_wsS RX6 73 yX6_isCity wsX6_isCity) := goodIn_app (goodIn_of _ (by decide +kernel)) ggX6_years_X6_isCity
set_option maxRecDepth 20000 in
theorem ggX6_years_X6_in : GoodIn wsX6_years wsX6_in := goodIn_r _ [16] (by decide +kernel) (by decide +kernel)
set_option maxRecDepth 20000 in
theorem gX6_years_X6_in : GoodIn wsX6_years (va_wsS RX6 56 yX6_in wsX6_in) := goodIn_app (goodIn_of _ (by decide +kernel)) ggX6_years_X6_in
set_option maxRecDepth 20000 in
theorem ggX6_years_X6_bad : GoodIn wsX6_years wsX6_bad := goodIn_r _ [20, 21, 22, 23, 12, 24, 25, 26, 75, 76, 77, 78, 79, 80, 81, 82, 83, 84, 85, 86, 87, 88, 89, 90, 91, 92, 93] (by decide +kernel) (by decide +kernel)
set_option maxRecDepth 20000 in
theorem gX6_years_X6_bad : GoodIn wsX6_years (wsV RX6 66 RX6 yX6_bad wsX6_bad) := goodIn_app (goodIn_of _ (by decide +kernel)) ggX6_years_X6_bad
set_option maxRecDepth 20000 in
theorem ggX6_years_X6_no : GoodIn wsX6_years wsX6_no := goodIn_r _ [30, 21, 22, 23, 12, 24, 25, 26, 75, 76, 77, 78, 79, 80, 81, 82, 83, 84, 85, 86, 87, 88, 89, 90, 91, 92, 93] (by decide +kernel) (by decide +kernel)
set_option maxRecDepth 20000 in
theorem gX6_years_X6_no : GoodIn wsX6_years (wsV RX6 94 RX6 yX6_no wsX6_no) := goodIn_app (goodIn_of _ (by decide +kernel)) ggX6_years_X6_no
set_option maxRecDepth 20000 in
theorem ggX6_years_X6_sends : GoodIn wsX6_years wsX6_sends := goodIn_r _ [34, 3, 35, 36, 37, 12, 38, 39, 40, 41, 42, 43, 44, 45, 46, 47, 48, 49, 50, 51, 52, 53, 54, 55, 56, 57, 58, 59, 60, 61, 62, 63, 64, 65, 66, 67, 68, 69, 70, 71, 72, 73, 74, 75, 76, 77, 78, 79, 80, 81, 82, 83, 84, 85, 86, 87, 88, 89, 90, 91, 92, 93] (by decide +kernel) (by decide +kernel)
set_option maxRecDepth 20000 in
theorem gX6_years_X6_sends : GoodIn wsX6_years (wsV RX6 209 RX6 yX6_sends wsX6_sends) := goodIn_app (goodIn_of _ (by decide +kernel)) ggX6_years_X6_sends
theorem hd6_years : yX6_years.cls = RX6 ∧ yX6_years.cls ≠ "java/lang/invoke/MethodHandle" ∧ yX6_years.cls ≠ "java/lang/invoke/VarHandle" ∧ (parseMethodDescriptor yX6_years.desc).map (fun d => d.parameters.length) = some 3 := by decide +kernel
abbrev rm6_years : Room := { frames := 5, cells := 0, slots := 0, locals := 120 }
theorem in6_years_6 : ∀ w ∈ wsX60, w ∈ wsX6_years := fun w h => List.mem_cons_of_mem _ (List.mem_append_right _ h)
set_option maxHeartbeats 4000000 in
set_option maxRecDepth 100000 in
theorem c6_years {l : Launch} {D : va_G} {cI cZ cB : ClassId} {q : Nat → Nat} {sz : Nat} {quiet : Int32} {mabove : Int64} {mbelow : Int64} {typed : Int32} {mat : Int32} {mstart : Int32} {mtoken : Int32} {mvalue : Int32} {many : Int32} {book : Nat → Int32} {images : Nat → Int32} {mkept : Nat → Int32} {aside : Nat → Int32} {refused : Nat → Int32} {text : Nat → Int32} {items : Nat → Int32} {drawn : Nat → Int32} {row : Nat → Int32} {best : Nat → Int32} {a_c : Int32} {a_n : Int32} {a_seed : Int32} {r : Int32} {d_book : Nat → Int32} {d_aside : Nat → Int32} {d_refused : Nat → Int32} (hf : f6_years quiet book aside refused a_c a_n a_seed = some (r, d_book, d_aside, d_refused)) : Met l yX6_years wsX6_years rm6_years (zPm D cI cZ cB [.ref (q 0), .int a_c, .int a_n, .int a_seed] sz (cMod cI cZ q quiet mabove mbelow typed mat mstart mtoken mvalue many book images mkept aside refused text items drawn row best)) (zQm D (some (.int r)) (cMod cI cZ q quiet mabove mbelow typed mat mstart mtoken mvalue many d_book images mkept d_aside d_refused text items drawn row best) (va_A (cMod cI cZ q quiet mabove mbelow typed mat mstart mtoken mvalue many book images mkept aside refused text items drawn row best) sz)) 0 0 (va_A (cMod cI cZ q quiet mabove mbelow typed mat mstart mtoken mvalue many book images mkept aside refused text items drawn row best) sz) := by
  unfold f6_years at hf
  refine z_mutI RX6 (by decide +kernel) rfl rfl (Nat.le_of_ble_eq_true rfl) ?_
  intro p e s m args below meth c Q A ls hx hb hml hown hts hK hP hD hS hA hret hl
  have hl : lv_has ls 8 [(0, .ref (q 0)), (1, .int a_c), (2, .int a_n), (3, .int a_seed)] := hl
  refine lv_iload_n hx hb (zD_g DX6_years 0 rfl) rfl (lv_at hl 1 rfl) ?_
  obtain ⟨r1, hc2, hf⟩ := zb1_s hf
  refine z_Sp (As := [.int a_c]) (rest := []) ⟨hx, hb, hml, hown, hts⟩ hK (c6_isCity  hc2) (va_cwS 1 hts gX6_years_X6_isCity rfl rfl rfl hd6_isCity ⟨Nat.le_of_ble_eq_true rfl, Nat.le_of_ble_eq_true rfl⟩) (hP.sub [] rfl) rfl hl.1 rfl rfl (Nat.le_of_ble_eq_true rfl) (zD_g DX6_years 1 rfl) ⟨Nat.zero_le _, Nat.zero_le _⟩ ?_
  refine lv_if_eq (tgt := 31) hx hb (zD_g DX6_years 2 rfl) (by decide) (fun c3 => ?_) (fun c3 => ?_)
  · replace hf := z_t c3 hf
    refine lv_aload_n hx hb (zD_g DX6_years 15 rfl) rfl (lv_at hl 0 rfl) ?_
    obtain ⟨r4, refused_5, hc6, hf⟩ := zb2_s hf
    refine z_Vm (As := []) (rest := []) (ws' := (cMod cI cZ q quiet mabove mbelow typed mat mstart mtoken mvalue many book images mkept aside refused_5 text items drawn row best)) ⟨hx, hb, hml, hown, hts⟩ hK (c6_bad (quiet := quiet) (mabove := mabove) (mbelow := mbelow) (typed := typed) (mat := mat) (mstart := mstart) (mtoken := mtoken) (mvalue := mvalue) (many := many) (book := book) (images := images) (mkept := mkept) (aside := aside) (refused := refused) (text := text) (items := items) (drawn := drawn) (row := row) (best := best) (q := q) hc6) (cwV 0 hts gX6_years_X6_bad rfl rfl rfl hd6_bad ⟨Nat.le_of_ble_eq_true rfl, Nat.le_of_ble_eq_true rfl⟩) hP hD hS hA 11 [0, 1, 2, 3, 4, 5, 6, 7, 8, 9, 10] [] [0, 1, 2, 3, 4, 5, 6, 7, 8, 9, 10] (by decide +kernel) rfl rfl rfl rfl rfl rfl rfl hl.1 rfl rfl (Nat.le_of_ble_eq_true rfl) (zD_g DX6_years 16 rfl) ⟨Nat.zero_le _, Nat.zero_le _⟩ (fun H locs hP hD hS => ?_)
    cases hf
    exact hret _ _ _ _ hP hD hS (zD_g DX6_years 17 rfl)
  · replace hf := z_f c3 hf
    refine lv_iload_n hx hb (zD_g DX6_years 3 rfl) rfl (lv_at hl 2 rfl) ?_
    refine lv_i2l (v := (a_n).toInt64) hx hb (zD_g DX6_years 4 rfl) rfl ?_
    refine lv_lconst (v := (0 : Int64)) hx hb (zD_g DX6_years 5 rfl) (by decide) ?_
    refine lv_ldc2 (v := (90 : Int64)) hx hb hown (hts _ (List.mem_of_getElem? (i := 1) rfl)) (zD_g DX6_years 6 rfl) ?_
    obtain ⟨r7, hc8, hf⟩ := zb1_s hf
    refine z_Sp (As := [.long ((a_n).toInt64), .long (0 : Int64), .long (90 : Int64)]) (rest := []) ⟨hx, hb, hml, hown, hts⟩ hK (c6_in  hc8) (va_cwS 3 hts gX6_years_X6_in rfl rfl rfl hd6_in ⟨Nat.le_of_ble_eq_true rfl, Nat.le_of_ble_eq_true rfl⟩) (hP.sub [] rfl) rfl hl.1 rfl rfl (Nat.le_of_ble_eq_true rfl) (zD_g DX6_years 7 rfl) ⟨Nat.zero_le _, Nat.zero_le _⟩ ?_
    refine lv_if_eq (tgt := 31) hx hb (zD_g DX6_years 8 rfl) (by decide) (fun c9 => ?_) (fun c9 => ?_)
    · replace hf := z_t c9 hf
      refine lv_aload_n hx hb (zD_g DX6_years 15 rfl) rfl (lv_at hl 0 rfl) ?_
      obtain ⟨r10, refused_11, hc12, hf⟩ := zb2_s hf
      refine z_Vm (As := []) (rest := []) (ws' := (cMod cI cZ q quiet mabove mbelow typed mat mstart mtoken mvalue many book images mkept aside refused_11 text items drawn row best)) ⟨hx, hb, hml, hown, hts⟩ hK (c6_bad (quiet := quiet) (mabove := mabove) (mbelow := mbelow) (typed := typed) (mat := mat) (mstart := mstart) (mtoken := mtoken) (mvalue := mvalue) (many := many) (book := book) (images := images) (mkept := mkept) (aside := aside) (refused := refused) (text := text) (items := items) (drawn := drawn) (row := row) (best := best) (q := q) hc12) (cwV 0 hts gX6_years_X6_bad rfl rfl rfl hd6_bad ⟨Nat.le_of_ble_eq_true rfl, Nat.le_of_ble_eq_true rfl⟩) hP hD hS hA 11 [0, 1, 2, 3, 4, 5, 6, 7, 8, 9, 10] [] [0, 1, 2, 3, 4, 5, 6, 7, 8, 9, 10] (by decide +kernel) rfl rfl rfl rfl rfl rfl rfl hl.1 rfl rfl (Nat.le_of_ble_eq_true rfl) (zD_g DX6_years 16 rfl) ⟨Nat.zero_le _, Nat.zero_le _⟩ (fun H locs hP hD hS => ?_)
      cases hf
      exact hret _ _ _ _ hP hD hS (zD_g DX6_years 17 rfl)
    · replace hf := z_f c9 hf
      refine lv_iload_n hx hb (zD_g DX6_years 9 rfl) rfl (lv_at hl 3 rfl) ?_
      refine lv_i2l (v := (a_seed).toInt64) hx hb (zD_g DX6_years 10 rfl) rfl ?_
      refine lv_lconst (v := (0 : Int64)) hx hb (zD_g DX6_years 11 rfl) (by decide) ?_
      refine lv_ldc2 (v := (999999 : Int64)) hx hb hown (hts _ (List.mem_of_getElem? (i := 2) rfl)) (zD_g DX6_years 12 rfl) ?_
      obtain ⟨r13, hc14, hf⟩ := zb1_s hf
      refine z_Sp (As := [.long ((a_seed).toInt64), .long (0 : Int64), .long (999999 : Int64)]) (rest := []) ⟨hx, hb, hml, hown, hts⟩ hK (c6_in  hc14) (va_cwS 3 hts gX6_years_X6_in rfl rfl rfl hd6_in ⟨Nat.le_of_ble_eq_true rfl, Nat.le_of_ble_eq_true rfl⟩) (hP.sub [] rfl) rfl hl.1 rfl rfl (Nat.le_of_ble_eq_true rfl) (zD_g DX6_years 13 rfl) ⟨Nat.zero_le _, Nat.zero_le _⟩ ?_
      refine lv_if_ne (tgt := 36) hx hb (zD_g DX6_years 14 rfl) (by decide) (fun c15 => ?_) (fun c15 => ?_)
      · replace hf := z_f c15 hf
        refine lv_aload_n hx hb (zD_g DX6_years 18 rfl) rfl (lv_at hl 0 rfl) ?_
        refine va_get (D := D) (ci := 5) (v := .ref (q 1)) (C := RX6) (T := TX6) (N := 19) hx hb hts in6_years_6 hown hK.1 hP 0 rfl rfl 0 (by decide) (hts _ (List.mem_of_getElem? (i := 3) rfl)) (fun _ h9 => h9) rfl (zD_g DX6_years 19 rfl) ?_
        refine lv_iconst (v := (1 : Int32)) hx hb (zD_g DX6_years 20 rfl) (by decide) ?_
        refine z_iald (k := 1) hx hb hK.1 hP 1 0 rfl rfl (by unfold vp_in; decide) rfl (zD_g DX6_years 21 rfl) ?_
        refine lv_if_ne (tgt := 50) hx hb (zD_g DX6_years 22 rfl) (by decide) (fun c16 => ?_) (fun c16 => ?_)
        · replace hf := z_f c16 hf
          refine lv_iconst (v := (0 : Int32)) hx hb (zD_g DX6_years 26 rfl) (by decide) ?_
          refine lv_istore (lv' := [(4, .int (0 : Int32)), (0, .ref (q 0)), (1, .int a_c), (2, .int a_n), (3, .int a_seed)]) hx hb (zD_g DX6_years 27 rfl) hl (by decide) rfl (fun ls hl => ?_)
          have hL19 : ∀ (k19 : (Nat → Int32) → Option (Int32 × (Nat → Int32) × (Nat → Int32) × (Nat → Int32))) (hk19 : ∀ (aside_24 : Nat → Int32), k19 aside_24 = some (r, d_book, d_aside, d_refused) → ∀ (H : Heap) (locs : List Loc), va_P D vwCl (cMod cI cZ q quiet mabove mbelow typed mat mstart mtoken mvalue many book images mkept aside_24 refused text items drawn row best) H → va_D A (cMod cI cZ q quiet mabove mbelow typed mat mstart mtoken mvalue many book images mkept aside_24 refused text items drawn row best) → va_S A s.heap H locs → ∀ (ls : Array Slot), lv_has ls 8 [(0, .ref (q 0)), (1, .int a_c), (2, .int a_n), (3, .int a_seed)] → W p l e rm6_years s m args below meth c H locs 0 0 Q (F0 m 81 ls [])) (n19 : Nat) (y17 : Int32) (aside_18 : Nat → Int32), L6_years_53 k19 book n19 y17 aside_18 = some (r, d_book, d_aside, d_refused) → ∀ (H : Heap) (locs : List Loc), va_P D vwCl (cMod cI cZ q quiet mabove mbelow typed mat mstart mtoken mvalue many book images mkept aside_18 refused text items drawn row best) H → va_D A (cMod cI cZ q quiet mabove mbelow typed mat mstart mtoken mvalue many book images mkept aside_18 refused text items drawn row best) → va_S A s.heap H locs → ∀ (ls : Array Slot), lv_has ls 8 [(0, .ref (q 0)), (1, .int a_c), (2, .int a_n), (3, .int a_seed), (4, .int y17)] → W p l e rm6_years s m args below meth c H locs 0 0 Q (F0 m 53 ls []) := by
            intro k19 hk19 n19
            induction n19 with
            | zero =>
              intro y17 aside_18 hf
              cases hf
            | succ n19 ih19 =>
              intro y17 aside_18 hf H locs hP hD hS ls hl
              rw [L6_years_53] at hf
              refine lv_iload hx hb (zD_g DX6_years 28 rfl) (lv_at hl 4 rfl) ?_
              refine lv_sipush (v := (230 : Int32)) hx hb (zD_g DX6_years 29 rfl) (by decide) ?_
              refine lv_icmp_ge (tgt := 81) hx hb (zD_g DX6_years 30 rfl) (by decide) (fun c20 => ?_) (fun c20 => ?_)
              · replace hf := z_t c20 hf
                exact hk19 _ hf _ _ hP hD hS ls (lv_sub hl [0, 1, 2, 3] rfl)
              · replace hf := z_f c20 hf
                refine lv_aload_n hx hb (zD_g DX6_years 31 rfl) rfl (lv_at hl 0 rfl) ?_
                refine va_get (D := D) (ci := 5) (v := .ref (q 4)) (C := RX6) (T := TX6) (N := 19) hx hb hts in6_years_6 hown hK.1 hP 0 rfl rfl 3 (by decide) (hts _ (List.mem_of_getElem? (i := 4) rfl)) (fun _ h9 => h9) rfl (zD_g DX6_years 32 rfl) ?_
                refine lv_iload hx hb (zD_g DX6_years 33 rfl) (lv_at hl 4 rfl) ?_
                refine lv_aload_n hx hb (zD_g DX6_years 34 rfl) rfl (lv_at hl 0 rfl) ?_
                refine va_get (D := D) (ci := 5) (v := .ref (q 1)) (C := RX6) (T := TX6) (N := 19) hx hb hts in6_years_6 hown hK.1 hP 0 rfl rfl 0 (by decide) (hts _ (List.mem_of_getElem? (i := 3) rfl)) (fun _ h9 => h9) rfl (zD_g DX6_years 35 rfl) ?_
                refine lv_iload hx hb (zD_g DX6_years 36 rfl) (lv_at hl 4 rfl) ?_
                obtain ⟨h21, hf⟩ := zg_s hf
                refine z_iald (k := y17.toNatClampNeg) hx hb hK.1 hP 1 0 rfl rfl h21 rfl (zD_g DX6_years 37 rfl) ?_
                refine lv_topi (fun x22 ex22 => ?_)
                replace hf := zl_s hf x22 ex22
                obtain ⟨h23, hf⟩ := zg_s hf
                refine z_iast (k := y17.toNatClampNeg) (ws' := (cMod cI cZ q quiet mabove mbelow typed mat mstart mtoken mvalue many book images mkept (upd aside_18 y17.toNatClampNeg x22) refused text items drawn row best)) hx hb hK.1 hP hD hS 4 0 rfl rfl h23 rfl rfl (zD_g DX6_years 38 rfl) (fun H locs hP hD hS => ?_)
                refine lv_iinc (v := y17 + 1) (lv' := [(4, .int (y17 + 1)), (0, .ref (q 0)), (1, .int a_c), (2, .int a_n), (3, .int a_seed)]) (k := 4) hx hb (zD_g DX6_years 39 rfl) hl rfl rfl (by decide) rfl (fun ls hl => ?_)
                refine lv_goto (tgt := 53) hx hb (zD_g DX6_years 40 rfl) (by decide) ?_
                exact ih19 _ _ hf _ _ hP hD hS ls (lv_sub hl [1, 2, 3, 4, 0] rfl)
          refine hL19 _ (fun aside_24 hf H locs hP hD hS ls hl => ?_) _ _ _ hf _ _ hP hD hS ls (lv_sub hl [1, 2, 3, 4, 0] rfl)
          refine lv_iload_n hx hb (zD_g DX6_years 41 rfl) rfl (lv_at hl 3 rfl) ?_
          refine lv_i2l (v := (a_seed).toInt64) hx hb (zD_g DX6_years 42 rfl) rfl ?_
          refine lv_topl (fun x25 ex25 => ?_)
          replace hf := zl_s hf x25 ex25
          refine lv_lstore (lv' := [(4, .long x25), (0, .ref (q 0)), (1, .int a_c), (2, .int a_n), (3, .int a_seed)]) hx hb (zD_g DX6_years 43 rfl) hl (by decide) rfl (fun ls hl => ?_)
          refine lv_iconst (v := (0 : Int32)) hx hb (zD_g DX6_years 44 rfl) (by decide) ?_
          refine lv_istore (lv' := [(6, .int (0 : Int32)), (4, .long x25), (0, .ref (q 0)), (1, .int a_c), (2, .int a_n), (3, .int a_seed)]) hx hb (zD_g DX6_years 45 rfl) hl (by decide) rfl (fun ls hl => ?_)
          have hL29 : ∀ (k29 : (Nat → Int32) → Option (Int32 × (Nat → Int32) × (Nat → Int32) × (Nat → Int32))) (hk29 : ∀ (book_42 : Nat → Int32), k29 book_42 = some (r, d_book, d_aside, d_refused) → ∀ (H : Heap) (locs : List Loc), va_P D vwCl (cMod cI cZ q quiet mabove mbelow typed mat mstart mtoken mvalue many book_42 images mkept aside_24 refused text items drawn row best) H → va_D A (cMod cI cZ q quiet mabove mbelow typed mat mstart mtoken mvalue many book_42 images mkept aside_24 refused text items drawn row best) → va_S A s.heap H locs → ∀ (ls : Array Slot), lv_has ls 8 [(0, .ref (q 0)), (1, .int a_c)] → W p l e rm6_years s m args below meth c H locs 0 0 Q (F0 m 167 ls [])) (n29 : Nat) (y26 : Int64) (y27 : Int32) (book_28 : Nat → Int32), L6_years_88 k29 a_n n29 y26 y27 book_28 = some (r, d_book, d_aside, d_refused) → ∀ (H : Heap) (locs : List Loc), va_P D vwCl (cMod cI cZ q quiet mabove mbelow typed mat mstart mtoken mvalue many book_28 images mkept aside_24 refused text items drawn row best) H → va_D A (cMod cI cZ q quiet mabove mbelow typed mat mstart mtoken mvalue many book_28 images mkept aside_24 refused text items drawn row best) → va_S A s.heap H locs → ∀ (ls : Array Slot), lv_has ls 8 [(0, .ref (q 0)), (1, .int a_c), (2, .int a_n), (4, .long y26), (6, .int y27)] → W p l e rm6_years s m args below meth c H locs 0 0 Q (F0 m 88 ls []) := by
            intro k29 hk29 n29
            induction n29 with
            | zero =>
              intro y26 y27 book_28 hf
              cases hf
            | succ n29 ih29 =>
              intro y26 y27 book_28 hf H locs hP hD hS ls hl
              rw [L6_years_88] at hf
              refine lv_iload hx hb (zD_g DX6_years 46 rfl) (lv_at hl 4 rfl) ?_
              refine lv_iload_n hx hb (zD_g DX6_years 47 rfl) rfl (lv_at hl 2 rfl) ?_
              refine lv_icmp_ge (tgt := 167) hx hb (zD_g DX6_years 48 rfl) (by decide) (fun c30 => ?_) (fun c30 => ?_)
              · replace hf := z_t c30 hf
                exact hk29 _ hf _ _ hP hD hS ls (lv_sub hl [0, 1] rfl)
              · replace hf := z_f c30 hf
                refine lv_lload hx hb (zD_g DX6_years 49 rfl) (lv_at hl 3 rfl) ?_
                refine lv_ldc2 (v := (1103515245 : Int64)) hx hb hown (hts _ (List.mem_of_getElem? (i := 5) rfl)) (zD_g DX6_years 50 rfl) ?_
                refine lv_lmul hx hb (zD_g DX6_years 51 rfl) ?_
                refine lv_ldc2 (v := (12345 : Int64)) hx hb hown (hts _ (List.mem_of_getElem? (i := 6) rfl)) (zD_g DX6_years 52 rfl) ?_
                refine lv_ladd hx hb (zD_g DX6_years 53 rfl) ?_
                refine lv_topl (fun x31 ex31 => ?_)
                replace hf := zl_s hf x31 ex31
                refine lv_ldc2 (v := (2147483648 : Int64)) hx hb hown (hts _ (List.mem_of_getElem? (i := 7) rfl)) (zD_g DX6_years 54 rfl) ?_
                refine lv_lrem hx hb (zD_g DX6_years 55 rfl) (by decide) ?_
                refine lv_topl (fun x32 ex32 => ?_)
                replace hf := zl_s hf x32 ex32
                refine lv_lstore (lv' := [(4, .long x32), (0, .ref (q 0)), (1, .int a_c), (2, .int a_n), (6, .int y27)]) hx hb (zD_g DX6_years 56 rfl) hl (by decide) rfl (fun ls hl => ?_)
                refine lv_lload hx hb (zD_g DX6_years 57 rfl) (lv_at hl 0 rfl) ?_
                refine lv_ldc2 (v := (65536 : Int64)) hx hb hown (hts _ (List.mem_of_getElem? (i := 8) rfl)) (zD_g DX6_years 58 rfl) ?_
                refine lv_ldiv hx hb (zD_g DX6_years 59 rfl) (by decide) ?_
                refine lv_aload_n hx hb (zD_g DX6_years 60 rfl) rfl (lv_at hl 1 rfl) ?_
                refine va_get (D := D) (ci := 5) (v := .ref (q 1)) (C := RX6) (T := TX6) (N := 19) hx hb hts in6_years_6 hown hK.1 hP 0 rfl rfl 0 (by decide) (hts _ (List.mem_of_getElem? (i := 3) rfl)) (fun _ h9 => h9) rfl (zD_g DX6_years 61 rfl) ?_
                refine lv_iconst (v := (1 : Int32)) hx hb (zD_g DX6_years 62 rfl) (by decide) ?_
                refine z_iald (k := 1) hx hb hK.1 hP 1 0 rfl rfl (by unfold vp_in; decide) rfl (zD_g DX6_years 63 rfl) ?_
                refine lv_topi (fun x33 ex33 => ?_)
                replace hf := zl_s hf x33 ex33
                refine lv_i2l (v := (x33).toInt64) hx hb (zD_g DX6_years 64 rfl) rfl ?_
                obtain ⟨h34, hf⟩ := zdl_s hf
                refine lv_lrem hx hb (zD_g DX6_years 65 rfl) h34 ?_
                refine lv_l2i (v := (((x32 / (65536 : Int64)) - (x32 / (65536 : Int64)) / ((x33).toInt64) * ((x33).toInt64))).toInt32) hx hb (zD_g DX6_years 66 rfl) rfl ?_
                refine lv_topi (fun x35 ex35 => ?_)
                replace hf := zl_s hf x35 ex35
                refine lv_istore (lv' := [(7, .int x35), (4, .long x32), (0, .ref (q 0)), (1, .int a_c), (2, .int a_n), (6, .int y27)]) hx hb (zD_g DX6_years 67 rfl) hl (by decide) rfl (fun ls hl => ?_)
                refine lv_lload hx hb (zD_g DX6_years 68 rfl) (lv_at hl 1 rfl) ?_
                refine lv_ldc2 (v := (1103515245 : Int64)) hx hb hown (hts _ (List.mem_of_getElem? (i := 5) rfl)) (zD_g DX6_years 69 rfl) ?_
                refine lv_lmul hx hb (zD_g DX6_years 70 rfl) ?_
                refine lv_ldc2 (v := (12345 : Int64)) hx hb hown (hts _ (List.mem_of_getElem? (i := 6) rfl)) (zD_g DX6_years 71 rfl) ?_
                refine lv_ladd hx hb (zD_g DX6_years 72 rfl) ?_
                refine lv_topl (fun x36 ex36 => ?_)
                replace hf := zl_s hf x36 ex36
                refine lv_ldc2 (v := (2147483648 : Int64)) hx hb hown (hts _ (List.mem_of_getElem? (i := 7) rfl)) (zD_g DX6_years 73 rfl) ?_
                refine lv_lrem hx hb (zD_g DX6_years 74 rfl) (by decide) ?_
                refine lv_topl (fun x37 ex37 => ?_)
                replace hf := zl_s hf x37 ex37
                refine lv_lstore (lv' := [(4, .long x37), (7, .int x35), (0, .ref (q 0)), (1, .int a_c), (2, .int a_n), (6, .int y27)]) hx hb (zD_g DX6_years 75 rfl) hl (by decide) rfl (fun ls hl => ?_)
                refine lv_aload_n hx hb (zD_g DX6_years 76 rfl) rfl (lv_at hl 2 rfl) ?_
                refine lv_iload hx hb (zD_g DX6_years 77 rfl) (lv_at hl 1 rfl) ?_
                refine lv_lload hx hb (zD_g DX6_years 78 rfl) (lv_at hl 0 rfl) ?_
                refine lv_ldc2 (v := (65536 : Int64)) hx hb hown (hts _ (List.mem_of_getElem? (i := 8) rfl)) (zD_g DX6_years 79 rfl) ?_
                refine lv_ldiv hx hb (zD_g DX6_years 80 rfl) (by decide) ?_
                refine lv_topl (fun x38 ex38 => ?_)
                replace hf := zl_s hf x38 ex38
                refine lv_ldc2 (v := (6 : Int64)) hx hb hown (hts _ (List.mem_of_getElem? (i := 9) rfl)) (zD_g DX6_years 81 rfl) ?_
                refine lv_lrem hx hb (zD_g DX6_years 82 rfl) (by decide) ?_
                refine lv_l2i (v := ((x38 - x38 / (6 : Int64) * (6 : Int64))).toInt32) hx hb (zD_g DX6_years 83 rfl) rfl ?_
                obtain ⟨r39, book_40, hc41, hf⟩ := zb2_s hf
                refine z_Vm (As := [.int x35, .int (((x38 - x38 / (6 : Int64) * (6 : Int64))).toInt32)]) (rest := []) (ws' := (cMod cI cZ q quiet mabove mbelow typed mat mstart mtoken mvalue many book_40 images mkept aside_24 refused text items drawn row best)) ⟨hx, hb, hml, hown, hts⟩ hK (c6_sends (quiet := quiet) (mabove := mabove) (mbelow := mbelow) (typed := typed) (mat := mat) (mstart := mstart) (mtoken := mtoken) (mvalue := mvalue) (many := many) (book := book_28) (images := images) (mkept := mkept) (aside := aside_24) (refused := refused) (text := text) (items := items) (drawn := drawn) (row := row) (best := best) (q := q) hc41) (cwV 2 hts gX6_years_X6_sends rfl rfl rfl hd6_sends ⟨Nat.le_of_ble_eq_true rfl, Nat.le_of_ble_eq_true rfl⟩) hP hD hS hA 11 [0, 1, 2, 3, 4, 5, 6, 7, 8, 9, 10] [] [0, 1, 2, 3, 4, 5, 6, 7, 8, 9, 10] (by decide +kernel) rfl rfl rfl rfl rfl rfl rfl hl.1 rfl rfl (Nat.le_of_ble_eq_true rfl) (zD_g DX6_years 84 rfl) ⟨Nat.zero_le _, Nat.zero_le _⟩ (fun H locs hP hD hS => ?_)
                refine lv_pop hx hb (zD_g DX6_years 85 rfl) rfl ?_
                refine lv_iinc (v := y27 + 1) (lv' := [(6, .int (y27 + 1)), (4, .long x37), (7, .int x35), (0, .ref (q 0)), (1, .int a_c), (2, .int a_n)]) (k := 5) hx hb (zD_g DX6_years 86 rfl) hl rfl rfl (by decide) rfl (fun ls hl => ?_)
                refine lv_goto (tgt := 88) hx hb (zD_g DX6_years 87 rfl) (by decide) ?_
                exact ih29 _ _ _ hf _ _ hP hD hS ls (lv_sub hl [3, 4, 5, 1, 0] rfl)
          refine hL29 _ (fun book_42 hf H locs hP hD hS ls hl => ?_) _ _ _ _ hf _ _ hP hD hS ls (lv_sub hl [2, 3, 4, 1, 0] rfl)
          refine lv_aload_n hx hb (zD_g DX6_years 88 rfl) rfl (lv_at hl 0 rfl) ?_
          refine va_get (D := D) (ci := 5) (v := .ref (q 1)) (C := RX6) (T := TX6) (N := 19) hx hb hts in6_years_6 hown hK.1 hP 0 rfl rfl 0 (by decide) (hts _ (List.mem_of_getElem? (i := 3) rfl)) (fun _ h9 => h9) rfl (zD_g DX6_years 89 rfl) ?_
          refine lv_bipush (v := (92 : Int32)) hx hb (zD_g DX6_years 90 rfl) (by decide) ?_
          refine lv_iload_n hx hb (zD_g DX6_years 91 rfl) rfl (lv_at hl 1 rfl) ?_
          refine lv_iadd hx hb (zD_g DX6_years 92 rfl) ?_
          obtain ⟨h43, hf⟩ := zg_s hf
          refine z_iald (k := ((92 : Int32) + a_c).toNatClampNeg) hx hb hK.1 hP 1 0 rfl rfl h43 rfl (zD_g DX6_years 93 rfl) ?_
          refine lv_topi (fun x44 ex44 => ?_)
          replace hf := zl_s hf x44 ex44
          refine lv_istore (lv' := [(6, .int x44), (0, .ref (q 0)), (1, .int a_c)]) hx hb (zD_g DX6_years 94 rfl) hl (by decide) rfl (fun ls hl => ?_)
          refine lv_iconst (v := (0 : Int32)) hx hb (zD_g DX6_years 95 rfl) (by decide) ?_
          refine lv_istore (lv' := [(7, .int (0 : Int32)), (6, .int x44), (0, .ref (q 0)), (1, .int a_c)]) hx hb (zD_g DX6_years 96 rfl) hl (by decide) rfl (fun ls hl => ?_)
          have hL47 : ∀ (k47 : (Nat → Int32) → Option (Int32 × (Nat → Int32) × (Nat → Int32) × (Nat → Int32))) (hk47 : ∀ (book_52 : Nat → Int32), k47 book_52 = some (r, d_book, d_aside, d_refused) → ∀ (H : Heap) (locs : List Loc), va_P D vwCl (cMod cI cZ q quiet mabove mbelow typed mat mstart mtoken mvalue many book_52 images mkept aside_24 refused text items drawn row best) H → va_D A (cMod cI cZ q quiet mabove mbelow typed mat mstart mtoken mvalue many book_52 images mkept aside_24 refused text items drawn row best) → va_S A s.heap H locs → ∀ (ls : Array Slot), lv_has ls 8 [(6, .int x44)] → W p l e rm6_years s m args below meth c H locs 0 0 Q (F0 m 209 ls [])) (n47 : Nat) (y45 : Int32) (book_46 : Nat → Int32), L6_years_181 k47 aside_24 n47 y45 book_46 = some (r, d_book, d_aside, d_refused) → ∀ (H : Heap) (locs : List Loc), va_P D vwCl (cMod cI cZ q quiet mabove mbelow typed mat mstart mtoken mvalue many book_46 images mkept aside_24 refused text items drawn row best) H → va_D A (cMod cI cZ q quiet mabove mbelow typed mat mstart mtoken mvalue many book_46 images mkept aside_24 refused text items drawn row best) → va_S A s.heap H locs → ∀ (ls : Array Slot), lv_has ls 8 [(0, .ref (q 0)), (6, .int x44), (7, .int y45)] → W p l e rm6_years s m args below meth c H locs 0 0 Q (F0 m 181 ls []) := by
            intro k47 hk47 n47
            induction n47 with
            | zero =>
              intro y45 book_46 hf
              cases hf
            | succ n47 ih47 =>
              intro y45 book_46 hf H locs hP hD hS ls hl
              rw [L6_years_181] at hf
              refine lv_iload hx hb (zD_g DX6_years 97 rfl) (lv_at hl 2 rfl) ?_
              refine lv_sipush (v := (230 : Int32)) hx hb (zD_g DX6_years 98 rfl) (by decide) ?_
              refine lv_icmp_ge (tgt := 209) hx hb (zD_g DX6_years 99 rfl) (by decide) (fun c48 => ?_) (fun c48 => ?_)
              · replace hf := z_t c48 hf
                exact hk47 _ hf _ _ hP hD hS ls (lv_sub hl [1] rfl)
              · replace hf := z_f c48 hf
                refine lv_aload_n hx hb (zD_g DX6_years 100 rfl) rfl (lv_at hl 0 rfl) ?_
                refine va_get (D := D) (ci := 5) (v := .ref (q 1)) (C := RX6) (T := TX6) (N := 19) hx hb hts in6_years_6 hown hK.1 hP 0 rfl rfl 0 (by decide) (hts _ (List.mem_of_getElem? (i := 3) rfl)) (fun _ h9 => h9) rfl (zD_g DX6_years 101 rfl) ?_
                refine lv_iload hx hb (zD_g DX6_years 102 rfl) (lv_at hl 2 rfl) ?_
                refine lv_aload_n hx hb (zD_g DX6_years 103 rfl) rfl (lv_at hl 0 rfl) ?_
                refine va_get (D := D) (ci := 5) (v := .ref (q 4)) (C := RX6) (T := TX6) (N := 19) hx hb hts in6_years_6 hown hK.1 hP 0 rfl rfl 3 (by decide) (hts _ (List.mem_of_getElem? (i := 4) rfl)) (fun _ h9 => h9) rfl (zD_g DX6_years 104 rfl) ?_
                refine lv_iload hx hb (zD_g DX6_years 105 rfl) (lv_at hl 2 rfl) ?_
                obtain ⟨h49, hf⟩ := zg_s hf
                refine z_iald (k := y45.toNatClampNeg) hx hb hK.1 hP 4 0 rfl rfl h49 rfl (zD_g DX6_years 106 rfl) ?_
                refine lv_topi (fun x50 ex50 => ?_)
                replace hf := zl_s hf x50 ex50
                obtain ⟨h51, hf⟩ := zg_s hf
                refine z_iast (k := y45.toNatClampNeg) (ws' := (cMod cI cZ q quiet mabove mbelow typed mat mstart mtoken mvalue many (upd book_46 y45.toNatClampNeg x50) images mkept aside_24 refused text items drawn row best)) hx hb hK.1 hP hD hS 1 0 rfl rfl h51 rfl rfl (zD_g DX6_years 107 rfl) (fun H locs hP hD hS => ?_)
                refine lv_iinc (v := y45 + 1) (lv' := [(7, .int (y45 + 1)), (0, .ref (q 0)), (6, .int x44)]) (k := 2) hx hb (zD_g DX6_years 108 rfl) hl rfl rfl (by decide) rfl (fun ls hl => ?_)
                refine lv_goto (tgt := 181) hx hb (zD_g DX6_years 109 rfl) (by decide) ?_
                exact ih47 _ _ hf _ _ hP hD hS ls (lv_sub hl [1, 2, 0] rfl)
          refine hL47 _ (fun book_52 hf H locs hP hD hS ls hl => ?_) _ _ _ hf _ _ hP hD hS ls (lv_sub hl [2, 1, 0] rfl)
          refine lv_iload hx hb (zD_g DX6_years 110 rfl) (lv_at hl 0 rfl) ?_
          cases hf
          exact hret _ _ _ _ hP hD hS (zD_g DX6_years 111 rfl)
        · replace hf := z_t c16 hf
          refine lv_aload_n hx hb (zD_g DX6_years 23 rfl) rfl (lv_at hl 0 rfl) ?_
          obtain ⟨r53, refused_54, hc55, hf⟩ := zb2_s hf
          refine z_Vm (As := []) (rest := []) (ws' := (cMod cI cZ q quiet mabove mbelow typed mat mstart mtoken mvalue many book images mkept aside refused_54 text items drawn row best)) ⟨hx, hb, hml, hown, hts⟩ hK (c6_no (quiet := quiet) (mabove := mabove) (mbelow := mbelow) (typed := typed) (mat := mat) (mstart := mstart) (mtoken := mtoken) (mvalue := mvalue) (many := many) (book := book) (images := images) (mkept := mkept) (aside := aside) (refused := refused) (text := text) (items := items) (drawn := drawn) (row := row) (best := best) (q := q) hc55) (cwV 0 hts gX6_years_X6_no rfl rfl rfl hd6_no ⟨Nat.le_of_ble_eq_true rfl, Nat.le_of_ble_eq_true rfl⟩) hP hD hS hA 11 [0, 1, 2, 3, 4, 5, 6, 7, 8, 9, 10] [] [0, 1, 2, 3, 4, 5, 6, 7, 8, 9, 10] (by decide +kernel) rfl rfl rfl rfl rfl rfl rfl hl.1 rfl rfl (Nat.le_of_ble_eq_true rfl) (zD_g DX6_years 24 rfl) ⟨Nat.zero_le _, Nat.zero_le _⟩ (fun H locs hP hD hS => ?_)
          cases hf
          exact hret _ _ _ _ hP hD hS (zD_g DX6_years 25 rfl)
      · replace hf := z_t c15 hf
        refine lv_aload_n hx hb (zD_g DX6_years 15 rfl) rfl (lv_at hl 0 rfl) ?_
        obtain ⟨r56, refused_57, hc58, hf⟩ := zb2_s hf
        refine z_Vm (As := []) (rest := []) (ws' := (cMod cI cZ q quiet mabove mbelow typed mat mstart mtoken mvalue many book images mkept aside refused_57 text items drawn row best)) ⟨hx, hb, hml, hown, hts⟩ hK (c6_bad (quiet := quiet) (mabove := mabove) (mbelow := mbelow) (typed := typed) (mat := mat) (mstart := mstart) (mtoken := mtoken) (mvalue := mvalue) (many := many) (book := book) (images := images) (mkept := mkept) (aside := aside) (refused := refused) (text := text) (items := items) (drawn := drawn) (row := row) (best := best) (q := q) hc58) (cwV 0 hts gX6_years_X6_bad rfl rfl rfl hd6_bad ⟨Nat.le_of_ble_eq_true rfl, Nat.le_of_ble_eq_true rfl⟩) hP hD hS hA 11 [0, 1, 2, 3, 4, 5, 6, 7, 8, 9, 10] [] [0, 1, 2, 3, 4, 5, 6, 7, 8, 9, 10] (by decide +kernel) rfl rfl rfl rfl rfl rfl rfl hl.1 rfl rfl (Nat.le_of_ble_eq_true rfl) (zD_g DX6_years 16 rfl) ⟨Nat.zero_le _, Nat.zero_le _⟩ (fun H locs hP hD hS => ?_)
        cases hf
        exact hret _ _ _ _ hP hD hS (zD_g DX6_years 17 rfl)
abbrev dlX6_part : List (Nat × Instr × Nat) := [(0, .iload_n 1, 1), (1, .ifCond .ne 10, 3), (4, .aload_n 0, 1), (5, .getfield 228, 3), (8, .goto 20, 3), (11, .iload_n 1, 1), (12, .iconst 1, 1), (13, .if_icmp .ne 10, 3), (16, .aload_n 0, 1), (17, .getfield 41, 3), (20, .goto 8, 3), (23, .aload_n 0, 1), (24, .invokevirtual 66, 3), (27, .i2l, 1), (28, .lreturn, 1)]
theorem DX6_part : zD cX6_part dlX6_part = true := by decide +kernel
set_option maxRecDepth 20000 in
theorem ggX6_part_X6_bad : GoodIn wsX6_part wsX6_bad := goodIn_r _ [7, 8, 9, 10, 6, 11, 12, 13, 14, 15, 16, 17, 18, 19, 20, 21, 22, 23, 24, 25, 26, 27, 28, 29, 30, 31, 32] (by decide +kernel) (by decide +kernel)
set_option maxRecDepth 20000 in
theorem gX6_part_X6_bad : GoodIn wsX6_part (wsV RX6 66 RX6 yX6_bad wsX6_bad) := goodIn_app (goodIn_of _ (by decide +kernel)) ggX6_part_X6_bad
theorem hd6_part : yX6_part.cls = RX6 ∧ yX6_part.cls ≠ "java/lang/invoke/MethodHandle" ∧ yX6_part.cls ≠ "java/lang/invoke/VarHandle" ∧ (parseMethodDescriptor yX6_part.desc).map (fun d => d.parameters.length) = some 1 := by decide +kernel
abbrev rm6_part : Room := { frames := 2, cells := 0, slots := 0, locals := 42 }
theorem in6_part_6 : ∀ w ∈ wsX60, w ∈ wsX6_part := fun w h => List.mem_cons_of_mem _ (List.mem_append_right _ h)
set_option maxHeartbeats 4000000 in
set_option maxRecDepth 100000 in
theorem c6_part {l : Launch} {D : va_G} {cI cZ cB : ClassId} {q : Nat → Nat} {sz : Nat} {quiet : Int32} {mabove : Int64} {mbelow : Int64} {typed : Int32} {mat : Int32} {mstart : Int32} {mtoken : Int32} {mvalue : Int32} {many : Int32} {book : Nat → Int32} {images : Nat → Int32} {mkept : Nat → Int32} {aside : Nat → Int32} {refused : Nat → Int32} {text : Nat → Int32} {items : Nat → Int32} {drawn : Nat → Int32} {row : Nat → Int32} {best : Nat → Int32} {a_what : Int32} {r : Int64} {d_refused : Nat → Int32} (hf : f6_part quiet mabove mbelow refused a_what = some (r, d_refused)) : Met l yX6_part wsX6_part rm6_part (zPm D cI cZ cB [.ref (q 0), .int a_what] sz (cMod cI cZ q quiet mabove mbelow typed mat mstart mtoken mvalue many book images mkept aside refused text items drawn row best)) (zQm D (some (.long r)) (cMod cI cZ q quiet mabove mbelow typed mat mstart mtoken mvalue many book images mkept aside d_refused text items drawn row best) (va_A (cMod cI cZ q quiet mabove mbelow typed mat mstart mtoken mvalue many book images mkept aside refused text items drawn row best) sz)) 0 0 (va_A (cMod cI cZ q quiet mabove mbelow typed mat mstart mtoken mvalue many book images mkept aside refused text items drawn row best) sz) := by
  unfold f6_part at hf
  refine z_mutL RX6 (by decide +kernel) rfl rfl (Nat.le_of_ble_eq_true rfl) ?_
  intro p e s m args below meth c Q A ls hx hb hml hown hts hK hP hD hS hA hret hl
  have hl : lv_has ls 2 [(0, .ref (q 0)), (1, .int a_what)] := hl
  refine lv_iload_n hx hb (zD_g DX6_part 0 rfl) rfl (lv_at hl 1 rfl) ?_
  refine lv_if_ne (tgt := 11) hx hb (zD_g DX6_part 1 rfl) (by decide) (fun c1 => ?_) (fun c1 => ?_)
  · replace hf := z_f c1 hf
    refine lv_iload_n hx hb (zD_g DX6_part 5 rfl) rfl (lv_at hl 1 rfl) ?_
    refine lv_iconst (v := (1 : Int32)) hx hb (zD_g DX6_part 6 rfl) (by decide) ?_
    refine lv_icmp_ne (tgt := 23) hx hb (zD_g DX6_part 7 rfl) (by decide) (fun c2 => ?_) (fun c2 => ?_)
    · replace hf := z_f c2 hf
      refine lv_aload_n hx hb (zD_g DX6_part 11 rfl) rfl (lv_at hl 0 rfl) ?_
      obtain ⟨r3, refused_4, hc5, hf⟩ := zb2_s hf
      refine z_Vm (As := []) (rest := []) (ws' := (cMod cI cZ q quiet mabove mbelow typed mat mstart mtoken mvalue many book images mkept aside refused_4 text items drawn row best)) ⟨hx, hb, hml, hown, hts⟩ hK (c6_bad (quiet := quiet) (mabove := mabove) (mbelow := mbelow) (typed := typed) (mat := mat) (mstart := mstart) (mtoken := mtoken) (mvalue := mvalue) (many := many) (book := book) (images := images) (mkept := mkept) (aside := aside) (refused := refused) (text := text) (items := items) (drawn := drawn) (row := row) (best := best) (q := q) hc5) (cwV 0 hts gX6_part_X6_bad rfl rfl rfl hd6_bad ⟨Nat.le_of_ble_eq_true rfl, Nat.le_of_ble_eq_true rfl⟩) hP hD hS hA 11 [0, 1, 2, 3, 4, 5, 6, 7, 8, 9, 10] [] [0, 1, 2, 3, 4, 5, 6, 7, 8, 9, 10] (by decide +kernel) rfl rfl rfl rfl rfl rfl rfl hl.1 rfl rfl (Nat.le_of_ble_eq_true rfl) (zD_g DX6_part 12 rfl) ⟨Nat.zero_le _, Nat.zero_le _⟩ (fun H locs hP hD hS => ?_)
      refine lv_i2l (v := (r3).toInt64) hx hb (zD_g DX6_part 13 rfl) rfl ?_
      refine lv_topl (fun x6 ex6 => ?_)
      replace hf := zl_s hf x6 ex6
      cases hf
      exact hret _ _ _ _ hP hD hS (zD_g DX6_part 14 rfl)
    · replace hf := z_t c2 hf
      refine lv_aload_n hx hb (zD_g DX6_part 8 rfl) rfl (lv_at hl 0 rfl) ?_
      refine va_get (D := D) (ci := 5) (v := .long mbelow) (C := RX6) (T := TX6) (N := 19) hx hb hts in6_part_6 hown hK.1 hP 0 rfl rfl 7 (by decide) (hts _ (List.mem_of_getElem? (i := 2) rfl)) (fun _ h9 => h9) rfl (zD_g DX6_part 9 rfl) ?_
      refine lv_goto (tgt := 28) hx hb (zD_g DX6_part 10 rfl) (by decide) ?_
      cases hf
      exact hret _ _ _ _ hP hD hS (zD_g DX6_part 14 rfl)
  · replace hf := z_t c1 hf
    refine lv_aload_n hx hb (zD_g DX6_part 2 rfl) rfl (lv_at hl 0 rfl) ?_
    refine va_get (D := D) (ci := 5) (v := .long mabove) (C := RX6) (T := TX6) (N := 19) hx hb hts in6_part_6 hown hK.1 hP 0 rfl rfl 6 (by decide) (hts _ (List.mem_of_getElem? (i := 1) rfl)) (fun _ h9 => h9) rfl (zD_g DX6_part 3 rfl) ?_
    refine lv_goto (tgt := 28) hx hb (zD_g DX6_part 4 rfl) (by decide) ?_
    cases hf
    exact hret _ _ _ _ hP hD hS (zD_g DX6_part 14 rfl)
abbrev dlX6_image : List (Nat × Instr × Nat) := [(0, .iload_n 1, 1), (1, .i2l, 1), (2, .lconst 0, 1), (3, .lconst 1, 1), (4, .invokestatic 56, 3), (7, .ifCond .ne 8, 3), (10, .aload_n 0, 1), (11, .invokevirtual 66, 3), (14, .ireturn, 1), (15, .iconst 0, 1), (16, .istore_n 2, 1), (17, .iload_n 2, 1), (18, .sipush 230, 3), (21, .if_icmp .ge 27, 3), (24, .aload_n 0, 1), (25, .getfield 13, 3), (28, .sipush 230, 3), (31, .iload_n 1, 1), (32, .imul, 1), (33, .iload_n 2, 1), (34, .iadd, 1), (35, .aload_n 0, 1), (36, .getfield 7, 3), (39, .iload_n 2, 1), (40, .iaload, 1), (41, .iastore, 1), (42, .iinc 2 1, 3), (45, .goto (-28), 3), (48, .aload_n 0, 1), (49, .getfield 16, 3), (52, .iload_n 1, 1), (53, .iconst 1, 1), (54, .bastore, 1), (55, .iconst 1, 1), (56, .ireturn, 1)]
theorem DX6_image : zD cX6_image dlX6_image = true := by decide +kernel
set_option maxRecDepth 20000 in
theorem ggX6_image_X6_in : GoodIn wsX6_image wsX6_in := goodIn_r _ [7] (by decide +kernel) (by decide +kernel)
set_option maxRecDepth 20000 in
theorem gX6_image_X6_in : GoodIn wsX6_image (va_wsS RX6 56 yX6_in wsX6_in) := goodIn_app (goodIn_of _ (by decide +kernel)) ggX6_image_X6_in
set_option maxRecDepth 20000 in
theorem ggX6_image_X6_bad : GoodIn wsX6_image wsX6_bad := goodIn_r _ [11, 12, 13, 14, 6, 15, 16, 17, 18, 19, 20, 21, 22, 23, 24, 25, 26, 27, 28, 29, 30, 31, 32, 33, 34, 35, 36] (by decide +kernel) (by decide +kernel)
set_option maxRecDepth 20000 in
theorem gX6_image_X6_bad : GoodIn wsX6_image (wsV RX6 66 RX6 yX6_bad wsX6_bad) := goodIn_app (goodIn_of _ (by decide +kernel)) ggX6_image_X6_bad
theorem hd6_image : yX6_image.cls = RX6 ∧ yX6_image.cls ≠ "java/lang/invoke/MethodHandle" ∧ yX6_image.cls ≠ "java/lang/invoke/VarHandle" ∧ (parseMethodDescriptor yX6_image.desc).map (fun d => d.parameters.length) = some 1 := by decide +kernel
abbrev rm6_image : Room := { frames := 2, cells := 0, slots := 0, locals := 42 }
theorem in6_image_6 : ∀ w ∈ wsX60, w ∈ wsX6_image := fun w h => List.mem_cons_of_mem _ (List.mem_append_right _ h)
set_option maxHeartbeats 4000000 in
set_option maxRecDepth 100000 in
theorem c6_image {l : Launch} {D : va_G} {cI cZ cB : ClassId} {q : Nat → Nat} {sz : Nat} {quiet : Int32} {mabove : Int64} {mbelow : Int64} {typed : Int32} {mat : Int32} {mstart : Int32} {mtoken : Int32} {mvalue : Int32} {many : Int32} {book : Nat → Int32} {images : Nat → Int32} {mkept : Nat → Int32} {aside : Nat → Int32} {refused : Nat → Int32} {text : Nat → Int32} {items : Nat → Int32} {drawn : Nat → Int32} {row : Nat → Int32} {best : Nat → Int32} {a_i : Int32} {r : Int32} {d_images : Nat → Int32} {d_mkept : Nat → Int32} {d_refused : Nat → Int32} (hf : f6_image quiet book images mkept refused a_i = some (r, d_images, d_mkept, d_refused)) : Met l yX6_image wsX6_image rm6_image (zPm D cI cZ cB [.ref (q 0), .int a_i] sz (cMod cI cZ q quiet mabove mbelow typed mat mstart mtoken mvalue many book images mkept aside refused text items drawn row best)) (zQm D (some (.int r)) (cMod cI cZ q quiet mabove mbelow typed mat mstart mtoken mvalue many book d_images d_mkept aside d_refused text items drawn row best) (va_A (cMod cI cZ q quiet mabove mbelow typed mat mstart mtoken mvalue many book images mkept aside refused text items drawn row best) sz)) 0 0 (va_A (cMod cI cZ q quiet mabove mbelow typed mat mstart mtoken mvalue many book images mkept aside refused text items drawn row best) sz) := by
  unfold f6_image at hf
  refine z_mutI RX6 (by decide +kernel) rfl rfl (Nat.le_of_ble_eq_true rfl) ?_
  intro p e s m args below meth c Q A ls hx hb hml hown hts hK hP hD hS hA hret hl
  have hl : lv_has ls 3 [(0, .ref (q 0)), (1, .int a_i)] := hl
  refine lv_iload_n hx hb (zD_g DX6_image 0 rfl) rfl (lv_at hl 1 rfl) ?_
  refine lv_i2l (v := (a_i).toInt64) hx hb (zD_g DX6_image 1 rfl) rfl ?_
  refine lv_lconst (v := (0 : Int64)) hx hb (zD_g DX6_image 2 rfl) (by decide) ?_
  refine lv_lconst (v := (1 : Int64)) hx hb (zD_g DX6_image 3 rfl) (by decide) ?_
  obtain ⟨r1, hc2, hf⟩ := zb1_s hf
  refine z_Sp (As := [.long ((a_i).toInt64), .long (0 : Int64), .long (1 : Int64)]) (rest := []) ⟨hx, hb, hml, hown, hts⟩ hK (c6_in  hc2) (va_cwS 3 hts gX6_image_X6_in rfl rfl rfl hd6_in ⟨Nat.le_of_ble_eq_true rfl, Nat.le_of_ble_eq_true rfl⟩) (hP.sub [] rfl) rfl hl.1 rfl rfl (Nat.le_of_ble_eq_true rfl) (zD_g DX6_image 4 rfl) ⟨Nat.zero_le _, Nat.zero_le _⟩ ?_
  refine lv_if_ne (tgt := 15) hx hb (zD_g DX6_image 5 rfl) (by decide) (fun c3 => ?_) (fun c3 => ?_)
  · replace hf := z_f c3 hf
    refine lv_iconst (v := (0 : Int32)) hx hb (zD_g DX6_image 9 rfl) (by decide) ?_
    refine lv_istore_n (lv' := [(2, .int (0 : Int32)), (0, .ref (q 0)), (1, .int a_i)]) hx hb (zD_g DX6_image 10 rfl) rfl hl (by decide) rfl (fun ls hl => ?_)
    have hL6 : ∀ (k6 : (Nat → Int32) → Option (Int32 × (Nat → Int32) × (Nat → Int32) × (Nat → Int32))) (hk6 : ∀ (images_11 : Nat → Int32), k6 images_11 = some (r, d_images, d_mkept, d_refused) → ∀ (H : Heap) (locs : List Loc), va_P D vwCl (cMod cI cZ q quiet mabove mbelow typed mat mstart mtoken mvalue many book images_11 mkept aside refused text items drawn row best) H → va_D A (cMod cI cZ q quiet mabove mbelow typed mat mstart mtoken mvalue many book images_11 mkept aside refused text items drawn row best) → va_S A s.heap H locs → ∀ (ls : Array Slot), lv_has ls 3 [(0, .ref (q 0)), (1, .int a_i)] → W p l e rm6_image s m args below meth c H locs 0 0 Q (F0 m 48 ls [])) (n6 : Nat) (y4 : Int32) (images_5 : Nat → Int32), L6_image_17 k6 book a_i n6 y4 images_5 = some (r, d_images, d_mkept, d_refused) → ∀ (H : Heap) (locs : List Loc), va_P D vwCl (cMod cI cZ q quiet mabove mbelow typed mat mstart mtoken mvalue many book images_5 mkept aside refused text items drawn row best) H → va_D A (cMod cI cZ q quiet mabove mbelow typed mat mstart mtoken mvalue many book images_5 mkept aside refused text items drawn row best) → va_S A s.heap H locs → ∀ (ls : Array Slot), lv_has ls 3 [(0, .ref (q 0)), (1, .int a_i), (2, .int y4)] → W p l e rm6_image s m args below meth c H locs 0 0 Q (F0 m 17 ls []) := by
      intro k6 hk6 n6
      induction n6 with
      | zero =>
        intro y4 images_5 hf
        cases hf
      | succ n6 ih6 =>
        intro y4 images_5 hf H locs hP hD hS ls hl
        rw [L6_image_17] at hf
        refine lv_iload_n hx hb (zD_g DX6_image 11 rfl) rfl (lv_at hl 2 rfl) ?_
        refine lv_sipush (v := (230 : Int32)) hx hb (zD_g DX6_image 12 rfl) (by decide) ?_
        refine lv_icmp_ge (tgt := 48) hx hb (zD_g DX6_image 13 rfl) (by decide) (fun c7 => ?_) (fun c7 => ?_)
        · replace hf := z_t c7 hf
          exact hk6 _ hf _ _ hP hD hS ls (lv_sub hl [0, 1] rfl)
        · replace hf := z_f c7 hf
          refine lv_aload_n hx hb (zD_g DX6_image 14 rfl) rfl (lv_at hl 0 rfl) ?_
          refine va_get (D := D) (ci := 5) (v := .ref (q 2)) (C := RX6) (T := TX6) (N := 19) hx hb hts in6_image_6 hown hK.1 hP 0 rfl rfl 1 (by decide) (hts _ (List.mem_of_getElem? (i := 1) rfl)) (fun _ h9 => h9) rfl (zD_g DX6_image 15 rfl) ?_
          refine lv_sipush (v := (230 : Int32)) hx hb (zD_g DX6_image 16 rfl) (by decide) ?_
          refine lv_iload_n hx hb (zD_g DX6_image 17 rfl) rfl (lv_at hl 1 rfl) ?_
          refine lv_imul hx hb (zD_g DX6_image 18 rfl) ?_
          refine lv_iload_n hx hb (zD_g DX6_image 19 rfl) rfl (lv_at hl 2 rfl) ?_
          refine lv_iadd hx hb (zD_g DX6_image 20 rfl) ?_
          refine lv_aload_n hx hb (zD_g DX6_image 21 rfl) rfl (lv_at hl 0 rfl) ?_
          refine va_get (D := D) (ci := 5) (v := .ref (q 1)) (C := RX6) (T := TX6) (N := 19) hx hb hts in6_image_6 hown hK.1 hP 0 rfl rfl 0 (by decide) (hts _ (List.mem_of_getElem? (i := 2) rfl)) (fun _ h9 => h9) rfl (zD_g DX6_image 22 rfl) ?_
          refine lv_iload_n hx hb (zD_g DX6_image 23 rfl) rfl (lv_at hl 2 rfl) ?_
          obtain ⟨h8, hf⟩ := zg_s hf
          refine z_iald (k := y4.toNatClampNeg) hx hb hK.1 hP 1 0 rfl rfl h8 rfl (zD_g DX6_image 24 rfl) ?_
          refine lv_topi (fun x9 ex9 => ?_)
          replace hf := zl_s hf x9 ex9
          obtain ⟨h10, hf⟩ := zg_s hf
          refine z_iast (k := (((230 : Int32) * a_i) + y4).toNatClampNeg) (ws' := (cMod cI cZ q quiet mabove mbelow typed mat mstart mtoken mvalue many book (upd images_5 ((((230 : Int32) * a_i) + y4).toNatClampNeg) x9) mkept aside refused text items drawn row best)) hx hb hK.1 hP hD hS 2 0 rfl rfl h10 rfl rfl (zD_g DX6_image 25 rfl) (fun H locs hP hD hS => ?_)
          refine lv_iinc (v := y4 + 1) (lv' := [(2, .int (y4 + 1)), (0, .ref (q 0)), (1, .int a_i)]) (k := 2) hx hb (zD_g DX6_image 26 rfl) hl rfl rfl (by decide) rfl (fun ls hl => ?_)
          refine lv_goto (tgt := 17) hx hb (zD_g DX6_image 27 rfl) (by decide) ?_
          exact ih6 _ _ hf _ _ hP hD hS ls (lv_sub hl [1, 2, 0] rfl)
    refine hL6 _ (fun images_11 hf H locs hP hD hS ls hl => ?_) _ _ _ hf _ _ hP hD hS ls (lv_sub hl [1, 2, 0] rfl)
    refine lv_aload_n hx hb (zD_g DX6_image 28 rfl) rfl (lv_at hl 0 rfl) ?_
    refine va_get (D := D) (ci := 5) (v := .ref (q 3)) (C := RX6) (T := TX6) (N := 19) hx hb hts in6_image_6 hown hK.1 hP 0 rfl rfl 2 (by decide) (hts _ (List.mem_of_getElem? (i := 3) rfl)) (fun _ h9 => h9) rfl (zD_g DX6_image 29 rfl) ?_
    refine lv_iload_n hx hb (zD_g DX6_image 30 rfl) rfl (lv_at hl 1 rfl) ?_
    refine lv_iconst (v := (1 : Int32)) hx hb (zD_g DX6_image 31 rfl) (by decide) ?_
    obtain ⟨h12, hf⟩ := zg_s hf
    refine z_zast (k := a_i.toNatClampNeg) (ws' := (cMod cI cZ q quiet mabove mbelow typed mat mstart mtoken mvalue many book images_11 (upd mkept a_i.toNatClampNeg (vp_nar .boolean (1 : Int32))) aside refused text items drawn row best)) hx hb hK.1 hP hD hS 3 1 rfl rfl h12 rfl rfl (zD_g DX6_image 32 rfl) (fun H locs hP hD hS => ?_)
    refine lv_iconst (v := (1 : Int32)) hx hb (zD_g DX6_image 33 rfl) (by decide) ?_
    cases hf
    exact hret _ _ _ _ hP hD hS (zD_g DX6_image 34 rfl)
  · replace hf := z_t c3 hf
    refine lv_aload_n hx hb (zD_g DX6_image 6 rfl) rfl (lv_at hl 0 rfl) ?_
    obtain ⟨r13, refused_14, hc15, hf⟩ := zb2_s hf
    refine z_Vm (As := []) (rest := []) (ws' := (cMod cI cZ q quiet mabove mbelow typed mat mstart mtoken mvalue many book images mkept aside refused_14 text items drawn row best)) ⟨hx, hb, hml, hown, hts⟩ hK (c6_bad (quiet := quiet) (mabove := mabove) (mbelow := mbelow) (typed := typed) (mat := mat) (mstart := mstart) (mtoken := mtoken) (mvalue := mvalue) (many := many) (book := book) (images := images) (mkept := mkept) (aside := aside) (refused := refused) (text := text) (items := items) (drawn := drawn) (row := row) (best := best) (q := q) hc15) (cwV 0 hts gX6_image_X6_bad rfl rfl rfl hd6_bad ⟨Nat.le_of_ble_eq_true rfl, Nat.le_of_ble_eq_true rfl⟩) hP hD hS hA 11 [0, 1, 2, 3, 4, 5, 6, 7, 8, 9, 10] [] [0, 1, 2, 3, 4, 5, 6, 7, 8, 9, 10] (by decide +kernel) rfl rfl rfl rfl rfl rfl rfl hl.1 rfl rfl (Nat.le_of_ble_eq_true rfl) (zD_g DX6_image 7 rfl) ⟨Nat.zero_le _, Nat.zero_le _⟩ (fun H locs hP hD hS => ?_)
    cases hf
    exact hret _ _ _ _ hP hD hS (zD_g DX6_image 8 rfl)
abbrev dlX6_from : List (Nat × Instr × Nat) := [(0, .iload_n 1, 1), (1, .i2l, 1), (2, .lconst 0, 1), (3, .lconst 1, 1), (4, .invokestatic 56, 3), (7, .ifCond .ne 8, 3), (10, .aload_n 0, 1), (11, .invokevirtual 66, 3), (14, .ireturn, 1), (15, .aload_n 0, 1), (16, .getfield 16, 3), (19, .iload_n 1, 1), (20, .baload, 1), (21, .ifCond .ne 8, 3), (24, .aload_n 0, 1), (25, .invokevirtual 94, 3), (28, .ireturn, 1), (29, .iconst 0, 1), (30, .istore_n 2, 1), (31, .iload_n 2, 1), (32, .sipush 230, 3), (35, .if_icmp .ge 27, 3), (38, .aload_n 0, 1), (39, .getfield 7, 3), (42, .iload_n 2, 1), (43, .aload_n 0, 1), (44, .getfield 13, 3), (47, .sipush 230, 3), (50, .iload_n 1, 1), (51, .imul, 1), (52, .iload_n 2, 1), (53, .iadd, 1), (54, .iaload, 1), (55, .iastore, 1), (56, .iinc 2 1, 3), (59, .goto (-28), 3), (62, .iconst 1, 1), (63, .ireturn, 1)]
theorem DX6_from : zD cX6_from dlX6_from = true := by decide +kernel
set_option maxRecDepth 20000 in
theorem ggX6_from_X6_in : GoodIn wsX6_from wsX6_in := goodIn_r _ [7] (by decide +kernel) (by decide +kernel)
set_option maxRecDepth 20000 in
theorem gX6_from_X6_in : GoodIn wsX6_from (va_wsS RX6 56 yX6_in wsX6_in) := goodIn_app (goodIn_of _ (by decide +kernel)) ggX6_from_X6_in
set_option maxRecDepth 20000 in
theorem ggX6_from_X6_bad : GoodIn wsX6_from wsX6_bad := goodIn_r _ [11, 12, 13, 14, 6, 15, 16, 17, 22, 23, 24, 25, 26, 27, 28, 29, 30, 31, 32, 33, 34, 35, 36, 37, 38, 39, 40] (by decide +kernel) (by decide +kernel)
set_option maxRecDepth 20000 in
theorem gX6_from_X6_bad : GoodIn wsX6_from (wsV RX6 66 RX6 yX6_bad wsX6_bad) := goodIn_app (goodIn_of _ (by decide +kernel)) ggX6_from_X6_bad
set_option maxRecDepth 20000 in
theorem ggX6_from_X6_no : GoodIn wsX6_from wsX6_no := goodIn_r _ [21, 12, 13, 14, 6, 15, 16, 17, 22, 23, 24, 25, 26, 27, 28, 29, 30, 31, 32, 33, 34, 35, 36, 37, 38, 39, 40] (by decide +kernel) (by decide +kernel)
set_option maxRecDepth 20000 in
theorem gX6_from_X6_no : GoodIn wsX6_from (wsV RX6 94 RX6 yX6_no wsX6_no) := goodIn_app (goodIn_of _ (by decide +kernel)) ggX6_from_X6_no
theorem hd6_from : yX6_from.cls = RX6 ∧ yX6_from.cls ≠ "java/lang/invoke/MethodHandle" ∧ yX6_from.cls ≠ "java/lang/invoke/VarHandle" ∧ (parseMethodDescriptor yX6_from.desc).map (fun d => d.parameters.length) = some 1 := by decide +kernel
abbrev rm6_from : Room := { frames := 2, cells := 0, slots := 0, locals := 42 }
theorem in6_from_6 : ∀ w ∈ wsX60, w ∈ wsX6_from := fun w h => List.mem_cons_of_mem _ (List.mem_append_right _ h)
set_option maxHeartbeats 4000000 in
set_option maxRecDepth 100000 in
theorem c6_from {l : Launch} {D : va_G} {cI cZ cB : ClassId} {q : Nat → Nat} {sz : Nat} {quiet : Int32} {mabove : Int64} {mbelow : Int64} {typed : Int32} {mat : Int32} {mstart : Int32} {mtoken : Int32} {mvalue : Int32} {many : Int32} {book : Nat → Int32} {images : Nat → Int32} {mkept : Nat → Int32} {aside : Nat → Int32} {refused : Nat → Int32} {text : Nat → Int32} {items : Nat → Int32} {drawn : Nat → Int32} {row : Nat → Int32} {best : Nat → Int32} {a_i : Int32} {r : Int32} {d_book : Nat → Int32} {d_refused : Nat → Int32} (hf : f6_from quiet book images mkept refused a_i = some (r, d_book, d_refused)) : Met l yX6_from wsX6_from rm6_from (zPm D cI cZ cB [.ref (q 0), .int a_i] sz (cMod cI cZ q quiet mabove mbelow typed mat mstart mtoken mvalue many book images mkept aside refused text items drawn row best)) (zQm D (some (.int r)) (cMod cI cZ q quiet mabove mbelow typed mat mstart mtoken mvalue many d_book images mkept aside d_refused text items drawn row best) (va_A (cMod cI cZ q quiet mabove mbelow typed mat mstart mtoken mvalue many book images mkept aside refused text items drawn row best) sz)) 0 0 (va_A (cMod cI cZ q quiet mabove mbelow typed mat mstart mtoken mvalue many book images mkept aside refused text items drawn row best) sz) := by
  unfold f6_from at hf
  refine z_mutI RX6 (by decide +kernel) rfl rfl (Nat.le_of_ble_eq_true rfl) ?_
  intro p e s m args below meth c Q A ls hx hb hml hown hts hK hP hD hS hA hret hl
  have hl : lv_has ls 3 [(0, .ref (q 0)), (1, .int a_i)] := hl
  refine lv_iload_n hx hb (zD_g DX6_from 0 rfl) rfl (lv_at hl 1 rfl) ?_
  refine lv_i2l (v := (a_i).toInt64) hx hb (zD_g DX6_from 1 rfl) rfl ?_
  refine lv_lconst (v := (0 : Int64)) hx hb (zD_g DX6_from 2 rfl) (by decide) ?_
  refine lv_lconst (v := (1 : Int64)) hx hb (zD_g DX6_from 3 rfl) (by decide) ?_
  obtain ⟨r1, hc2, hf⟩ := zb1_s hf
  refine z_Sp (As := [.long ((a_i).toInt64), .long (0 : Int64), .long (1 : Int64)]) (rest := []) ⟨hx, hb, hml, hown, hts⟩ hK (c6_in  hc2) (va_cwS 3 hts gX6_from_X6_in rfl rfl rfl hd6_in ⟨Nat.le_of_ble_eq_true rfl, Nat.le_of_ble_eq_true rfl⟩) (hP.sub [] rfl) rfl hl.1 rfl rfl (Nat.le_of_ble_eq_true rfl) (zD_g DX6_from 4 rfl) ⟨Nat.zero_le _, Nat.zero_le _⟩ ?_
  refine lv_if_ne (tgt := 15) hx hb (zD_g DX6_from 5 rfl) (by decide) (fun c3 => ?_) (fun c3 => ?_)
  · replace hf := z_f c3 hf
    refine lv_aload_n hx hb (zD_g DX6_from 9 rfl) rfl (lv_at hl 0 rfl) ?_
    refine va_get (D := D) (ci := 5) (v := .ref (q 3)) (C := RX6) (T := TX6) (N := 19) hx hb hts in6_from_6 hown hK.1 hP 0 rfl rfl 2 (by decide) (hts _ (List.mem_of_getElem? (i := 1) rfl)) (fun _ h9 => h9) rfl (zD_g DX6_from 10 rfl) ?_
    refine lv_iload_n hx hb (zD_g DX6_from 11 rfl) rfl (lv_at hl 1 rfl) ?_
    obtain ⟨h4, hf⟩ := zg_s hf
    refine z_zald (k := a_i.toNatClampNeg) hx hb hK.1 hP 3 1 rfl rfl h4 rfl (zD_g DX6_from 12 rfl) ?_
    refine lv_if_ne (tgt := 29) hx hb (zD_g DX6_from 13 rfl) (by decide) (fun c5 => ?_) (fun c5 => ?_)
    · replace hf := z_f c5 hf
      refine lv_iconst (v := (0 : Int32)) hx hb (zD_g DX6_from 17 rfl) (by decide) ?_
      refine lv_istore_n (lv' := [(2, .int (0 : Int32)), (0, .ref (q 0)), (1, .int a_i)]) hx hb (zD_g DX6_from 18 rfl) rfl hl (by decide) rfl (fun ls hl => ?_)
      have hL8 : ∀ (k8 : (Nat → Int32) → Option (Int32 × (Nat → Int32) × (Nat → Int32))) (hk8 : ∀ (book_13 : Nat → Int32), k8 book_13 = some (r, d_book, d_refused) → ∀ (H : Heap) (locs : List Loc), va_P D vwCl (cMod cI cZ q quiet mabove mbelow typed mat mstart mtoken mvalue many book_13 images mkept aside refused text items drawn row best) H → va_D A (cMod cI cZ q quiet mabove mbelow typed mat mstart mtoken mvalue many book_13 images mkept aside refused text items drawn row best) → va_S A s.heap H locs → ∀ (ls : Array Slot), lv_has ls 3 [] → W p l e rm6_from s m args below meth c H locs 0 0 Q (F0 m 62 ls [])) (n8 : Nat) (y6 : Int32) (book_7 : Nat → Int32), L6_from_31 k8 images a_i n8 y6 book_7 = some (r, d_book, d_refused) → ∀ (H : Heap) (locs : List Loc), va_P D vwCl (cMod cI cZ q quiet mabove mbelow typed mat mstart mtoken mvalue many book_7 images mkept aside refused text items drawn row best) H → va_D A (cMod cI cZ q quiet mabove mbelow typed mat mstart mtoken mvalue many book_7 images mkept aside refused text items drawn row best) → va_S A s.heap H locs → ∀ (ls : Array Slot), lv_has ls 3 [(0, .ref (q 0)), (1, .int a_i), (2, .int y6)] → W p l e rm6_from s m args below meth c H locs 0 0 Q (F0 m 31 ls []) := by
        intro k8 hk8 n8
        induction n8 with
        | zero =>
          intro y6 book_7 hf
          cases hf
        | succ n8 ih8 =>
          intro y6 book_7 hf H locs hP hD hS ls hl
          rw [L6_from_31] at hf
          refine lv_iload_n hx hb (zD_g DX6_from 19 rfl) rfl (lv_at hl 2 rfl) ?_
          refine lv_sipush (v := (230 : Int32)) hx hb (zD_g DX6_from 20 rfl) (by decide) ?_
          refine lv_icmp_ge (tgt := 62) hx hb (zD_g DX6_from 21 rfl) (by decide) (fun c9 => ?_) (fun c9 => ?_)
          · replace hf := z_t c9 hf
            exact hk8 _ hf _ _ hP hD hS ls (lv_sub hl [] rfl)
          · replace hf := z_f c9 hf
            refine lv_aload_n hx hb (zD_g DX6_from 22 rfl) rfl (lv_at hl 0 rfl) ?_
            refine va_get (D := D) (ci := 5) (v := .ref (q 1)) (C := RX6) (T := TX6) (N := 19) hx hb hts in6_from_6 hown hK.1 hP 0 rfl rfl 0 (by decide) (hts _ (List.mem_of_getElem? (i := 2) rfl)) (fun _ h9 => h9) rfl (zD_g DX6_from 23 rfl) ?_
            refine lv_iload_n hx hb (zD_g DX6_from 24 rfl) rfl (lv_at hl 2 rfl) ?_
            refine lv_aload_n hx hb (zD_g DX6_from 25 rfl) rfl (lv_at hl 0 rfl) ?_
            refine va_get (D := D) (ci := 5) (v := .ref (q 2)) (C := RX6) (T := TX6) (N := 19) hx hb hts in6_from_6 hown hK.1 hP 0 rfl rfl 1 (by decide) (hts _ (List.mem_of_getElem? (i := 3) rfl)) (fun _ h9 => h9) rfl (zD_g DX6_from 26 rfl) ?_
            refine lv_sipush (v := (230 : Int32)) hx hb (zD_g DX6_from 27 rfl) (by decide) ?_
            refine lv_iload_n hx hb (zD_g DX6_from 28 rfl) rfl (lv_at hl 1 rfl) ?_
            refine lv_imul hx hb (zD_g DX6_from 29 rfl) ?_
            refine lv_iload_n hx hb (zD_g DX6_from 30 rfl) rfl (lv_at hl 2 rfl) ?_
            refine lv_iadd hx hb (zD_g DX6_from 31 rfl) ?_
            obtain ⟨h10, hf⟩ := zg_s hf
            refine z_iald (k := (((230 : Int32) * a_i) + y6).toNatClampNeg) hx hb hK.1 hP 2 0 rfl rfl h10 rfl (zD_g DX6_from 32 rfl) ?_
            refine lv_topi (fun x11 ex11 => ?_)
            replace hf := zl_s hf x11 ex11
            obtain ⟨h12, hf⟩ := zg_s hf
            refine z_iast (k := y6.toNatClampNeg) (ws' := (cMod cI cZ q quiet mabove mbelow typed mat mstart mtoken mvalue many (upd book_7 y6.toNatClampNeg x11) images mkept aside refused text items drawn row best)) hx hb hK.1 hP hD hS 1 0 rfl rfl h12 rfl rfl (zD_g DX6_from 33 rfl) (fun H locs hP hD hS => ?_)
            refine lv_iinc (v := y6 + 1) (lv' := [(2, .int (y6 + 1)), (0, .ref (q 0)), (1, .int a_i)]) (k := 2) hx hb (zD_g DX6_from 34 rfl) hl rfl rfl (by decide) rfl (fun ls hl => ?_)
            refine lv_goto (tgt := 31) hx hb (zD_g DX6_from 35 rfl) (by decide) ?_
            exact ih8 _ _ hf _ _ hP hD hS ls (lv_sub hl [1, 2, 0] rfl)
      refine hL8 _ (fun book_13 hf H locs hP hD hS ls hl => ?_) _ _ _ hf _ _ hP hD hS ls (lv_sub hl [1, 2, 0] rfl)
      refine lv_iconst (v := (1 : Int32)) hx hb (zD_g DX6_from 36 rfl) (by decide) ?_
      cases hf
      exact hret _ _ _ _ hP hD hS (zD_g DX6_from 37 rfl)
    · replace hf := z_t c5 hf
      refine lv_aload_n hx hb (zD_g DX6_from 14 rfl) rfl (lv_at hl 0 rfl) ?_
      obtain ⟨r14, refused_15, hc16, hf⟩ := zb2_s hf
      refine z_Vm (As := []) (rest := []) (ws' := (cMod cI cZ q quiet mabove mbelow typed mat mstart mtoken mvalue many book images mkept aside refused_15 text items drawn row best)) ⟨hx, hb, hml, hown, hts⟩ hK (c6_no (quiet := quiet) (mabove := mabove) (mbelow := mbelow) (typed := typed) (mat := mat) (mstart := mstart) (mtoken := mtoken) (mvalue := mvalue) (many := many) (book := book) (images := images) (mkept := mkept) (aside := aside) (refused := refused) (text := text) (items := items) (drawn := drawn) (row := row) (best := best) (q := q) hc16) (cwV 0 hts gX6_from_X6_no rfl rfl rfl hd6_no ⟨Nat.le_of_ble_eq_true rfl, Nat.le_of_ble_eq_true rfl⟩) hP hD hS hA 11 [0, 1, 2, 3, 4, 5, 6, 7, 8, 9, 10] [] [0, 1, 2, 3, 4, 5, 6, 7, 8, 9, 10] (by decide +kernel) rfl rfl rfl rfl rfl rfl rfl hl.1 rfl rfl (Nat.le_of_ble_eq_true rfl) (zD_g DX6_from 15 rfl) ⟨Nat.zero_le _, Nat.zero_le _⟩ (fun H locs hP hD hS => ?_)
      cases hf
      exact hret _ _ _ _ hP hD hS (zD_g DX6_from 16 rfl)
  · replace hf := z_t c3 hf
    refine lv_aload_n hx hb (zD_g DX6_from 6 rfl) rfl (lv_at hl 0 rfl) ?_
    obtain ⟨r17, refused_18, hc19, hf⟩ := zb2_s hf
    refine z_Vm (As := []) (rest := []) (ws' := (cMod cI cZ q quiet mabove mbelow typed mat mstart mtoken mvalue many book images mkept aside refused_18 text items drawn row best)) ⟨hx, hb, hml, hown, hts⟩ hK (c6_bad (quiet := quiet) (mabove := mabove) (mbelow := mbelow) (typed := typed) (mat := mat) (mstart := mstart) (mtoken := mtoken) (mvalue := mvalue) (many := many) (book := book) (images := images) (mkept := mkept) (aside := aside) (refused := refused) (text := text) (items := items) (drawn := drawn) (row := row) (best := best) (q := q) hc19) (cwV 0 hts gX6_from_X6_bad rfl rfl rfl hd6_bad ⟨Nat.le_of_ble_eq_true rfl, Nat.le_of_ble_eq_true rfl⟩) hP hD hS hA 11 [0, 1, 2, 3, 4, 5, 6, 7, 8, 9, 10] [] [0, 1, 2, 3, 4, 5, 6, 7, 8, 9, 10] (by decide +kernel) rfl rfl rfl rfl rfl rfl rfl hl.1 rfl rfl (Nat.le_of_ble_eq_true rfl) (zD_g DX6_from 7 rfl) ⟨Nat.zero_le _, Nat.zero_le _⟩ (fun H locs hP hD hS => ?_)
    cases hf
    exact hret _ _ _ _ hP hD hS (zD_g DX6_from 8 rfl)
abbrev dlX6_status : List (Nat × Instr × Nat) := [(0, .iload_n 1, 1), (1, .i2l, 1), (2, .lconst 0, 1), (3, .ldc2_w 103, 3), (6, .invokestatic 56, 3), (9, .ifCond .eq 12, 3), (12, .aload_n 0, 1), (13, .getfield 23, 3), (16, .iload_n 1, 1), (17, .iaload, 1), (18, .goto 9, 3), (21, .aload_n 0, 1), (22, .iconst 0, 1), (23, .iconst (-1), 1), (24, .invokevirtual 52, 3), (27, .ireturn, 1)]
theorem DX6_status : zD cX6_status dlX6_status = true := by decide +kernel
set_option maxRecDepth 20000 in
theorem ggX6_status_X6_in : GoodIn wsX6_status wsX6_in := goodIn_r _ [6] (by decide +kernel) (by decide +kernel)
set_option maxRecDepth 20000 in
theorem gX6_status_X6_in : GoodIn wsX6_status (va_wsS RX6 56 yX6_in wsX6_in) := goodIn_app (goodIn_of _ (by decide +kernel)) ggX6_status_X6_in
set_option maxRecDepth 20000 in
theorem ggX6_status_X6_refuses : GoodIn wsX6_status wsX6_refuses := goodIn_r _ [10, 2, 11, 12, 13, 14, 15, 16, 17, 18, 19, 20, 21, 22, 23, 24, 25, 26, 27, 28, 29, 30] (by decide +kernel) (by decide +kernel)
set_option maxRecDepth 20000 in
theorem gX6_status_X6_refuses : GoodIn wsX6_status (wsV RX6 52 RX6 yX6_refuses wsX6_refuses) := goodIn_app (goodIn_of _ (by decide +kernel)) ggX6_status_X6_refuses
theorem hd6_status : yX6_status.cls = RX6 ∧ yX6_status.cls ≠ "java/lang/invoke/MethodHandle" ∧ yX6_status.cls ≠ "java/lang/invoke/VarHandle" ∧ (parseMethodDescriptor yX6_status.desc).map (fun d => d.parameters.length) = some 1 := by decide +kernel
abbrev rm6_status : Room := { frames := 1, cells := 0, slots := 0, locals := 25 }
theorem in6_status_6 : ∀ w ∈ wsX60, w ∈ wsX6_status := fun w h => List.mem_cons_of_mem _ (List.mem_append_right _ h)
set_option maxHeartbeats 4000000 in
set_option maxRecDepth 100000 in
theorem c6_status {l : Launch} {D : va_G} {cI cZ cB : ClassId} {q : Nat → Nat} {sz : Nat} {quiet : Int32} {mabove : Int64} {mbelow : Int64} {typed : Int32} {mat : Int32} {mstart : Int32} {mtoken : Int32} {mvalue : Int32} {many : Int32} {book : Nat → Int32} {images : Nat → Int32} {mkept : Nat → Int32} {aside : Nat → Int32} {refused : Nat → Int32} {text : Nat → Int32} {items : Nat → Int32} {drawn : Nat → Int32} {row : Nat → Int32} {best : Nat → Int32} {a_what : Int32} {r : Int32} {d_refused : Nat → Int32} (hf : f6_status quiet refused a_what = some (r, d_refused)) : Met l yX6_status wsX6_status rm6_status (zPm D cI cZ cB [.ref (q 0), .int a_what] sz (cMod cI cZ q quiet mabove mbelow typed mat mstart mtoken mvalue many book images mkept aside refused text items drawn row best)) (zQm D (some (.int r)) (cMod cI cZ q quiet mabove mbelow typed mat mstart mtoken mvalue many book images mkept aside d_refused text items drawn row best) (va_A (cMod cI cZ q quiet mabove mbelow typed mat mstart mtoken mvalue many book images mkept aside refused text items drawn row best) sz)) 0 0 (va_A (cMod cI cZ q quiet mabove mbelow typed mat mstart mtoken mvalue many book images mkept aside refused text items drawn row best) sz) := by
  unfold f6_status at hf
  refine z_mutI RX6 (by decide +kernel) rfl rfl (Nat.le_of_ble_eq_true rfl) ?_
  intro p e s m args below meth c Q A ls hx hb hml hown hts hK hP hD hS hA hret hl
  have hl : lv_has ls 2 [(0, .ref (q 0)), (1, .int a_what)] := hl
  refine lv_iload_n hx hb (zD_g DX6_status 0 rfl) rfl (lv_at hl 1 rfl) ?_
  refine lv_i2l (v := (a_what).toInt64) hx hb (zD_g DX6_status 1 rfl) rfl ?_
  refine lv_lconst (v := (0 : Int64)) hx hb (zD_g DX6_status 2 rfl) (by decide) ?_
  refine lv_ldc2 (v := (2 : Int64)) hx hb hown (hts _ (List.mem_of_getElem? (i := 1) rfl)) (zD_g DX6_status 3 rfl) ?_
  obtain ⟨r1, hc2, hf⟩ := zb1_s hf
  refine z_Sp (As := [.long ((a_what).toInt64), .long (0 : Int64), .long (2 : Int64)]) (rest := []) ⟨hx, hb, hml, hown, hts⟩ hK (c6_in  hc2) (va_cwS 3 hts gX6_status_X6_in rfl rfl rfl hd6_in ⟨Nat.le_of_ble_eq_true rfl, Nat.le_of_ble_eq_true rfl⟩) (hP.sub [] rfl) rfl hl.1 rfl rfl (Nat.le_of_ble_eq_true rfl) (zD_g DX6_status 4 rfl) ⟨Nat.zero_le _, Nat.zero_le _⟩ ?_
  refine lv_if_eq (tgt := 21) hx hb (zD_g DX6_status 5 rfl) (by decide) (fun c3 => ?_) (fun c3 => ?_)
  · replace hf := z_t c3 hf
    refine lv_aload_n hx hb (zD_g DX6_status 11 rfl) rfl (lv_at hl 0 rfl) ?_
    refine lv_iconst (v := (0 : Int32)) hx hb (zD_g DX6_status 12 rfl) (by decide) ?_
    refine lv_iconst (v := (-1 : Int32)) hx hb (zD_g DX6_status 13 rfl) (by decide) ?_
    obtain ⟨r4, refused_5, hc6, hf⟩ := zb2_s hf
    refine z_Vm (As := [.int (0 : Int32), .int (-1 : Int32)]) (rest := []) (ws' := (cMod cI cZ q quiet mabove mbelow typed mat mstart mtoken mvalue many book images mkept aside refused_5 text items drawn row best)) ⟨hx, hb, hml, hown, hts⟩ hK (c6_refuses (quiet := quiet) (mabove := mabove) (mbelow := mbelow) (typed := typed) (mat := mat) (mstart := mstart) (mtoken := mtoken) (mvalue := mvalue) (many := many) (book := book) (images := images) (mkept := mkept) (aside := aside) (refused := refused) (text := text) (items := items) (drawn := drawn) (row := row) (best := best) (q := q) hc6) (cwV 2 hts gX6_status_X6_refuses rfl rfl rfl hd6_refuses ⟨Nat.le_of_ble_eq_true rfl, Nat.le_of_ble_eq_true rfl⟩) hP hD hS hA 11 [0, 1, 2, 3, 4, 5, 6, 7, 8, 9, 10] [] [0, 1, 2, 3, 4, 5, 6, 7, 8, 9, 10] (by decide +kernel) rfl rfl rfl rfl rfl rfl rfl hl.1 rfl rfl (Nat.le_of_ble_eq_true rfl) (zD_g DX6_status 14 rfl) ⟨Nat.zero_le _, Nat.zero_le _⟩ (fun H locs hP hD hS => ?_)
    cases hf
    exact hret _ _ _ _ hP hD hS (zD_g DX6_status 15 rfl)
  · replace hf := z_f c3 hf
    refine lv_aload_n hx hb (zD_g DX6_status 6 rfl) rfl (lv_at hl 0 rfl) ?_
    refine va_get (D := D) (ci := 5) (v := .ref (q 5)) (C := RX6) (T := TX6) (N := 19) hx hb hts in6_status_6 hown hK.1 hP 0 rfl rfl 4 (by decide) (hts _ (List.mem_of_getElem? (i := 2) rfl)) (fun _ h9 => h9) rfl (zD_g DX6_status 7 rfl) ?_
    refine lv_iload_n hx hb (zD_g DX6_status 8 rfl) rfl (lv_at hl 1 rfl) ?_
    obtain ⟨h7, hf⟩ := zg_s hf
    refine z_iald (k := a_what.toNatClampNeg) hx hb hK.1 hP 5 0 rfl rfl h7 rfl (zD_g DX6_status 9 rfl) ?_
    refine lv_goto (tgt := 27) hx hb (zD_g DX6_status 10 rfl) (by decide) ?_
    refine lv_topi (fun x8 ex8 => ?_)
    replace hf := zl_s hf x8 ex8
    cases hf
    exact hret _ _ _ _ hP hD hS (zD_g DX6_status 15 rfl)
abbrev dlX6_countOf : List (Nat × Instr × Nat) := [(0, .aload_n 0, 1), (1, .getfield 7, 3), (4, .iconst 0, 1), (5, .iaload, 1), (6, .aload_n 0, 1), (7, .iconst (-1), 1), (8, .invokevirtual 87, 3), (11, .invokestatic 219, 3), (14, .isub, 1), (15, .istore_n 2, 1), (16, .iload_n 1, 1), (17, .iconst 3, 1), (18, .if_icmp .ge 12, 3), (21, .aload_n 0, 1), (22, .getfield 7, 3), (25, .iload_n 1, 1), (26, .iaload, 1), (27, .goto 30, 3), (30, .iload_n 1, 1), (31, .iconst 3, 1), (32, .if_icmp .ne 7, 3), (35, .iload_n 2, 1), (36, .goto 21, 3), (39, .iload_n 1, 1), (40, .iconst 4, 1), (41, .if_icmp .ne 12, 3), (44, .aload_n 0, 1), (45, .getfield 7, 3), (48, .iconst 3, 1), (49, .iaload, 1), (50, .goto 7, 3), (53, .aload_n 0, 1), (54, .getfield 110, 3), (57, .ireturn, 1)]
theorem DX6_countOf : zD cX6_countOf dlX6_countOf = true := by decide +kernel
set_option maxRecDepth 20000 in
theorem ggX6_countOf_X6_thingsIn : GoodIn wsX6_countOf wsX6_thingsIn := goodIn_r _ [7, 1, 11, 12, 13, 14, 15, 16, 17, 18, 19, 20, 21, 22, 23, 24, 25, 26, 27, 28, 29] (by decide +kernel) (by decide +kernel)
set_option maxRecDepth 20000 in
theorem gX6_countOf_X6_thingsIn : GoodIn wsX6_countOf (wsV RX6 87 RX6 yX6_thingsIn wsX6_thingsIn) := goodIn_app (goodIn_of _ (by decide +kernel)) ggX6_countOf_X6_thingsIn
set_option maxRecDepth 20000 in
theorem ggX6_countOf_X6_bits : GoodIn wsX6_countOf wsX6_bits := goodIn_r _ [10] (by decide +kernel) (by decide +kernel)
set_option maxRecDepth 20000 in
theorem gX6_countOf_X6_bits : GoodIn wsX6_countOf (va_wsS RX6 219 yX6_bits wsX6_bits) := goodIn_app (goodIn_of _ (by decide +kernel)) ggX6_countOf_X6_bits
theorem hd6_countOf : yX6_countOf.cls = RX6 ∧ yX6_countOf.cls ≠ "java/lang/invoke/MethodHandle" ∧ yX6_countOf.cls ≠ "java/lang/invoke/VarHandle" ∧ (parseMethodDescriptor yX6_countOf.desc).map (fun d => d.parameters.length) = some 1 := by decide +kernel
abbrev rm6_countOf : Room := { frames := 1, cells := 0, slots := 0, locals := 23 }
theorem in6_countOf_6 : ∀ w ∈ wsX60, w ∈ wsX6_countOf := fun w h => List.mem_cons_of_mem _ (List.mem_append_right _ h)
set_option maxHeartbeats 4000000 in
set_option maxRecDepth 100000 in
theorem c6_countOf {l : Launch} {D : va_G} {cI cZ cB : ClassId} {q : Nat → Nat} {quiet : Int32} {mabove : Int64} {mbelow : Int64} {typed : Int32} {mat : Int32} {mstart : Int32} {mtoken : Int32} {mvalue : Int32} {many : Int32} {book : Nat → Int32} {images : Nat → Int32} {mkept : Nat → Int32} {aside : Nat → Int32} {refused : Nat → Int32} {text : Nat → Int32} {items : Nat → Int32} {drawn : Nat → Int32} {row : Nat → Int32} {best : Nat → Int32} {a_what : Int32} {r : Int32}  (hf : f6_countOf typed book a_what = some r) : Met l yX6_countOf wsX6_countOf rm6_countOf (zPp D cI cZ cB [.ref (q 0), .int a_what] (cMod cI cZ q quiet mabove mbelow typed mat mstart mtoken mvalue many book images mkept aside refused text items drawn row best)) (zQp (some (.int r))) 0 0 (fun _ => False) := by
  unfold f6_countOf at hf
  refine z_pureI RX6 (by decide +kernel) rfl rfl (Nat.le_of_ble_eq_true rfl) ?_
  intro p e s m args below meth c Q ls hx hb hml hown hts hK hP hret hl
  have hl : lv_has ls 3 [(0, .ref (q 0)), (1, .int a_what)] := hl
  refine lv_aload_n hx hb (zD_g DX6_countOf 0 rfl) rfl (lv_at hl 0 rfl) ?_
  refine va_get (D := D) (ci := 5) (v := .ref (q 1)) (C := RX6) (T := TX6) (N := 19) hx hb hts in6_countOf_6 hown hK.1 hP 0 rfl rfl 0 (by decide) (hts _ (List.mem_of_getElem? (i := 1) rfl)) (fun _ h9 => h9) rfl (zD_g DX6_countOf 1 rfl) ?_
  refine lv_iconst (v := (0 : Int32)) hx hb (zD_g DX6_countOf 2 rfl) (by decide) ?_
  refine z_iald (k := 0) hx hb hK.1 hP 1 0 rfl rfl (by unfold vp_in; decide) rfl (zD_g DX6_countOf 3 rfl) ?_
  refine lv_aload_n hx hb (zD_g DX6_countOf 4 rfl) rfl (lv_at hl 0 rfl) ?_
  refine lv_iconst (v := (-1 : Int32)) hx hb (zD_g DX6_countOf 5 rfl) (by decide) ?_
  obtain ⟨r1, hc2, hf⟩ := zb1_s hf
  refine z_Vp (As := [.int (-1 : Int32)]) (rest := [.int (book 0)]) ⟨hx, hb, hml, hown, hts⟩ hK (c6_thingsIn (quiet := quiet) (mabove := mabove) (mbelow := mbelow) (typed := typed) (mat := mat) (mstart := mstart) (mtoken := mtoken) (mvalue := mvalue) (many := many) (book := book) (images := images) (mkept := mkept) (aside := aside) (refused := refused) (text := text) (items := items) (drawn := drawn) (row := row) (best := best) (q := q) hc2) (cwV 1 hts gX6_countOf_X6_thingsIn rfl rfl rfl hd6_thingsIn ⟨Nat.le_of_ble_eq_true rfl, Nat.le_of_ble_eq_true rfl⟩) hP rfl rfl rfl rfl hl.1 rfl rfl (Nat.le_of_ble_eq_true rfl) (zD_g DX6_countOf 6 rfl) ⟨Nat.zero_le _, Nat.zero_le _⟩ ?_
  obtain ⟨r3, hc4, hf⟩ := zb1_s hf
  refine z_Sp (As := [.int r1]) (rest := [.int (book 0)]) ⟨hx, hb, hml, hown, hts⟩ hK (c6_bits  hc4) (va_cwS 1 hts gX6_countOf_X6_bits rfl rfl rfl hd6_bits ⟨Nat.le_of_ble_eq_true rfl, Nat.le_of_ble_eq_true rfl⟩) (hP.sub [] rfl) rfl hl.1 rfl rfl (Nat.le_of_ble_eq_true rfl) (zD_g DX6_countOf 7 rfl) ⟨Nat.zero_le _, Nat.zero_le _⟩ ?_
  refine lv_isub hx hb (zD_g DX6_countOf 8 rfl) ?_
  refine lv_topi (fun x5 ex5 => ?_)
  replace hf := zl_s hf x5 ex5
  refine lv_istore_n (lv' := [(2, .int x5), (0, .ref (q 0)), (1, .int a_what)]) hx hb (zD_g DX6_countOf 9 rfl) rfl hl (by decide) rfl (fun ls hl => ?_)
  refine lv_iload_n hx hb (zD_g DX6_countOf 10 rfl) rfl (lv_at hl 2 rfl) ?_
  refine lv_iconst (v := (3 : Int32)) hx hb (zD_g DX6_countOf 11 rfl) (by decide) ?_
  refine lv_icmp_ge (tgt := 30) hx hb (zD_g DX6_countOf 12 rfl) (by decide) (fun c6 => ?_) (fun c6 => ?_)
  · replace hf := z_t c6 hf
    refine lv_iload_n hx hb (zD_g DX6_countOf 18 rfl) rfl (lv_at hl 2 rfl) ?_
    refine lv_iconst (v := (3 : Int32)) hx hb (zD_g DX6_countOf 19 rfl) (by decide) ?_
    refine lv_icmp_ne (tgt := 39) hx hb (zD_g DX6_countOf 20 rfl) (by decide) (fun c7 => ?_) (fun c7 => ?_)
    · replace hf := z_f c7 hf
      refine lv_iload_n hx hb (zD_g DX6_countOf 23 rfl) rfl (lv_at hl 2 rfl) ?_
      refine lv_iconst (v := (4 : Int32)) hx hb (zD_g DX6_countOf 24 rfl) (by decide) ?_
      refine lv_icmp_ne (tgt := 53) hx hb (zD_g DX6_countOf 25 rfl) (by decide) (fun c8 => ?_) (fun c8 => ?_)
      · replace hf := z_f c8 hf
        refine lv_aload_n hx hb (zD_g DX6_countOf 31 rfl) rfl (lv_at hl 1 rfl) ?_
        refine va_get (D := D) (ci := 5) (v := .int typed) (C := RX6) (T := TX6) (N := 19) hx hb hts in6_countOf_6 hown hK.1 hP 0 rfl rfl 9 (by decide) (hts _ (List.mem_of_getElem? (i := 2) rfl)) (fun _ h9 => h9) rfl (zD_g DX6_countOf 32 rfl) ?_
        cases hf
        exact hret _ _ (zD_g DX6_countOf 33 rfl)
      · replace hf := z_t c8 hf
        refine lv_aload_n hx hb (zD_g DX6_countOf 26 rfl) rfl (lv_at hl 1 rfl) ?_
        refine va_get (D := D) (ci := 5) (v := .ref (q 1)) (C := RX6) (T := TX6) (N := 19) hx hb hts in6_countOf_6 hown hK.1 hP 0 rfl rfl 0 (by decide) (hts _ (List.mem_of_getElem? (i := 1) rfl)) (fun _ h9 => h9) rfl (zD_g DX6_countOf 27 rfl) ?_
        refine lv_iconst (v := (3 : Int32)) hx hb (zD_g DX6_countOf 28 rfl) (by decide) ?_
        refine z_iald (k := 3) hx hb hK.1 hP 1 0 rfl rfl (by unfold vp_in; decide) rfl (zD_g DX6_countOf 29 rfl) ?_
        refine lv_goto (tgt := 57) hx hb (zD_g DX6_countOf 30 rfl) (by decide) ?_
        refine lv_topi (fun x9 ex9 => ?_)
        replace hf := zl_s hf x9 ex9
        cases hf
        exact hret _ _ (zD_g DX6_countOf 33 rfl)
    · replace hf := z_t c7 hf
      refine lv_iload_n hx hb (zD_g DX6_countOf 21 rfl) rfl (lv_at hl 0 rfl) ?_
      refine lv_goto (tgt := 57) hx hb (zD_g DX6_countOf 22 rfl) (by decide) ?_
      cases hf
      exact hret _ _ (zD_g DX6_countOf 33 rfl)
  · replace hf := z_f c6 hf
    refine lv_aload_n hx hb (zD_g DX6_countOf 13 rfl) rfl (lv_at hl 1 rfl) ?_
    refine va_get (D := D) (ci := 5) (v := .ref (q 1)) (C := RX6) (T := TX6) (N := 19) hx hb hts in6_countOf_6 hown hK.1 hP 0 rfl rfl 0 (by decide) (hts _ (List.mem_of_getElem? (i := 1) rfl)) (fun _ h9 => h9) rfl (zD_g DX6_countOf 14 rfl) ?_
    refine lv_iload_n hx hb (zD_g DX6_countOf 15 rfl) rfl (lv_at hl 2 rfl) ?_
    obtain ⟨h10, hf⟩ := zg_s hf
    refine z_iald (k := a_what.toNatClampNeg) hx hb hK.1 hP 1 0 rfl rfl h10 rfl (zD_g DX6_countOf 16 rfl) ?_
    refine lv_goto (tgt := 57) hx hb (zD_g DX6_countOf 17 rfl) (by decide) ?_
    refine lv_topi (fun x11 ex11 => ?_)
    replace hf := zl_s hf x11 ex11
    cases hf
    exact hret _ _ (zD_g DX6_countOf 33 rfl)
abbrev dlX6_count : List (Nat × Instr × Nat) := [(0, .iload_n 1, 1), (1, .i2l, 1), (2, .lconst 0, 1), (3, .ldc2_w 60, 3), (6, .invokestatic 56, 3), (9, .ifCond .eq 11, 3), (12, .aload_n 0, 1), (13, .iload_n 1, 1), (14, .invokevirtual 265, 3), (17, .goto 7, 3), (20, .aload_n 0, 1), (21, .invokevirtual 66, 3), (24, .ireturn, 1)]
theorem DX6_count : zD cX6_count dlX6_count = true := by decide +kernel
set_option maxRecDepth 20000 in
theorem ggX6_count_X6_in : GoodIn wsX6_count wsX6_in := goodIn_r _ [5] (by decide +kernel) (by decide +kernel)
set_option maxRecDepth 20000 in
theorem gX6_count_X6_in : GoodIn wsX6_count (va_wsS RX6 56 yX6_in wsX6_in) := goodIn_app (goodIn_of _ (by decide +kernel)) ggX6_count_X6_in
set_option maxRecDepth 20000 in
theorem ggX6_count_X6_countOf : GoodIn wsX6_count wsX6_countOf := goodIn_r _ [9, 10, 11, 12, 13, 14, 4, 15, 16, 17, 18, 29, 30, 31, 32, 33, 34, 35, 36, 37, 38, 39, 40, 41, 42, 43, 44, 45, 46, 47] (by decide +kernel) (by decide +kernel)
set_option maxRecDepth 20000 in
theorem gX6_count_X6_countOf : GoodIn wsX6_count (wsV RX6 265 RX6 yX6_countOf wsX6_countOf) := goodIn_app (goodIn_of _ (by decide +kernel)) ggX6_count_X6_countOf
set_option maxRecDepth 20000 in
theorem ggX6_count_X6_bad : GoodIn wsX6_count wsX6_bad := goodIn_r _ [22, 23, 24, 25, 4, 26, 27, 28, 29, 30, 31, 32, 33, 34, 35, 36, 37, 38, 39, 40, 41, 42, 43, 44, 45, 46, 47] (by decide +kernel) (by decide +kernel)
set_option maxRecDepth 20000 in
theorem gX6_count_X6_bad : GoodIn wsX6_count (wsV RX6 66 RX6 yX6_bad wsX6_bad) := goodIn_app (goodIn_of _ (by decide +kernel)) ggX6_count_X6_bad
theorem hd6_count : yX6_count.cls = RX6 ∧ yX6_count.cls ≠ "java/lang/invoke/MethodHandle" ∧ yX6_count.cls ≠ "java/lang/invoke/VarHandle" ∧ (parseMethodDescriptor yX6_count.desc).map (fun d => d.parameters.length) = some 1 := by decide +kernel
abbrev rm6_count : Room := { frames := 2, cells := 0, slots := 0, locals := 45 }
set_option maxHeartbeats 4000000 in
set_option maxRecDepth 100000 in
theorem c6_count {l : Launch} {D : va_G} {cI cZ cB : ClassId} {q : Nat → Nat} {sz : Nat} {quiet : Int32} {mabove : Int64} {mbelow : Int64} {typed : Int32} {mat : Int32} {mstart : Int32} {mtoken : Int32} {mvalue : Int32} {many : Int32} {book : Nat → Int32} {images : Nat → Int32} {mkept : Nat → Int32} {aside : Nat → Int32} {refused : Nat → Int32} {text : Nat → Int32} {items : Nat → Int32} {drawn : Nat → Int32} {row : Nat → Int32} {best : Nat → Int32} {a_what : Int32} {r : Int32} {d_refused : Nat → Int32} (hf : f6_count quiet typed book refused a_what = some (r, d_refused)) : Met l yX6_count wsX6_count rm6_count (zPm D cI cZ cB [.ref (q 0), .int a_what] sz (cMod cI cZ q quiet mabove mbelow typed mat mstart mtoken mvalue many book images mkept aside refused text items drawn row best)) (zQm D (some (.int r)) (cMod cI cZ q quiet mabove mbelow typed mat mstart mtoken mvalue many book images mkept aside d_refused text items drawn row best) (va_A (cMod cI cZ q quiet mabove mbelow typed mat mstart mtoken mvalue many book images mkept aside refused text items drawn row best) sz)) 0 0 (va_A (cMod cI cZ q quiet mabove mbelow typed mat mstart mtoken mvalue many book images mkept aside refused text items drawn row best) sz) := by
  unfold f6_count at hf
  refine z_mutI RX6 (by decide +kernel) rfl rfl (Nat.le_of_ble_eq_true rfl) ?_
  intro p e s m args below meth c Q A ls hx hb hml hown hts hK hP hD hS hA hret hl
  have hl : lv_has ls 2 [(0, .ref (q 0)), (1, .int a_what)] := hl
  refine lv_iload_n hx hb (zD_g DX6_count 0 rfl) rfl (lv_at hl 1 rfl) ?_
  refine lv_i2l (v := (a_what).toInt64) hx hb (zD_g DX6_count 1 rfl) rfl ?_
  refine lv_lconst (v := (0 : Int64)) hx hb (zD_g DX6_count 2 rfl) (by decide) ?_
  refine lv_ldc2 (v := (5 : Int64)) hx hb hown (hts _ (List.mem_of_getElem? (i := 1) rfl)) (zD_g DX6_count 3 rfl) ?_
  obtain ⟨r1, hc2, hf⟩ := zb1_s hf
  refine z_Sp (As := [.long ((a_what).toInt64), .long (0 : Int64), .long (5 : Int64)]) (rest := []) ⟨hx, hb, hml, hown, hts⟩ hK (c6_in  hc2) (va_cwS 3 hts gX6_count_X6_in rfl rfl rfl hd6_in ⟨Nat.le_of_ble_eq_true rfl, Nat.le_of_ble_eq_true rfl⟩) (hP.sub [] rfl) rfl hl.1 rfl rfl (Nat.le_of_ble_eq_true rfl) (zD_g DX6_count 4 rfl) ⟨Nat.zero_le _, Nat.zero_le _⟩ ?_
  refine lv_if_eq (tgt := 20) hx hb (zD_g DX6_count 5 rfl) (by decide) (fun c3 => ?_) (fun c3 => ?_)
  · replace hf := z_t c3 hf
    refine lv_aload_n hx hb (zD_g DX6_count 10 rfl) rfl (lv_at hl 0 rfl) ?_
    obtain ⟨r4, refused_5, hc6, hf⟩ := zb2_s hf
    refine z_Vm (As := []) (rest := []) (ws' := (cMod cI cZ q quiet mabove mbelow typed mat mstart mtoken mvalue many book images mkept aside refused_5 text items drawn row best)) ⟨hx, hb, hml, hown, hts⟩ hK (c6_bad (quiet := quiet) (mabove := mabove) (mbelow := mbelow) (typed := typed) (mat := mat) (mstart := mstart) (mtoken := mtoken) (mvalue := mvalue) (many := many) (book := book) (images := images) (mkept := mkept) (aside := aside) (refused := refused) (text := text) (items := items) (drawn := drawn) (row := row) (best := best) (q := q) hc6) (cwV 0 hts gX6_count_X6_bad rfl rfl rfl hd6_bad ⟨Nat.le_of_ble_eq_true rfl, Nat.le_of_ble_eq_true rfl⟩) hP hD hS hA 11 [0, 1, 2, 3, 4, 5, 6, 7, 8, 9, 10] [] [0, 1, 2, 3, 4, 5, 6, 7, 8, 9, 10] (by decide +kernel) rfl rfl rfl rfl rfl rfl rfl hl.1 rfl rfl (Nat.le_of_ble_eq_true rfl) (zD_g DX6_count 11 rfl) ⟨Nat.zero_le _, Nat.zero_le _⟩ (fun H locs hP hD hS => ?_)
    cases hf
    exact hret _ _ _ _ hP hD hS (zD_g DX6_count 12 rfl)
  · replace hf := z_f c3 hf
    refine lv_aload_n hx hb (zD_g DX6_count 6 rfl) rfl (lv_at hl 0 rfl) ?_
    refine lv_iload_n hx hb (zD_g DX6_count 7 rfl) rfl (lv_at hl 1 rfl) ?_
    obtain ⟨r7, hc8, hf⟩ := zb1_s hf
    refine z_Vp (As := [.int a_what]) (rest := []) ⟨hx, hb, hml, hown, hts⟩ hK (c6_countOf (quiet := quiet) (mabove := mabove) (mbelow := mbelow) (typed := typed) (mat := mat) (mstart := mstart) (mtoken := mtoken) (mvalue := mvalue) (many := many) (book := book) (images := images) (mkept := mkept) (aside := aside) (refused := refused) (text := text) (items := items) (drawn := drawn) (row := row) (best := best) (q := q) hc8) (cwV 1 hts gX6_count_X6_countOf rfl rfl rfl hd6_countOf ⟨Nat.le_of_ble_eq_true rfl, Nat.le_of_ble_eq_true rfl⟩) hP rfl rfl rfl rfl hl.1 rfl rfl (Nat.le_of_ble_eq_true rfl) (zD_g DX6_count 8 rfl) ⟨Nat.zero_le _, Nat.zero_le _⟩ ?_
    refine lv_goto (tgt := 24) hx hb (zD_g DX6_count 9 rfl) (by decide) ?_
    cases hf
    exact hret _ _ _ _ hP hD hS (zD_g DX6_count 12 rfl)
abbrev dlX6_mixed : List (Nat × Instr × Nat) := [(0, .lload_n 1, 1), (1, .lstore 5, 2), (3, .iconst 0, 1), (4, .istore 7, 2), (6, .iload 7, 2), (8, .iload 4, 2), (10, .if_icmp .ge 28, 3), (13, .ldc2_w 268, 3), (16, .lload 5, 2), (18, .lmul, 1), (19, .aload_n 0, 1), (20, .getfield 7, 3), (23, .iload_n 3, 1), (24, .iload 7, 2), (26, .iadd, 1), (27, .iaload, 1), (28, .i2l, 1), (29, .ladd, 1), (30, .lstore 5, 2), (32, .iinc 7 1, 3), (35, .goto (-29), 3), (38, .lload 5, 2), (40, .lreturn, 1)]
theorem DX6_mixed : zD cX6_mixed dlX6_mixed = true := by decide +kernel
theorem hd6_mixed : yX6_mixed.cls = RX6 ∧ yX6_mixed.cls ≠ "java/lang/invoke/MethodHandle" ∧ yX6_mixed.cls ≠ "java/lang/invoke/VarHandle" ∧ (parseMethodDescriptor yX6_mixed.desc).map (fun d => d.parameters.length) = some 3 := by decide +kernel
abbrev rm6_mixed : Room := { frames := 0, cells := 0, slots := 0, locals := 0 }
theorem in6_mixed_6 : ∀ w ∈ wsX60, w ∈ wsX6_mixed := fun w h => List.mem_cons_of_mem _ (List.mem_append_right _ h)
set_option maxHeartbeats 4000000 in
set_option maxRecDepth 100000 in
theorem c6_mixed {l : Launch} {D : va_G} {cI cZ cB : ClassId} {q : Nat → Nat} {quiet : Int32} {mabove : Int64} {mbelow : Int64} {typed : Int32} {mat : Int32} {mstart : Int32} {mtoken : Int32} {mvalue : Int32} {many : Int32} {book : Nat → Int32} {images : Nat → Int32} {mkept : Nat → Int32} {aside : Nat → Int32} {refused : Nat → Int32} {text : Nat → Int32} {items : Nat → Int32} {drawn : Nat → Int32} {row : Nat → Int32} {best : Nat → Int32} {a_h0 : Int64} {a_at0 : Int32} {a_n : Int32} {r : Int64}  (hf : f6_mixed book a_h0 a_at0 a_n = some r) : Met l yX6_mixed wsX6_mixed rm6_mixed (zPp D cI cZ cB [.ref (q 0), .long a_h0, .int a_at0, .int a_n] (cMod cI cZ q quiet mabove mbelow typed mat mstart mtoken mvalue many book images mkept aside refused text items drawn row best)) (zQp (some (.long r))) 0 0 (fun _ => False) := by
  unfold f6_mixed at hf
  refine z_pureL RX6 (by decide +kernel) rfl rfl (Nat.le_of_ble_eq_true rfl) ?_
  intro p e s m args below meth c Q ls hx hb hml hown hts hK hP hret hl
  have hl : lv_has ls 8 [(0, .ref (q 0)), (1, .long a_h0), (3, .int a_at0), (4, .int a_n)] := hl
  refine lv_lload_n hx hb (zD_g DX6_mixed 0 rfl) rfl (lv_at hl 1 rfl) ?_
  refine lv_lstore (lv' := [(5, .long a_h0), (0, .ref (q 0)), (1, .long a_h0), (3, .int a_at0), (4, .int a_n)]) hx hb (zD_g DX6_mixed 1 rfl) hl (by decide) rfl (fun ls hl => ?_)
  refine lv_iconst (v := (0 : Int32)) hx hb (zD_g DX6_mixed 2 rfl) (by decide) ?_
  refine lv_istore (lv' := [(7, .int (0 : Int32)), (5, .long a_h0), (0, .ref (q 0)), (1, .long a_h0), (3, .int a_at0), (4, .int a_n)]) hx hb (zD_g DX6_mixed 3 rfl) hl (by decide) rfl (fun ls hl => ?_)
  have hL3 : ∀ (k3 : Int64 → Option (Int64)) (hk3 : ∀ (y7 : Int64), k3 y7 = some r → ∀ (ls : Array Slot), lv_has ls 8 [(5, .long y7)] → W p l e rm6_mixed s m args below meth c s.heap [] 0 0 Q (F0 m 38 ls [])) (n3 : Nat) (y1 : Int64) (y2 : Int32), L6_mixed_6 k3 book a_at0 a_n n3 y1 y2 = some r → ∀ (ls : Array Slot), lv_has ls 8 [(0, .ref (q 0)), (3, .int a_at0), (4, .int a_n), (5, .long y1), (7, .int y2)] → W p l e rm6_mixed s m args below meth c s.heap [] 0 0 Q (F0 m 6 ls []) := by
    intro k3 hk3 n3
    induction n3 with
    | zero =>
      intro y1 y2 hf
      cases hf
    | succ n3 ih3 =>
      intro y1 y2 hf ls hl
      rw [L6_mixed_6] at hf
      refine lv_iload hx hb (zD_g DX6_mixed 4 rfl) (lv_at hl 4 rfl) ?_
      refine lv_iload hx hb (zD_g DX6_mixed 5 rfl) (lv_at hl 2 rfl) ?_
      refine lv_icmp_ge (tgt := 38) hx hb (zD_g DX6_mixed 6 rfl) (by decide) (fun c4 => ?_) (fun c4 => ?_)
      · replace hf := z_t c4 hf
        exact hk3 _ hf ls (lv_sub hl [3] rfl)
      · replace hf := z_f c4 hf
        refine lv_ldc2 (v := (31 : Int64)) hx hb hown (hts _ (List.mem_of_getElem? (i := 1) rfl)) (zD_g DX6_mixed 7 rfl) ?_
        refine lv_lload hx hb (zD_g DX6_mixed 8 rfl) (lv_at hl 3 rfl) ?_
        refine lv_lmul hx hb (zD_g DX6_mixed 9 rfl) ?_
        refine lv_aload_n hx hb (zD_g DX6_mixed 10 rfl) rfl (lv_at hl 0 rfl) ?_
        refine va_get (D := D) (ci := 5) (v := .ref (q 1)) (C := RX6) (T := TX6) (N := 19) hx hb hts in6_mixed_6 hown hK.1 hP 0 rfl rfl 0 (by decide) (hts _ (List.mem_of_getElem? (i := 2) rfl)) (fun _ h9 => h9) rfl (zD_g DX6_mixed 11 rfl) ?_
        refine lv_iload_n hx hb (zD_g DX6_mixed 12 rfl) rfl (lv_at hl 1 rfl) ?_
        refine lv_iload hx hb (zD_g DX6_mixed 13 rfl) (lv_at hl 4 rfl) ?_
        refine lv_iadd hx hb (zD_g DX6_mixed 14 rfl) ?_
        obtain ⟨h5, hf⟩ := zg_s hf
        refine z_iald (k := (a_at0 + y2).toNatClampNeg) hx hb hK.1 hP 1 0 rfl rfl h5 rfl (zD_g DX6_mixed 15 rfl) ?_
        refine lv_i2l (v := ((book (a_at0 + y2).toNatClampNeg)).toInt64) hx hb (zD_g DX6_mixed 16 rfl) rfl ?_
        refine lv_ladd hx hb (zD_g DX6_mixed 17 rfl) ?_
        refine lv_topl (fun x6 ex6 => ?_)
        replace hf := zl_s hf x6 ex6
        refine lv_lstore (lv' := [(5, .long x6), (0, .ref (q 0)), (3, .int a_at0), (4, .int a_n), (7, .int y2)]) hx hb (zD_g DX6_mixed 18 rfl) hl (by decide) rfl (fun ls hl => ?_)
        refine lv_iinc (v := y2 + 1) (lv' := [(7, .int (y2 + 1)), (5, .long x6), (0, .ref (q 0)), (3, .int a_at0), (4, .int a_n)]) (k := 4) hx hb (zD_g DX6_mixed 19 rfl) hl rfl rfl (by decide) rfl (fun ls hl => ?_)
        refine lv_goto (tgt := 6) hx hb (zD_g DX6_mixed 20 rfl) (by decide) ?_
        exact ih3 _ _ hf ls (lv_sub hl [2, 3, 4, 1, 0] rfl)
  refine hL3 _ (fun y7 hf ls hl => ?_) _ _ _ hf ls (lv_sub hl [2, 4, 5, 1, 0] rfl)
  refine lv_lload hx hb (zD_g DX6_mixed 21 rfl) (lv_at hl 0 rfl) ?_
  cases hf
  exact hret _ _ (zD_g DX6_mixed 22 rfl)
abbrev dlX6_digest : List (Nat × Instr × Nat) := [(0, .ldc2_w 270, 3), (3, .lstore_n 1, 1), (4, .iconst 0, 1), (5, .istore_n 3, 1), (6, .iload_n 3, 1), (7, .bipush 6, 2), (9, .if_icmp .ge 22, 3), (12, .ldc2_w 268, 3), (15, .lload_n 1, 1), (16, .lmul, 1), (17, .aload_n 0, 1), (18, .iload_n 3, 1), (19, .invokevirtual 265, 3), (22, .i2l, 1), (23, .ladd, 1), (24, .lstore_n 1, 1), (25, .iinc 3 1, 3), (28, .goto (-22), 3), (31, .iconst 0, 1), (32, .istore_n 3, 1), (33, .iload_n 3, 1), (34, .aload_n 0, 1), (35, .getfield 7, 3), (38, .iconst 0, 1), (39, .iaload, 1), (40, .if_icmp .ge 36, 3), (43, .ldc2_w 268, 3), (46, .aload_n 0, 1), (47, .lload_n 1, 1), (48, .iconst 4, 1), (49, .iconst 4, 1), (50, .iload_n 3, 1), (51, .imul, 1), (52, .iadd, 1), (53, .iconst 4, 1), (54, .invokevirtual 272, 3), (57, .lmul, 1), (58, .aload_n 0, 1), (59, .getfield 7, 3), (62, .bipush 36, 2), (64, .iload_n 3, 1), (65, .iadd, 1), (66, .iaload, 1), (67, .i2l, 1), (68, .ladd, 1), (69, .lstore_n 1, 1), (70, .iinc 3 1, 3), (73, .goto (-40), 3), (76, .iconst 0, 1), (77, .istore_n 3, 1), (78, .iload_n 3, 1), (79, .aload_n 0, 1), (80, .getfield 7, 3), (83, .iconst 1, 1), (84, .iaload, 1), (85, .if_icmp .ge 88, 3), (88, .ldc2_w 268, 3), (91, .ldc2_w 268, 3), (94, .lload_n 1, 1), (95, .lmul, 1), (96, .aload_n 0, 1), (97, .getfield 7, 3), (100, .bipush 44, 2), (102, .iload_n 3, 1), (103, .iadd, 1), (104, .iaload, 1), (105, .i2l, 1), (106, .ladd, 1), (107, .lmul, 1), (108, .aload_n 0, 1), (109, .getfield 7, 3), (112, .bipush 68, 2), (114, .iload_n 3, 1), (115, .iadd, 1), (116, .iaload, 1), (117, .i2l, 1), (118, .ladd, 1), (119, .lstore_n 1, 1), (120, .ldc2_w 268, 3), (123, .ldc2_w 268, 3), (126, .ldc2_w 268, 3), (129, .lload_n 1, 1), (130, .lmul, 1), (131, .aload_n 0, 1), (132, .getfield 7, 3), (135, .bipush 50, 2), (137, .iload_n 3, 1), (138, .iadd, 1), (139, .iaload, 1), (140, .i2l, 1), (141, .ladd, 1), (142, .lmul, 1), (143, .aload_n 0, 1), (144, .getfield 7, 3), (147, .bipush 56, 2), (149, .iload_n 3, 1), (150, .iadd, 1), (151, .iaload, 1), (152, .i2l, 1), (153, .ladd, 1), (154, .lmul, 1), (155, .aload_n 0, 1), (156, .getfield 7, 3), (159, .bipush 62, 2), (161, .iload_n 3, 1), (162, .iadd, 1), (163, .iaload, 1), (164, .i2l, 1), (165, .ladd, 1), (166, .lstore_n 1, 1), (167, .iinc 3 1, 3), (170, .goto (-92), 3), (173, .iconst 0, 1), (174, .istore_n 3, 1), (175, .iload_n 3, 1), (176, .iconst 2, 1), (177, .if_icmp .ge 52, 3), (180, .aload_n 0, 1), (181, .lload_n 1, 1), (182, .bipush 74, 2), (184, .iconst 3, 1), (185, .iload_n 3, 1), (186, .imul, 1), (187, .iadd, 1), (188, .iconst 3, 1), (189, .invokevirtual 272, 3), (192, .lstore_n 1, 1), (193, .ldc2_w 268, 3), (196, .aload_n 0, 1), (197, .lload_n 1, 1), (198, .bipush 80, 2), (200, .bipush 6, 2), (202, .iload_n 3, 1), (203, .imul, 1), (204, .iadd, 1), (205, .bipush 6, 2), (207, .invokevirtual 272, 3), (210, .lmul, 1), (211, .aload_n 0, 1), (212, .getfield 7, 3), (215, .bipush 92, 2), (217, .iload_n 3, 1), (218, .iadd, 1), (219, .iaload, 1), (220, .i2l, 1), (221, .ladd, 1), (222, .lstore_n 1, 1), (223, .iinc 3 1, 3), (226, .goto (-51), 3), (229, .ldc2_w 268, 3), (232, .ldc2_w 268, 3), (235, .lload_n 1, 1), (236, .lmul, 1), (237, .aload_n 0, 1), (238, .getfield 228, 3), (241, .ladd, 1), (242, .lmul, 1), (243, .aload_n 0, 1), (244, .getfield 41, 3), (247, .ladd, 1), (248, .lreturn, 1)]
theorem DX6_digest : zD cX6_digest dlX6_digest = true := by decide +kernel
set_option maxRecDepth 20000 in
theorem ggX6_digest_X6_countOf : GoodIn wsX6_digest wsX6_countOf := goodIn_r _ [10, 3, 11, 12, 13, 14, 9, 15, 16, 17, 18, 23, 24, 25, 26, 27, 28, 29, 30, 31, 32, 33, 34, 35, 36, 37, 38, 39, 40, 41] (by decide +kernel) (by decide +kernel)
set_option maxRecDepth 20000 in
theorem gX6_digest_X6_countOf : GoodIn wsX6_digest (wsV RX6 265 RX6 yX6_countOf wsX6_countOf) := goodIn_app (goodIn_of _ (by decide +kernel)) ggX6_digest_X6_countOf
set_option maxRecDepth 20000 in
theorem ggX6_digest_X6_mixed : GoodIn wsX6_digest wsX6_mixed := goodIn_r _ [22, 2, 3, 23, 24, 25, 26, 27, 28, 29, 30, 31, 32, 33, 34, 35, 36, 37, 38, 39, 40, 41] (by decide +kernel) (by decide +kernel)
set_option maxRecDepth 20000 in
theorem gX6_digest_X6_mixed : GoodIn wsX6_digest (wsV RX6 272 RX6 yX6_mixed wsX6_mixed) := goodIn_app (goodIn_of _ (by decide +kernel)) ggX6_digest_X6_mixed
theorem hd6_digest : yX6_digest.cls = RX6 ∧ yX6_digest.cls ≠ "java/lang/invoke/MethodHandle" ∧ yX6_digest.cls ≠ "java/lang/invoke/VarHandle" ∧ (parseMethodDescriptor yX6_digest.desc).map (fun d => d.parameters.length) = some 0 := by decide +kernel
abbrev rm6_digest : Room := { frames := 2, cells := 0, slots := 0, locals := 45 }
theorem in6_digest_6 : ∀ w ∈ wsX60, w ∈ wsX6_digest := fun w h => List.mem_cons_of_mem _ (List.mem_append_right _ h)
set_option maxHeartbeats 4000000 in
set_option maxRecDepth 100000 in
theorem c6_digest {l : Launch} {D : va_G} {cI cZ cB : ClassId} {q : Nat → Nat} {quiet : Int32} {mabove : Int64} {mbelow : Int64} {typed : Int32} {mat : Int32} {mstart : Int32} {mtoken : Int32} {mvalue : Int32} {many : Int32} {book : Nat → Int32} {images : Nat → Int32} {mkept : Nat → Int32} {aside : Nat → Int32} {refused : Nat → Int32} {text : Nat → Int32} {items : Nat → Int32} {drawn : Nat → Int32} {row : Nat → Int32} {best : Nat → Int32}  {r : Int64}  (hf : f6_digest mabove mbelow typed book = some r) : Met l yX6_digest wsX6_digest rm6_digest (zPp D cI cZ cB [.ref (q 0)] (cMod cI cZ q quiet mabove mbelow typed mat mstart mtoken mvalue many book images mkept aside refused text items drawn row best)) (zQp (some (.long r))) 0 0 (fun _ => False) := by
  unfold f6_digest at hf
  refine z_pureL RX6 (by decide +kernel) rfl rfl (Nat.le_of_ble_eq_true rfl) ?_
  intro p e s m args below meth c Q ls hx hb hml hown hts hK hP hret hl
  have hl : lv_has ls 4 [(0, .ref (q 0))] := hl
  refine lv_ldc2 (v := (863 : Int64)) hx hb hown (hts _ (List.mem_of_getElem? (i := 1) rfl)) (zD_g DX6_digest 0 rfl) ?_
  refine lv_lstore_n (lv' := [(1, .long (863 : Int64)), (0, .ref (q 0))]) hx hb (zD_g DX6_digest 1 rfl) rfl hl (by decide) rfl (fun ls hl => ?_)
  refine lv_iconst (v := (0 : Int32)) hx hb (zD_g DX6_digest 2 rfl) (by decide) ?_
  refine lv_istore_n (lv' := [(3, .int (0 : Int32)), (1, .long (863 : Int64)), (0, .ref (q 0))]) hx hb (zD_g DX6_digest 3 rfl) rfl hl (by decide) rfl (fun ls hl => ?_)
  have hL3 : ∀ (k3 : Int64 → Option (Int64)) (hk3 : ∀ (y8 : Int64), k3 y8 = some r → ∀ (ls : Array Slot), lv_has ls 4 [(0, .ref (q 0)), (1, .long y8)] → W p l e rm6_digest s m args below meth c s.heap [] 0 0 Q (F0 m 31 ls [])) (n3 : Nat) (y1 : Int64) (y2 : Int32), L6_digest_6 k3 typed book n3 y1 y2 = some r → ∀ (ls : Array Slot), lv_has ls 4 [(0, .ref (q 0)), (1, .long y1), (3, .int y2)] → W p l e rm6_digest s m args below meth c s.heap [] 0 0 Q (F0 m 6 ls []) := by
    intro k3 hk3 n3
    induction n3 with
    | zero =>
      intro y1 y2 hf
      cases hf
    | succ n3 ih3 =>
      intro y1 y2 hf ls hl
      rw [L6_digest_6] at hf
      refine lv_iload_n hx hb (zD_g DX6_digest 4 rfl) rfl (lv_at hl 2 rfl) ?_
      refine lv_bipush (v := (6 : Int32)) hx hb (zD_g DX6_digest 5 rfl) (by decide) ?_
      refine lv_icmp_ge (tgt := 31) hx hb (zD_g DX6_digest 6 rfl) (by decide) (fun c4 => ?_) (fun c4 => ?_)
      · replace hf := z_t c4 hf
        exact hk3 _ hf ls (lv_sub hl [0, 1] rfl)
      · replace hf := z_f c4 hf
        refine lv_ldc2 (v := (31 : Int64)) hx hb hown (hts _ (List.mem_of_getElem? (i := 2) rfl)) (zD_g DX6_digest 7 rfl) ?_
        refine lv_lload_n hx hb (zD_g DX6_digest 8 rfl) rfl (lv_at hl 1 rfl) ?_
        refine lv_lmul hx hb (zD_g DX6_digest 9 rfl) ?_
        refine lv_aload_n hx hb (zD_g DX6_digest 10 rfl) rfl (lv_at hl 0 rfl) ?_
        refine lv_iload_n hx hb (zD_g DX6_digest 11 rfl) rfl (lv_at hl 2 rfl) ?_
        obtain ⟨r5, hc6, hf⟩ := zb1_s hf
        refine z_Vp (As := [.int y2]) (rest := [.long ((31 : Int64) * y1)]) ⟨hx, hb, hml, hown, hts⟩ hK (c6_countOf (quiet := quiet) (mabove := mabove) (mbelow := mbelow) (typed := typed) (mat := mat) (mstart := mstart) (mtoken := mtoken) (mvalue := mvalue) (many := many) (book := book) (images := images) (mkept := mkept) (aside := aside) (refused := refused) (text := text) (items := items) (drawn := drawn) (row := row) (best := best) (q := q) hc6) (cwV 1 hts gX6_digest_X6_countOf rfl rfl rfl hd6_countOf ⟨Nat.le_of_ble_eq_true rfl, Nat.le_of_ble_eq_true rfl⟩) hP rfl rfl rfl rfl hl.1 rfl rfl (Nat.le_of_ble_eq_true rfl) (zD_g DX6_digest 12 rfl) ⟨Nat.zero_le _, Nat.zero_le _⟩ ?_
        refine lv_i2l (v := (r5).toInt64) hx hb (zD_g DX6_digest 13 rfl) rfl ?_
        refine lv_ladd hx hb (zD_g DX6_digest 14 rfl) ?_
        refine lv_topl (fun x7 ex7 => ?_)
        replace hf := zl_s hf x7 ex7
        refine lv_lstore_n (lv' := [(1, .long x7), (0, .ref (q 0)), (3, .int y2)]) hx hb (zD_g DX6_digest 15 rfl) rfl hl (by decide) rfl (fun ls hl => ?_)
        refine lv_iinc (v := y2 + 1) (lv' := [(3, .int (y2 + 1)), (1, .long x7), (0, .ref (q 0))]) (k := 2) hx hb (zD_g DX6_digest 16 rfl) hl rfl rfl (by decide) rfl (fun ls hl => ?_)
        refine lv_goto (tgt := 6) hx hb (zD_g DX6_digest 17 rfl) (by decide) ?_
        exact ih3 _ _ hf ls (lv_sub hl [2, 1, 0] rfl)
  refine hL3 _ (fun y8 hf ls hl => ?_) _ _ _ hf ls (lv_sub hl [2, 1, 0] rfl)
  refine lv_iconst (v := (0 : Int32)) hx hb (zD_g DX6_digest 18 rfl) (by decide) ?_
  refine lv_istore_n (lv' := [(3, .int (0 : Int32)), (0, .ref (q 0)), (1, .long y8)]) hx hb (zD_g DX6_digest 19 rfl) rfl hl (by decide) rfl (fun ls hl => ?_)
  have hL11 : ∀ (k11 : Int64 → Option (Int64)) (hk11 : ∀ (y17 : Int64), k11 y17 = some r → ∀ (ls : Array Slot), lv_has ls 4 [(0, .ref (q 0)), (1, .long y17)] → W p l e rm6_digest s m args below meth c s.heap [] 0 0 Q (F0 m 76 ls [])) (n11 : Nat) (y9 : Int64) (y10 : Int32), L6_digest_33 k11 book n11 y9 y10 = some r → ∀ (ls : Array Slot), lv_has ls 4 [(0, .ref (q 0)), (1, .long y9), (3, .int y10)] → W p l e rm6_digest s m args below meth c s.heap [] 0 0 Q (F0 m 33 ls []) := by
    intro k11 hk11 n11
    induction n11 with
    | zero =>
      intro y9 y10 hf
      cases hf
    | succ n11 ih11 =>
      intro y9 y10 hf ls hl
      rw [L6_digest_33] at hf
      refine lv_iload_n hx hb (zD_g DX6_digest 20 rfl) rfl (lv_at hl 2 rfl) ?_
      refine lv_aload_n hx hb (zD_g DX6_digest 21 rfl) rfl (lv_at hl 0 rfl) ?_
      refine va_get (D := D) (ci := 5) (v := .ref (q 1)) (C := RX6) (T := TX6) (N := 19) hx hb hts in6_digest_6 hown hK.1 hP 0 rfl rfl 0 (by decide) (hts _ (List.mem_of_getElem? (i := 3) rfl)) (fun _ h9 => h9) rfl (zD_g DX6_digest 22 rfl) ?_
      refine lv_iconst (v := (0 : Int32)) hx hb (zD_g DX6_digest 23 rfl) (by decide) ?_
      refine z_iald (k := 0) hx hb hK.1 hP 1 0 rfl rfl (by unfold vp_in; decide) rfl (zD_g DX6_digest 24 rfl) ?_
      refine lv_icmp_ge (tgt := 76) hx hb (zD_g DX6_digest 25 rfl) (by decide) (fun c12 => ?_) (fun c12 => ?_)
      · replace hf := z_t c12 hf
        exact hk11 _ hf ls (lv_sub hl [0, 1] rfl)
      · replace hf := z_f c12 hf
        refine lv_ldc2 (v := (31 : Int64)) hx hb hown (hts _ (List.mem_of_getElem? (i := 2) rfl)) (zD_g DX6_digest 26 rfl) ?_
        refine lv_aload_n hx hb (zD_g DX6_digest 27 rfl) rfl (lv_at hl 0 rfl) ?_
        refine lv_lload_n hx hb (zD_g DX6_digest 28 rfl) rfl (lv_at hl 1 rfl) ?_
        refine lv_iconst (v := (4 : Int32)) hx hb (zD_g DX6_digest 29 rfl) (by decide) ?_
        refine lv_iconst (v := (4 : Int32)) hx hb (zD_g DX6_digest 30 rfl) (by decide) ?_
        refine lv_iload_n hx hb (zD_g DX6_digest 31 rfl) rfl (lv_at hl 2 rfl) ?_
        refine lv_imul hx hb (zD_g DX6_digest 32 rfl) ?_
        refine lv_iadd hx hb (zD_g DX6_digest 33 rfl) ?_
        refine lv_iconst (v := (4 : Int32)) hx hb (zD_g DX6_digest 34 rfl) (by decide) ?_
        obtain ⟨r13, hc14, hf⟩ := zb1_s hf
        refine z_Vp (As := [.long y9, .int ((4 : Int32) + ((4 : Int32) * y10)), .int (4 : Int32)]) (rest := [.long (31 : Int64)]) ⟨hx, hb, hml, hown, hts⟩ hK (c6_mixed (quiet := quiet) (mabove := mabove) (mbelow := mbelow) (typed := typed) (mat := mat) (mstart := mstart) (mtoken := mtoken) (mvalue := mvalue) (many := many) (book := book) (images := images) (mkept := mkept) (aside := aside) (refused := refused) (text := text) (items := items) (drawn := drawn) (row := row) (best := best) (q := q) hc14) (cwV 3 hts gX6_digest_X6_mixed rfl rfl rfl hd6_mixed ⟨Nat.le_of_ble_eq_true rfl, Nat.le_of_ble_eq_true rfl⟩) hP rfl rfl rfl rfl hl.1 rfl rfl (Nat.le_of_ble_eq_true rfl) (zD_g DX6_digest 35 rfl) ⟨Nat.zero_le _, Nat.zero_le _⟩ ?_
        refine lv_lmul hx hb (zD_g DX6_digest 36 rfl) ?_
        refine lv_aload_n hx hb (zD_g DX6_digest 37 rfl) rfl (lv_at hl 0 rfl) ?_
        refine va_get (D := D) (ci := 5) (v := .ref (q 1)) (C := RX6) (T := TX6) (N := 19) hx hb hts in6_digest_6 hown hK.1 hP 0 rfl rfl 0 (by decide) (hts _ (List.mem_of_getElem? (i := 3) rfl)) (fun _ h9 => h9) rfl (zD_g DX6_digest 38 rfl) ?_
        refine lv_bipush (v := (36 : Int32)) hx hb (zD_g DX6_digest 39 rfl) (by decide) ?_
        refine lv_iload_n hx hb (zD_g DX6_digest 40 rfl) rfl (lv_at hl 2 rfl) ?_
        refine lv_iadd hx hb (zD_g DX6_digest 41 rfl) ?_
        obtain ⟨h15, hf⟩ := zg_s hf
        refine z_iald (k := ((36 : Int32) + y10).toNatClampNeg) hx hb hK.1 hP 1 0 rfl rfl h15 rfl (zD_g DX6_digest 42 rfl) ?_
        refine lv_i2l (v := ((book ((36 : Int32) + y10).toNatClampNeg)).toInt64) hx hb (zD_g DX6_digest 43 rfl) rfl ?_
        refine lv_ladd hx hb (zD_g DX6_digest 44 rfl) ?_
        refine lv_topl (fun x16 ex16 => ?_)
        replace hf := zl_s hf x16 ex16
        refine lv_lstore_n (lv' := [(1, .long x16), (0, .ref (q 0)), (3, .int y10)]) hx hb (zD_g DX6_digest 45 rfl) rfl hl (by decide) rfl (fun ls hl => ?_)
        refine lv_iinc (v := y10 + 1) (lv' := [(3, .int (y10 + 1)), (1, .long x16), (0, .ref (q 0))]) (k := 2) hx hb (zD_g DX6_digest 46 rfl) hl rfl rfl (by decide) rfl (fun ls hl => ?_)
        refine lv_goto (tgt := 33) hx hb (zD_g DX6_digest 47 rfl) (by decide) ?_
        exact ih11 _ _ hf ls (lv_sub hl [2, 1, 0] rfl)
  refine hL11 _ (fun y17 hf ls hl => ?_) _ _ _ hf ls (lv_sub hl [1, 2, 0] rfl)
  refine lv_iconst (v := (0 : Int32)) hx hb (zD_g DX6_digest 48 rfl) (by decide) ?_
  refine lv_istore_n (lv' := [(3, .int (0 : Int32)), (0, .ref (q 0)), (1, .long y17)]) hx hb (zD_g DX6_digest 49 rfl) rfl hl (by decide) rfl (fun ls hl => ?_)
  have hL20 : ∀ (k20 : Int64 → Option (Int64)) (hk20 : ∀ (y29 : Int64), k20 y29 = some r → ∀ (ls : Array Slot), lv_has ls 4 [(0, .ref (q 0)), (1, .long y29)] → W p l e rm6_digest s m args below meth c s.heap [] 0 0 Q (F0 m 173 ls [])) (n20 : Nat) (y18 : Int64) (y19 : Int32), L6_digest_78 k20 book n20 y18 y19 = some r → ∀ (ls : Array Slot), lv_has ls 4 [(0, .ref (q 0)), (1, .long y18), (3, .int y19)] → W p l e rm6_digest s m args below meth c s.heap [] 0 0 Q (F0 m 78 ls []) := by
    intro k20 hk20 n20
    induction n20 with
    | zero =>
      intro y18 y19 hf
      cases hf
    | succ n20 ih20 =>
      intro y18 y19 hf ls hl
      rw [L6_digest_78] at hf
      refine lv_iload_n hx hb (zD_g DX6_digest 50 rfl) rfl (lv_at hl 2 rfl) ?_
      refine lv_aload_n hx hb (zD_g DX6_digest 51 rfl) rfl (lv_at hl 0 rfl) ?_
      refine va_get (D := D) (ci := 5) (v := .ref (q 1)) (C := RX6) (T := TX6) (N := 19) hx hb hts in6_digest_6 hown hK.1 hP 0 rfl rfl 0 (by decide) (hts _ (List.mem_of_getElem? (i := 3) rfl)) (fun _ h9 => h9) rfl (zD_g DX6_digest 52 rfl) ?_
      refine lv_iconst (v := (1 : Int32)) hx hb (zD_g DX6_digest 53 rfl) (by decide) ?_
      refine z_iald (k := 1) hx hb hK.1 hP 1 0 rfl rfl (by unfold vp_in; decide) rfl (zD_g DX6_digest 54 rfl) ?_
      refine lv_icmp_ge (tgt := 173) hx hb (zD_g DX6_digest 55 rfl) (by decide) (fun c21 => ?_) (fun c21 => ?_)
      · replace hf := z_t c21 hf
        exact hk20 _ hf ls (lv_sub hl [0, 1] rfl)
      · replace hf := z_f c21 hf
        refine lv_ldc2 (v := (31 : Int64)) hx hb hown (hts _ (List.mem_of_getElem? (i := 2) rfl)) (zD_g DX6_digest 56 rfl) ?_
        refine lv_ldc2 (v := (31 : Int64)) hx hb hown (hts _ (List.mem_of_getElem? (i := 2) rfl)) (zD_g DX6_digest 57 rfl) ?_
        refine lv_lload_n hx hb (zD_g DX6_digest 58 rfl) rfl (lv_at hl 1 rfl) ?_
        refine lv_lmul hx hb (zD_g DX6_digest 59 rfl) ?_
        refine lv_aload_n hx hb (zD_g DX6_digest 60 rfl) rfl (lv_at hl 0 rfl) ?_
        refine va_get (D := D) (ci := 5) (v := .ref (q 1)) (C := RX6) (T := TX6) (N := 19) hx hb hts in6_digest_6 hown hK.1 hP 0 rfl rfl 0 (by decide) (hts _ (List.mem_of_getElem? (i := 3) rfl)) (fun _ h9 => h9) rfl (zD_g DX6_digest 61 rfl) ?_
        refine lv_bipush (v := (44 : Int32)) hx hb (zD_g DX6_digest 62 rfl) (by decide) ?_
        refine lv_iload_n hx hb (zD_g DX6_digest 63 rfl) rfl (lv_at hl 2 rfl) ?_
        refine lv_iadd hx hb (zD_g DX6_digest 64 rfl) ?_
        obtain ⟨h22, hf⟩ := zg_s hf
        refine z_iald (k := ((44 : Int32) + y19).toNatClampNeg) hx hb hK.1 hP 1 0 rfl rfl h22 rfl (zD_g DX6_digest 65 rfl) ?_
        refine lv_i2l (v := ((book ((44 : Int32) + y19).toNatClampNeg)).toInt64) hx hb (zD_g DX6_digest 66 rfl) rfl ?_
        refine lv_ladd hx hb (zD_g DX6_digest 67 rfl) ?_
        refine lv_lmul hx hb (zD_g DX6_digest 68 rfl) ?_
        refine lv_aload_n hx hb (zD_g DX6_digest 69 rfl) rfl (lv_at hl 0 rfl) ?_
        refine va_get (D := D) (ci := 5) (v := .ref (q 1)) (C := RX6) (T := TX6) (N := 19) hx hb hts in6_digest_6 hown hK.1 hP 0 rfl rfl 0 (by decide) (hts _ (List.mem_of_getElem? (i := 3) rfl)) (fun _ h9 => h9) rfl (zD_g DX6_digest 70 rfl) ?_
        refine lv_bipush (v := (68 : Int32)) hx hb (zD_g DX6_digest 71 rfl) (by decide) ?_
        refine lv_iload_n hx hb (zD_g DX6_digest 72 rfl) rfl (lv_at hl 2 rfl) ?_
        refine lv_iadd hx hb (zD_g DX6_digest 73 rfl) ?_
        obtain ⟨h23, hf⟩ := zg_s hf
        refine z_iald (k := ((68 : Int32) + y19).toNatClampNeg) hx hb hK.1 hP 1 0 rfl rfl h23 rfl (zD_g DX6_digest 74 rfl) ?_
        refine lv_i2l (v := ((book ((68 : Int32) + y19).toNatClampNeg)).toInt64) hx hb (zD_g DX6_digest 75 rfl) rfl ?_
        refine lv_ladd hx hb (zD_g DX6_digest 76 rfl) ?_
        refine lv_topl (fun x24 ex24 => ?_)
        replace hf := zl_s hf x24 ex24
        refine lv_lstore_n (lv' := [(1, .long x24), (0, .ref (q 0)), (3, .int y19)]) hx hb (zD_g DX6_digest 77 rfl) rfl hl (by decide) rfl (fun ls hl => ?_)
        refine lv_ldc2 (v := (31 : Int64)) hx hb hown (hts _ (List.mem_of_getElem? (i := 2) rfl)) (zD_g DX6_digest 78 rfl) ?_
        refine lv_ldc2 (v := (31 : Int64)) hx hb hown (hts _ (List.mem_of_getElem? (i := 2) rfl)) (zD_g DX6_digest 79 rfl) ?_
        refine lv_ldc2 (v := (31 : Int64)) hx hb hown (hts _ (List.mem_of_getElem? (i := 2) rfl)) (zD_g DX6_digest 80 rfl) ?_
        refine lv_lload_n hx hb (zD_g DX6_digest 81 rfl) rfl (lv_at hl 0 rfl) ?_
        refine lv_lmul hx hb (zD_g DX6_digest 82 rfl) ?_
        refine lv_aload_n hx hb (zD_g DX6_digest 83 rfl) rfl (lv_at hl 1 rfl) ?_
        refine va_get (D := D) (ci := 5) (v := .ref (q 1)) (C := RX6) (T := TX6) (N := 19) hx hb hts in6_digest_6 hown hK.1 hP 0 rfl rfl 0 (by decide) (hts _ (List.mem_of_getElem? (i := 3) rfl)) (fun _ h9 => h9) rfl (zD_g DX6_digest 84 rfl) ?_
        refine lv_bipush (v := (50 : Int32)) hx hb (zD_g DX6_digest 85 rfl) (by decide) ?_
        refine lv_iload_n hx hb (zD_g DX6_digest 86 rfl) rfl (lv_at hl 2 rfl) ?_
        refine lv_iadd hx hb (zD_g DX6_digest 87 rfl) ?_
        obtain ⟨h25, hf⟩ := zg_s hf
        refine z_iald (k := ((50 : Int32) + y19).toNatClampNeg) hx hb hK.1 hP 1 0 rfl rfl h25 rfl (zD_g DX6_digest 88 rfl) ?_
        refine lv_i2l (v := ((book ((50 : Int32) + y19).toNatClampNeg)).toInt64) hx hb (zD_g DX6_digest 89 rfl) rfl ?_
        refine lv_ladd hx hb (zD_g DX6_digest 90 rfl) ?_
        refine lv_lmul hx hb (zD_g DX6_digest 91 rfl) ?_
        refine lv_aload_n hx hb (zD_g DX6_digest 92 rfl) rfl (lv_at hl 1 rfl) ?_
        refine va_get (D := D) (ci := 5) (v := .ref (q 1)) (C := RX6) (T := TX6) (N := 19) hx hb hts in6_digest_6 hown hK.1 hP 0 rfl rfl 0 (by decide) (hts _ (List.mem_of_getElem? (i := 3) rfl)) (fun _ h9 => h9) rfl (zD_g DX6_digest 93 rfl) ?_
        refine lv_bipush (v := (56 : Int32)) hx hb (zD_g DX6_digest 94 rfl) (by decide) ?_
        refine lv_iload_n hx hb (zD_g DX6_digest 95 rfl) rfl (lv_at hl 2 rfl) ?_
        refine lv_iadd hx hb (zD_g DX6_digest 96 rfl) ?_
        obtain ⟨h26, hf⟩ := zg_s hf
        refine z_iald (k := ((56 : Int32) + y19).toNatClampNeg) hx hb hK.1 hP 1 0 rfl rfl h26 rfl (zD_g DX6_digest 97 rfl) ?_
        refine lv_i2l (v := ((book ((56 : Int32) + y19).toNatClampNeg)).toInt64) hx hb (zD_g DX6_digest 98 rfl) rfl ?_
        refine lv_ladd hx hb (zD_g DX6_digest 99 rfl) ?_
        refine lv_lmul hx hb (zD_g DX6_digest 100 rfl) ?_
        refine lv_aload_n hx hb (zD_g DX6_digest 101 rfl) rfl (lv_at hl 1 rfl) ?_
        refine va_get (D := D) (ci := 5) (v := .ref (q 1)) (C := RX6) (T := TX6) (N := 19) hx hb hts in6_digest_6 hown hK.1 hP 0 rfl rfl 0 (by decide) (hts _ (List.mem_of_getElem? (i := 3) rfl)) (fun _ h9 => h9) rfl (zD_g DX6_digest 102 rfl) ?_
        refine lv_bipush (v := (62 : Int32)) hx hb (zD_g DX6_digest 103 rfl) (by decide) ?_
        refine lv_iload_n hx hb (zD_g DX6_digest 104 rfl) rfl (lv_at hl 2 rfl) ?_
        refine lv_iadd hx hb (zD_g DX6_digest 105 rfl) ?_
        obtain ⟨h27, hf⟩ := zg_s hf
        refine z_iald (k := ((62 : Int32) + y19).toNatClampNeg) hx hb hK.1 hP 1 0 rfl rfl h27 rfl (zD_g DX6_digest 106 rfl) ?_
        refine lv_i2l (v := ((book ((62 : Int32) + y19).toNatClampNeg)).toInt64) hx hb (zD_g DX6_digest 107 rfl) rfl ?_
        refine lv_ladd hx hb (zD_g DX6_digest 108 rfl) ?_
        refine lv_topl (fun x28 ex28 => ?_)
        replace hf := zl_s hf x28 ex28
        refine lv_lstore_n (lv' := [(1, .long x28), (0, .ref (q 0)), (3, .int y19)]) hx hb (zD_g DX6_digest 109 rfl) rfl hl (by decide) rfl (fun ls hl => ?_)
        refine lv_iinc (v := y19 + 1) (lv' := [(3, .int (y19 + 1)), (1, .long x28), (0, .ref (q 0))]) (k := 2) hx hb (zD_g DX6_digest 110 rfl) hl rfl rfl (by decide) rfl (fun ls hl => ?_)
        refine lv_goto (tgt := 78) hx hb (zD_g DX6_digest 111 rfl) (by decide) ?_
        exact ih20 _ _ hf ls (lv_sub hl [2, 1, 0] rfl)
  refine hL20 _ (fun y29 hf ls hl => ?_) _ _ _ hf ls (lv_sub hl [1, 2, 0] rfl)
  refine lv_iconst (v := (0 : Int32)) hx hb (zD_g DX6_digest 112 rfl) (by decide) ?_
  refine lv_istore_n (lv' := [(3, .int (0 : Int32)), (0, .ref (q 0)), (1, .long y29)]) hx hb (zD_g DX6_digest 113 rfl) rfl hl (by decide) rfl (fun ls hl => ?_)
  have hL32 : ∀ (k32 : Int64 → Option (Int64)) (hk32 : ∀ (y40 : Int64), k32 y40 = some r → ∀ (ls : Array Slot), lv_has ls 4 [(0, .ref (q 0)), (1, .long y40)] → W p l e rm6_digest s m args below meth c s.heap [] 0 0 Q (F0 m 229 ls [])) (n32 : Nat) (y30 : Int64) (y31 : Int32), L6_digest_175 k32 book n32 y30 y31 = some r → ∀ (ls : Array Slot), lv_has ls 4 [(0, .ref (q 0)), (1, .long y30), (3, .int y31)] → W p l e rm6_digest s m args below meth c s.heap [] 0 0 Q (F0 m 175 ls []) := by
    intro k32 hk32 n32
    induction n32 with
    | zero =>
      intro y30 y31 hf
      cases hf
    | succ n32 ih32 =>
      intro y30 y31 hf ls hl
      rw [L6_digest_175] at hf
      refine lv_iload_n hx hb (zD_g DX6_digest 114 rfl) rfl (lv_at hl 2 rfl) ?_
      refine lv_iconst (v := (2 : Int32)) hx hb (zD_g DX6_digest 115 rfl) (by decide) ?_
      refine lv_icmp_ge (tgt := 229) hx hb (zD_g DX6_digest 116 rfl) (by decide) (fun c33 => ?_) (fun c33 => ?_)
      · replace hf := z_t c33 hf
        exact hk32 _ hf ls (lv_sub hl [0, 1] rfl)
      · replace hf := z_f c33 hf
        refine lv_aload_n hx hb (zD_g DX6_digest 117 rfl) rfl (lv_at hl 0 rfl) ?_
        refine lv_lload_n hx hb (zD_g DX6_digest 118 rfl) rfl (lv_at hl 1 rfl) ?_
        refine lv_bipush (v := (74 : Int32)) hx hb (zD_g DX6_digest 119 rfl) (by decide) ?_
        refine lv_iconst (v := (3 : Int32)) hx hb (zD_g DX6_digest 120 rfl) (by decide) ?_
        refine lv_iload_n hx hb (zD_g DX6_digest 121 rfl) rfl (lv_at hl 2 rfl) ?_
        refine lv_imul hx hb (zD_g DX6_digest 122 rfl) ?_
        refine lv_iadd hx hb (zD_g DX6_digest 123 rfl) ?_
        refine lv_iconst (v := (3 : Int32)) hx hb (zD_g DX6_digest 124 rfl) (by decide) ?_
        obtain ⟨r34, hc35, hf⟩ := zb1_s hf
        refine z_Vp (As := [.long y30, .int ((74 : Int32) + ((3 : Int32) * y31)), .int (3 : Int32)]) (rest := []) ⟨hx, hb, hml, hown, hts⟩ hK (c6_mixed (quiet := quiet) (mabove := mabove) (mbelow := mbelow) (typed := typed) (mat := mat) (mstart := mstart) (mtoken := mtoken) (mvalue := mvalue) (many := many) (book := book) (images := images) (mkept := mkept) (aside := aside) (refused := refused) (text := text) (items := items) (drawn := drawn) (row := row) (best := best) (q := q) hc35) (cwV 3 hts gX6_digest_X6_mixed rfl rfl rfl hd6_mixed ⟨Nat.le_of_ble_eq_true rfl, Nat.le_of_ble_eq_true rfl⟩) hP rfl rfl rfl rfl hl.1 rfl rfl (Nat.le_of_ble_eq_true rfl) (zD_g DX6_digest 125 rfl) ⟨Nat.zero_le _, Nat.zero_le _⟩ ?_
        refine lv_lstore_n (lv' := [(1, .long r34), (0, .ref (q 0)), (3, .int y31)]) hx hb (zD_g DX6_digest 126 rfl) rfl hl (by decide) rfl (fun ls hl => ?_)
        refine lv_ldc2 (v := (31 : Int64)) hx hb hown (hts _ (List.mem_of_getElem? (i := 2) rfl)) (zD_g DX6_digest 127 rfl) ?_
        refine lv_aload_n hx hb (zD_g DX6_digest 128 rfl) rfl (lv_at hl 1 rfl) ?_
        refine lv_lload_n hx hb (zD_g DX6_digest 129 rfl) rfl (lv_at hl 0 rfl) ?_
        refine lv_bipush (v := (80 : Int32)) hx hb (zD_g DX6_digest 130 rfl) (by decide) ?_
        refine lv_bipush (v := (6 : Int32)) hx hb (zD_g DX6_digest 131 rfl) (by decide) ?_
        refine lv_iload_n hx hb (zD_g DX6_digest 132 rfl) rfl (lv_at hl 2 rfl) ?_
        refine lv_imul hx hb (zD_g DX6_digest 133 rfl) ?_
        refine lv_iadd hx hb (zD_g DX6_digest 134 rfl) ?_
        refine lv_bipush (v := (6 : Int32)) hx hb (zD_g DX6_digest 135 rfl) (by decide) ?_
        obtain ⟨r36, hc37, hf⟩ := zb1_s hf
        refine z_Vp (As := [.long r34, .int ((80 : Int32) + ((6 : Int32) * y31)), .int (6 : Int32)]) (rest := [.long (31 : Int64)]) ⟨hx, hb, hml, hown, hts⟩ hK (c6_mixed (quiet := quiet) (mabove := mabove) (mbelow := mbelow) (typed := typed) (mat := mat) (mstart := mstart) (mtoken := mtoken) (mvalue := mvalue) (many := many) (book := book) (images := images) (mkept := mkept) (aside := aside) (refused := refused) (text := text) (items := items) (drawn := drawn) (row := row) (best := best) (q := q) hc37) (cwV 3 hts gX6_digest_X6_mixed rfl rfl rfl hd6_mixed ⟨Nat.le_of_ble_eq_true rfl, Nat.le_of_ble_eq_true rfl⟩) hP rfl rfl rfl rfl hl.1 rfl rfl (Nat.le_of_ble_eq_true rfl) (zD_g DX6_digest 136 rfl) ⟨Nat.zero_le _, Nat.zero_le _⟩ ?_
        refine lv_lmul hx hb (zD_g DX6_digest 137 rfl) ?_
        refine lv_aload_n hx hb (zD_g DX6_digest 138 rfl) rfl (lv_at hl 1 rfl) ?_
        refine va_get (D := D) (ci := 5) (v := .ref (q 1)) (C := RX6) (T := TX6) (N := 19) hx hb hts in6_digest_6 hown hK.1 hP 0 rfl rfl 0 (by decide) (hts _ (List.mem_of_getElem? (i := 3) rfl)) (fun _ h9 => h9) rfl (zD_g DX6_digest 139 rfl) ?_
        refine lv_bipush (v := (92 : Int32)) hx hb (zD_g DX6_digest 140 rfl) (by decide) ?_
        refine lv_iload_n hx hb (zD_g DX6_digest 141 rfl) rfl (lv_at hl 2 rfl) ?_
        refine lv_iadd hx hb (zD_g DX6_digest 142 rfl) ?_
        obtain ⟨h38, hf⟩ := zg_s hf
        refine z_iald (k := ((92 : Int32) + y31).toNatClampNeg) hx hb hK.1 hP 1 0 rfl rfl h38 rfl (zD_g DX6_digest 143 rfl) ?_
        refine lv_i2l (v := ((book ((92 : Int32) + y31).toNatClampNeg)).toInt64) hx hb (zD_g DX6_digest 144 rfl) rfl ?_
        refine lv_ladd hx hb (zD_g DX6_digest 145 rfl) ?_
        refine lv_topl (fun x39 ex39 => ?_)
        replace hf := zl_s hf x39 ex39
        refine lv_lstore_n (lv' := [(1, .long x39), (0, .ref (q 0)), (3, .int y31)]) hx hb (zD_g DX6_digest 146 rfl) rfl hl (by decide) rfl (fun ls hl => ?_)
        refine lv_iinc (v := y31 + 1) (lv' := [(3, .int (y31 + 1)), (1, .long x39), (0, .ref (q 0))]) (k := 2) hx hb (zD_g DX6_digest 147 rfl) hl rfl rfl (by decide) rfl (fun ls hl => ?_)
        refine lv_goto (tgt := 175) hx hb (zD_g DX6_digest 148 rfl) (by decide) ?_
        exact ih32 _ _ hf ls (lv_sub hl [2, 1, 0] rfl)
  refine hL32 _ (fun y40 hf ls hl => ?_) _ _ _ hf ls (lv_sub hl [1, 2, 0] rfl)
  refine lv_ldc2 (v := (31 : Int64)) hx hb hown (hts _ (List.mem_of_getElem? (i := 2) rfl)) (zD_g DX6_digest 149 rfl) ?_
  refine lv_ldc2 (v := (31 : Int64)) hx hb hown (hts _ (List.mem_of_getElem? (i := 2) rfl)) (zD_g DX6_digest 150 rfl) ?_
  refine lv_lload_n hx hb (zD_g DX6_digest 151 rfl) rfl (lv_at hl 1 rfl) ?_
  refine lv_lmul hx hb (zD_g DX6_digest 152 rfl) ?_
  refine lv_aload_n hx hb (zD_g DX6_digest 153 rfl) rfl (lv_at hl 0 rfl) ?_
  refine va_get (D := D) (ci := 5) (v := .long mabove) (C := RX6) (T := TX6) (N := 19) hx hb hts in6_digest_6 hown hK.1 hP 0 rfl rfl 6 (by decide) (hts _ (List.mem_of_getElem? (i := 4) rfl)) (fun _ h9 => h9) rfl (zD_g DX6_digest 154 rfl) ?_
  refine lv_ladd hx hb (zD_g DX6_digest 155 rfl) ?_
  refine lv_lmul hx hb (zD_g DX6_digest 156 rfl) ?_
  refine lv_aload_n hx hb (zD_g DX6_digest 157 rfl) rfl (lv_at hl 0 rfl) ?_
  refine va_get (D := D) (ci := 5) (v := .long mbelow) (C := RX6) (T := TX6) (N := 19) hx hb hts in6_digest_6 hown hK.1 hP 0 rfl rfl 7 (by decide) (hts _ (List.mem_of_getElem? (i := 5) rfl)) (fun _ h9 => h9) rfl (zD_g DX6_digest 158 rfl) ?_
  refine lv_ladd hx hb (zD_g DX6_digest 159 rfl) ?_
  refine lv_topl (fun x41 ex41 => ?_)
  replace hf := zl_s hf x41 ex41
  cases hf
  exact hret _ _ (zD_g DX6_digest 160 rfl)
