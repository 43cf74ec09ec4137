abbrev dlX5_game : List (Nat × Instr × Nat) := [(0, .aload_n 0, 1), (1, .getfield 10, 3), (4, .iload_n 1, 1), (5, .invokevirtual 114, 3), (8, .ifCond .eq 19, 3), (11, .iload_n 2, 1), (12, .invokestatic 118, 3), (15, .ifCond .eq 12, 3), (18, .iload_n 3, 1), (19, .iconst 0, 1), (20, .iconst 1, 1), (21, .invokestatic 174, 3), (24, .ifCond .ne 8, 3), (27, .aload_n 0, 1), (28, .invokevirtual 121, 3), (31, .ireturn, 1), (32, .iload_n 3, 1), (33, .ifCond .ne 15, 3), (36, .aload_n 0, 1), (37, .getfield 10, 3), (40, .iload_n 1, 1), (41, .iload_n 2, 1), (42, .invokestatic 214, 3), (45, .goto 12, 3), (48, .aload_n 0, 1), (49, .getfield 10, 3), (52, .iload_n 1, 1), (53, .iload_n 2, 1), (54, .invokestatic 217, 3), (57, .ireturn, 1)]
theorem DX5_game : zD cX5_game dlX5_game = true := by decide +kernel
set_option maxRecDepth 20000 in
theorem ggX5_game_X4_hasGift : GoodIn wsX5_game wsX4_hasGift := goodIn_r _ [6, 7, 8, 9, 10, 87, 88, 89, 90, 91, 92, 93, 94, 95, 96, 97, 98, 99, 100, 101, 102, 103, 104, 105] (by decide +kernel) (by decide +kernel)
set_option maxRecDepth 20000 in
theorem gX5_game_X4_hasGift : GoodIn wsX5_game (wsV RX5 114 RX4 yX4_hasGift wsX4_hasGift) := goodIn_app (goodIn_of _ (by decide +kernel)) ggX5_game_X4_hasGift
set_option maxRecDepth 20000 in
theorem ggX5_game_X5_isHour : GoodIn wsX5_game wsX5_isHour := goodIn_r _ [13, 14, 8, 9, 10] (by decide +kernel) (by decide +kernel)
set_option maxRecDepth 20000 in
theorem gX5_game_X5_isHour : GoodIn wsX5_game (va_wsS RX5 118 yX5_isHour wsX5_isHour) := goodIn_app (goodIn_of _ (by decide +kernel)) ggX5_game_X5_isHour
set_option maxRecDepth 20000 in
theorem ggX5_game_X5_within : GoodIn wsX5_game wsX5_within := goodIn_r _ [10] (by decide +kernel) (by decide +kernel)
set_option maxRecDepth 20000 in
theorem gX5_game_X5_within : GoodIn wsX5_game (va_wsS RX5 174 yX5_within wsX5_within) := goodIn_app (goodIn_of _ (by decide +kernel)) ggX5_game_X5_within
set_option maxRecDepth 20000 in
theorem ggX5_game_X5_refusedAsTen : GoodIn wsX5_game wsX5_refusedAsTen := goodIn_r _ [18, 19, 20, 21, 9, 22, 23, 24, 25, 74, 75, 76, 77, 78, 79, 80, 81, 82, 83, 84, 85, 86] (by decide +kernel) (by decide +kernel)
set_option maxRecDepth 20000 in
theorem gX5_game_X5_refusedAsTen : GoodIn wsX5_game (wsV RX5 121 RX5 yX5_refusedAsTen wsX5_refusedAsTen) := goodIn_app (goodIn_of _ (by decide +kernel)) ggX5_game_X5_refusedAsTen
set_option maxRecDepth 20000 in
theorem ggX5_game_X1_restingPairs : GoodIn wsX5_game wsX1_restingPairs := goodIn_r _ [29, 30, 31, 28, 32, 33, 34, 35, 36, 37, 38, 5, 39, 40, 41, 42, 43, 44, 45, 46, 47, 48, 49, 50, 51, 52, 53, 54, 55, 56, 57, 58, 59, 60, 61, 62, 63, 64, 9, 65, 66, 67, 68, 69, 70, 87, 88, 89, 90, 91, 92, 93, 94, 95, 96, 97, 98, 99, 100, 101, 102, 103, 104, 105] (by decide +kernel) (by decide +kernel)
set_option maxRecDepth 20000 in
theorem gX5_game_X1_restingPairs : GoodIn wsX5_game (va_wsS RX5 214 yX1_restingPairs wsX1_restingPairs) := goodIn_app (goodIn_of _ (by decide +kernel)) ggX5_game_X1_restingPairs
set_option maxRecDepth 20000 in
theorem ggX5_game_X1_firstRestingPair : GoodIn wsX5_game wsX1_firstRestingPair := goodIn_r _ [73, 30, 31, 28, 32, 33, 34, 35, 36, 37, 38, 5, 39, 40, 41, 42, 43, 44, 45, 46, 47, 48, 49, 50, 51, 52, 53, 54, 55, 56, 57, 58, 59, 60, 61, 62, 63, 64, 9, 65, 66, 67, 68, 69, 70, 87, 88, 89, 90, 91, 92, 93, 94, 95, 96, 97, 98, 99, 100, 101, 102, 103, 104, 105] (by decide +kernel) (by decide +kernel)
set_option maxRecDepth 20000 in
theorem gX5_game_X1_firstRestingPair : GoodIn wsX5_game (va_wsS RX5 217 yX1_firstRestingPair wsX1_firstRestingPair) := goodIn_app (goodIn_of _ (by decide +kernel)) ggX5_game_X1_firstRestingPair
theorem hd5_game : yX5_game.cls = RX5 ∧ yX5_game.cls ≠ "java/lang/invoke/MethodHandle" ∧ yX5_game.cls ≠ "java/lang/invoke/VarHandle" ∧ (parseMethodDescriptor yX5_game.desc).map (fun d => d.parameters.length) = some 3 := by decide +kernel
abbrev rm5_game : Room := { frames := 6, cells := 0, slots := 0, locals := 145 }
theorem in5_game_5 : ∀ w ∈ wsX50, w ∈ wsX5_game := fun w h => List.mem_cons_of_mem _ (List.mem_append_left _ (List.mem_append_right _ h))
set_option maxHeartbeats 4000000 in
set_option maxRecDepth 100000 in
theorem c5_game {l : Launch} {D : va_G} {cI cZ cB : ClassId} {q : Nat → Nat} {qw : Nat → Nat} {qt : Nat → Nat} {qi : Nat → Nat} {qj : Nat → Nat} {qb : Nat → Nat} {qx : Nat → Nat} {sz : Nat} {kept0 : Int32} {kept1 : Int32} {fabove : Int64} {fbelow : Int64} {bads : Int32} {noes : Int32} {fulls : Int32} {w_things : Int32} {w_gifts : Int32} {w_days : Int32} {w_size : Nat → Int32} {w_weight : Nat → Int32} {w_sound : Nat → Int32} {w_harm : Nat → Int32} {w_in_ : Nat → Int32} {w_kind : Nat → Int32} {w_owner : Nat → Int32} {w_empty : Nat → Int32} {w_room : Nat → Int32} {w_told : Nat → Int32} {w_gate : Nat → Int32} {w_ear : Nat → Int32} {w_scale : Nat → Int32} {w_lost : Nat → Int32} {w_watch : Nat → Int32} {w_moments : Int32} {w_kept : Nat → Int32} {a_gift : Int32} {a_hour : Int32} {a_what : Int32} {r : Int32} {d_bads : Int32} {d_noes : Int32} {d_fulls : Int32} (hf : f5_game bads noes fulls w_things w_gifts w_days w_harm w_in_ w_kind w_owner w_watch a_gift a_hour a_what = some (r, d_bads, d_noes, d_fulls)) : Met l yX5_game wsX5_game rm5_game (zPm D cI cZ cB [.ref (q 0), .int a_gift, .int a_hour, .int a_what] sz (zcat [(cHG q (qw 0) (qt 0) (qi 0) (qj 0) (qb 0) (qx 0) kept0 kept1 fabove fbelow bads noes fulls), (cWar cI qw w_things w_gifts w_days w_size w_weight w_sound w_harm w_in_ w_kind w_owner w_empty w_room w_told w_gate w_ear w_scale w_lost w_watch w_moments w_kept)])) (zQm D (some (.int r)) (zcat [(cHG q (qw 0) (qt 0) (qi 0) (qj 0) (qb 0) (qx 0) kept0 kept1 fabove fbelow d_bads d_noes d_fulls), (cWar cI qw w_things w_gifts w_days w_size w_weight w_sound w_harm w_in_ w_kind w_owner w_empty w_room w_told w_gate w_ear w_scale w_lost w_watch w_moments w_kept)]) (va_A (zcat [(cHG q (qw 0) (qt 0) (qi 0) (qj 0) (qb 0) (qx 0) kept0 kept1 fabove fbelow bads noes fulls), (cWar cI qw w_things w_gifts w_days w_size w_weight w_sound w_harm w_in_ w_kind w_owner w_empty w_room w_told w_gate w_ear w_scale w_lost w_watch w_moments w_kept)]) sz)) 0 0 (va_A (zcat [(cHG q (qw 0) (qt 0) (qi 0) (qj 0) (qb 0) (qx 0) kept0 kept1 fabove fbelow bads noes fulls), (cWar cI qw w_things w_gifts w_days w_size w_weight w_sound w_harm w_in_ w_kind w_owner w_empty w_room w_told w_gate w_ear w_scale w_lost w_watch w_moments w_kept)]) sz) := by
  unfold f5_game at hf
  refine z_mutI RX5 (by decide +kernel) rfl rfl (Nat.le_of_ble_eq_true rfl) ?_
  intro p e s m args below meth c Q A ls hx hb hml hown hts hK hP hD hS hA hret hl
  have hl : lv_has ls 4 [(0, .ref (q 0)), (1, .int a_gift), (2, .int a_hour), (3, .int a_what)] := hl
  refine lv_aload_n hx hb (zD_g DX5_game 0 rfl) rfl (lv_at hl 0 rfl) ?_
  refine va_get (D := D) (ci := 4) (v := .ref (qw 0)) (C := RX5) (T := TX5) (N := 13) hx hb hts in5_game_5 hown hK.1 hP 0 rfl rfl 0 (by decide) (hts _ (List.mem_of_getElem? (i := 1) rfl)) (fun _ h9 => h9) rfl (zD_g DX5_game 1 rfl) ?_
  refine lv_iload_n hx hb (zD_g DX5_game 2 rfl) rfl (lv_at hl 1 rfl) ?_
  obtain ⟨r1, hc2, hf⟩ := zb1_s hf
  refine z_Vp (As := [.int a_gift]) (rest := []) ⟨hx, hb, hml, hown, hts⟩ hK (c4_hasGift (things := w_things) (gifts := w_gifts) (days := w_days) (size := w_size) (weight := w_weight) (sound := w_sound) (harm := w_harm) (in_ := w_in_) (kind := w_kind) (owner := w_owner) (empty := w_empty) (room := w_room) (told := w_told) (gate := w_gate) (ear := w_ear) (scale := w_scale) (lost := w_lost) (watch := w_watch) (moments := w_moments) (kept := w_kept) (q := qw) hc2) (cwV 1 hts gX5_game_X4_hasGift rfl rfl rfl hd4_hasGift ⟨Nat.le_of_ble_eq_true rfl, Nat.le_of_ble_eq_true rfl⟩) (zsubP hP [1] rfl) rfl rfl rfl rfl hl.1 rfl rfl (Nat.le_of_ble_eq_true rfl) (zD_g DX5_game 3 rfl) ⟨Nat.zero_le _, Nat.zero_le _⟩ ?_
  refine lv_if_eq (tgt := 27) hx hb (zD_g DX5_game 4 rfl) (by decide) (fun c3 => ?_) (fun c3 => ?_)
  · replace hf := z_t c3 hf
    refine lv_aload_n hx hb (zD_g DX5_game 13 rfl) rfl (lv_at hl 0 rfl) ?_
    obtain ⟨r4, bads_5, noes_6, fulls_7, hc8, hf⟩ := zb4_s hf
    refine z_VB (As := []) (rest := []) (cs' := [(cHG q (qw 0) (qt 0) (qi 0) (qj 0) (qb 0) (qx 0) kept0 kept1 fabove fbelow bads_5 noes_6 fulls_7)]) (ws' := (zcat [(cHG q (qw 0) (qt 0) (qi 0) (qj 0) (qb 0) (qx 0) kept0 kept1 fabove fbelow bads_5 noes_6 fulls_7), (cWar cI qw w_things w_gifts w_days w_size w_weight w_sound w_harm w_in_ w_kind w_owner w_empty w_room w_told w_gate w_ear w_scale w_lost w_watch w_moments w_kept)])) ⟨hx, hb, hml, hown, hts⟩ hK (c5_refusedAsTen (kept0 := kept0) (kept1 := kept1) (fabove := fabove) (fbelow := fbelow) (bads := bads) (noes := noes) (fulls := fulls) (q := q) (qw := qw) (qt := qt) (qi := qi) (qj := qj) (qb := qb) (qx := qx) hc8) (cwV 0 hts gX5_game_X5_refusedAsTen rfl rfl rfl hd5_refusedAsTen ⟨Nat.le_of_ble_eq_true rfl, Nat.le_of_ble_eq_true rfl⟩) hP hD hS hA 2 [0] [1] [1, 0] (by decide +kernel) rfl rfl rfl rfl rfl rfl rfl rfl rfl hl.1 rfl rfl (Nat.le_of_ble_eq_true rfl) (zD_g DX5_game 14 rfl) ⟨Nat.zero_le _, Nat.zero_le _⟩ (fun H locs hP hD hS => ?_)
    cases hf
    exact hret _ _ _ _ hP hD hS (zD_g DX5_game 15 rfl)
  · replace hf := z_f c3 hf
    refine lv_iload_n hx hb (zD_g DX5_game 5 rfl) rfl (lv_at hl 2 rfl) ?_
    obtain ⟨r9, hc10, hf⟩ := zb1_s hf
    refine z_Sp (As := [.int a_hour]) (rest := []) ⟨hx, hb, hml, hown, hts⟩ hK (c5_isHour  hc10) (va_cwS 1 hts gX5_game_X5_isHour rfl rfl rfl hd5_isHour ⟨Nat.le_of_ble_eq_true rfl, Nat.le_of_ble_eq_true rfl⟩) (hP.sub [] rfl) rfl hl.1 rfl rfl (Nat.le_of_ble_eq_true rfl) (zD_g DX5_game 6 rfl) ⟨Nat.zero_le _, Nat.zero_le _⟩ ?_
    refine lv_if_eq (tgt := 27) hx hb (zD_g DX5_game 7 rfl) (by decide) (fun c11 => ?_) (fun c11 => ?_)
    · replace hf := z_t c11 hf
      refine lv_aload_n hx hb (zD_g DX5_game 13 rfl) rfl (lv_at hl 0 rfl) ?_
      obtain ⟨r12, bads_13, noes_14, fulls_15, hc16, hf⟩ := zb4_s hf
      refine z_VB (As := []) (rest := []) (cs' := [(cHG q (qw 0) (qt 0) (qi 0) (qj 0) (qb 0) (qx 0) kept0 kept1 fabove fbelow bads_13 noes_14 fulls_15)]) (ws' := (zcat [(cHG q (qw 0) (qt 0) (qi 0) (qj 0) (qb 0) (qx 0) kept0 kept1 fabove fbelow bads_13 noes_14 fulls_15), (cWar cI qw w_things w_gifts w_days w_size w_weight w_sound w_harm w_in_ w_kind w_owner w_empty w_room w_told w_gate w_ear w_scale w_lost w_watch w_moments w_kept)])) ⟨hx, hb, hml, hown, hts⟩ hK (c5_refusedAsTen (kept0 := kept0) (kept1 := kept1) (fabove := fabove) (fbelow := fbelow) (bads := bads) (noes := noes) (fulls := fulls) (q := q) (qw := qw) (qt := qt) (qi := qi) (qj := qj) (qb := qb) (qx := qx) hc16) (cwV 0 hts gX5_game_X5_refusedAsTen rfl rfl rfl hd5_refusedAsTen ⟨Nat.le_of_ble_eq_true rfl, Nat.le_of_ble_eq_true rfl⟩) hP hD hS hA 2 [0] [1] [1, 0] (by decide +kernel) rfl rfl rfl rfl rfl rfl rfl rfl rfl hl.1 rfl rfl (Nat.le_of_ble_eq_true rfl) (zD_g DX5_game 14 rfl) ⟨Nat.zero_le _, Nat.zero_le _⟩ (fun H locs hP hD hS => ?_)
      cases hf
      exact hret _ _ _ _ hP hD hS (zD_g DX5_game 15 rfl)
    · replace hf := z_f c11 hf
      refine lv_iload_n hx hb (zD_g DX5_game 8 rfl) rfl (lv_at hl 3 rfl) ?_
      refine lv_iconst (v := (0 : Int32)) hx hb (zD_g DX5_game 9 rfl) (by decide) ?_
      refine lv_iconst (v := (1 : Int32)) hx hb (zD_g DX5_game 10 rfl) (by decide) ?_
      obtain ⟨r17, hc18, hf⟩ := zb1_s hf
      refine z_Sp (As := [.int a_what, .int (0 : Int32), .int (1 : Int32)]) (rest := []) ⟨hx, hb, hml, hown, hts⟩ hK (c5_within  hc18) (va_cwS 3 hts gX5_game_X5_within rfl rfl rfl hd5_within ⟨Nat.le_of_ble_eq_true rfl, Nat.le_of_ble_eq_true rfl⟩) (hP.sub [] rfl) rfl hl.1 rfl rfl (Nat.le_of_ble_eq_true rfl) (zD_g DX5_game 11 rfl) ⟨Nat.zero_le _, Nat.zero_le _⟩ ?_
      refine lv_if_ne (tgt := 32) hx hb (zD_g DX5_game 12 rfl) (by decide) (fun c19 => ?_) (fun c19 => ?_)
      · replace hf := z_f c19 hf
        refine lv_iload_n hx hb (zD_g DX5_game 16 rfl) rfl (lv_at hl 3 rfl) ?_
        refine lv_if_ne (tgt := 48) hx hb (zD_g DX5_game 17 rfl) (by decide) (fun c20 => ?_) (fun c20 => ?_)
        · replace hf := z_f c20 hf
          refine lv_aload_n hx hb (zD_g DX5_game 24 rfl) rfl (lv_at hl 0 rfl) ?_
          refine va_get (D := D) (ci := 4) (v := .ref (qw 0)) (C := RX5) (T := TX5) (N := 13) hx hb hts in5_game_5 hown hK.1 hP 0 rfl rfl 0 (by decide) (hts _ (List.mem_of_getElem? (i := 1) rfl)) (fun _ h9 => h9) rfl (zD_g DX5_game 25 rfl) ?_
          refine lv_iload_n hx hb (zD_g DX5_game 26 rfl) rfl (lv_at hl 1 rfl) ?_
          refine lv_iload_n hx hb (zD_g DX5_game 27 rfl) rfl (lv_at hl 2 rfl) ?_
          obtain ⟨r21, hc22, hf⟩ := zb1_s hf
          refine z_Sp (As := [.ref (qw 0), .int a_gift, .int a_hour]) (rest := []) ⟨hx, hb, hml, hown, hts⟩ hK (c1_firstRestingPair (things := w_things) (gifts := w_gifts) (days := w_days) (size := w_size) (weight := w_weight) (sound := w_sound) (harm := w_harm) (in_ := w_in_) (kind := w_kind) (owner := w_owner) (empty := w_empty) (room := w_room) (told := w_told) (gate := w_gate) (ear := w_ear) (scale := w_scale) (lost := w_lost) (watch := w_watch) (moments := w_moments) (kept := w_kept) (q := qw) hc22) (va_cwS 3 hts gX5_game_X1_firstRestingPair rfl rfl rfl hd1_firstRestingPair ⟨Nat.le_of_ble_eq_true rfl, Nat.le_of_ble_eq_true rfl⟩) (zsubP hP [1] rfl) rfl hl.1 rfl rfl (Nat.le_of_ble_eq_true rfl) (zD_g DX5_game 28 rfl) ⟨Nat.zero_le _, Nat.zero_le _⟩ ?_
          cases hf
          exact hret _ _ _ _ hP hD hS (zD_g DX5_game 29 rfl)
        · replace hf := z_t c20 hf
          refine lv_aload_n hx hb (zD_g DX5_game 18 rfl) rfl (lv_at hl 0 rfl) ?_
          refine va_get (D := D) (ci := 4) (v := .ref (qw 0)) (C := RX5) (T := TX5) (N := 13) hx hb hts in5_game_5 hown hK.1 hP 0 rfl rfl 0 (by decide) (hts _ (List.mem_of_getElem? (i := 1) rfl)) (fun _ h9 => h9) rfl (zD_g DX5_game 19 rfl) ?_
          refine lv_iload_n hx hb (zD_g DX5_game 20 rfl) rfl (lv_at hl 1 rfl) ?_
          refine lv_iload_n hx hb (zD_g DX5_game 21 rfl) rfl (lv_at hl 2 rfl) ?_
          obtain ⟨r23, hc24, hf⟩ := zb1_s hf
          refine z_Sp (As := [.ref (qw 0), .int a_gift, .int a_hour]) (rest := []) ⟨hx, hb, hml, hown, hts⟩ hK (c1_restingPairs (things := w_things) (gifts := w_gifts) (days := w_days) (size := w_size) (weight := w_weight) (sound := w_sound) (harm := w_harm) (in_ := w_in_) (kind := w_kind) (owner := w_owner) (empty := w_empty) (room := w_room) (told := w_told) (gate := w_gate) (ear := w_ear) (scale := w_scale) (lost := w_lost) (watch := w_watch) (moments := w_moments) (kept := w_kept) (q := qw) hc24) (va_cwS 3 hts gX5_game_X1_restingPairs rfl rfl rfl hd1_restingPairs ⟨Nat.le_of_ble_eq_true rfl, Nat.le_of_ble_eq_true rfl⟩) (zsubP hP [1] rfl) rfl hl.1 rfl rfl (Nat.le_of_ble_eq_true rfl) (zD_g DX5_game 22 rfl) ⟨Nat.zero_le _, Nat.zero_le _⟩ ?_
          refine lv_goto (tgt := 57) hx hb (zD_g DX5_game 23 rfl) (by decide) ?_
          cases hf
          exact hret _ _ _ _ hP hD hS (zD_g DX5_game 29 rfl)
      · replace hf := z_t c19 hf
        refine lv_aload_n hx hb (zD_g DX5_game 13 rfl) rfl (lv_at hl 0 rfl) ?_
        obtain ⟨r25, bads_26, noes_27, fulls_28, hc29, hf⟩ := zb4_s hf
        refine z_VB (As := []) (rest := []) (cs' := [(cHG q (qw 0) (qt 0) (qi 0) (qj 0) (qb 0) (qx 0) kept0 kept1 fabove fbelow bads_26 noes_27 fulls_28)]) (ws' := (zcat [(cHG q (qw 0) (qt 0) (qi 0) (qj 0) (qb 0) (qx 0) kept0 kept1 fabove fbelow bads_26 noes_27 fulls_28), (cWar cI qw w_things w_gifts w_days w_size w_weight w_sound w_harm w_in_ w_kind w_owner w_empty w_room w_told w_gate w_ear w_scale w_lost w_watch w_moments w_kept)])) ⟨hx, hb, hml, hown, hts⟩ hK (c5_refusedAsTen (kept0 := kept0) (kept1 := kept1) (fabove := fabove) (fbelow := fbelow) (bads := bads) (noes := noes) (fulls := fulls) (q := q) (qw := qw) (qt := qt) (qi := qi) (qj := qj) (qb := qb) (qx := qx) hc29) (cwV 0 hts gX5_game_X5_refusedAsTen rfl rfl rfl hd5_refusedAsTen ⟨Nat.le_of_ble_eq_true rfl, Nat.le_of_ble_eq_true rfl⟩) hP hD hS hA 2 [0] [1] [1, 0] (by decide +kernel) rfl rfl rfl rfl rfl rfl rfl rfl rfl hl.1 rfl rfl (Nat.le_of_ble_eq_true rfl) (zD_g DX5_game 14 rfl) ⟨Nat.zero_le _, Nat.zero_le _⟩ (fun H locs hP hD hS => ?_)
        cases hf
        exact hret _ _ _ _ hP hD hS (zD_g DX5_game 15 rfl)
abbrev dlX5_stand : List (Nat × Instr × Nat) := [(0, .aload_n 0, 1), (1, .getfield 10, 3), (4, .iload_n 1, 1), (5, .invokevirtual 114, 3), (8, .ifCond .eq 12, 3), (11, .iload_n 2, 1), (12, .iconst 0, 1), (13, .iconst 1, 1), (14, .invokestatic 174, 3), (17, .ifCond .ne 10, 3), (20, .aload_n 0, 1), (21, .bipush (-2), 2), (23, .invokevirtual 67, 3), (26, .ireturn, 1), (27, .aload_n 0, 1), (28, .getfield 10, 3), (31, .iload_n 1, 1), (32, .invokestatic 220, 3), (35, .istore_n 3, 1), (36, .iload_n 2, 1), (37, .ifCond .ne 7, 3), (40, .iload_n 3, 1), (41, .goto 20, 3), (44, .aload_n 0, 1), (45, .getfield 10, 3), (48, .iload_n 1, 1), (49, .aload_n 0, 1), (50, .getfield 10, 3), (53, .iload_n 1, 1), (54, .invokevirtual 133, 3), (57, .iload_n 3, 1), (58, .invokevirtual 184, 3), (61, .ireturn, 1)]
theorem DX5_stand : zD cX5_stand dlX5_stand = true := by decide +kernel
set_option maxRecDepth 20000 in
theorem ggX5_stand_X4_hasGift : GoodIn wsX5_stand wsX4_hasGift := goodIn_r _ [6, 7, 8, 9, 10, 67, 68, 69, 70, 71, 72, 73, 74, 75, 76, 77, 78, 79, 80, 81, 82, 83, 84, 85] (by decide +kernel) (by decide +kernel)
set_option maxRecDepth 20000 in
theorem gX5_stand_X4_hasGift : GoodIn wsX5_stand (wsV RX5 114 RX4 yX4_hasGift wsX4_hasGift) := goodIn_app (goodIn_of _ (by decide +kernel)) ggX5_stand_X4_hasGift
set_option maxRecDepth 20000 in
theorem ggX5_stand_X5_within : GoodIn wsX5_stand wsX5_within := goodIn_r _ [10] (by decide +kernel) (by decide +kernel)
set_option maxRecDepth 20000 in
theorem gX5_stand_X5_within : GoodIn wsX5_stand (va_wsS RX5 174 yX5_within wsX5_within) := goodIn_app (goodIn_of _ (by decide +kernel)) ggX5_stand_X5_within
set_option maxRecDepth 20000 in
theorem ggX5_stand_X5_counted : GoodIn wsX5_stand wsX5_counted := goodIn_r _ [15, 16, 17, 18, 54, 55, 56, 57, 58, 59, 60, 61, 62, 63, 64, 65, 66] (by decide +kernel) (by decide +kernel)
set_option maxRecDepth 20000 in
theorem gX5_stand_X5_counted : GoodIn wsX5_stand (wsV RX5 67 RX5 yX5_counted wsX5_counted) := goodIn_app (goodIn_of _ (by decide +kernel)) ggX5_stand_X5_counted
set_option maxRecDepth 20000 in
theorem ggX5_stand_X1_hourOfLeastHarm : GoodIn wsX5_stand wsX1_hourOfLeastHarm := goodIn_r _ [22, 23, 24, 25, 5, 26, 27, 28, 29, 30, 31, 32, 33, 34, 35, 36, 37, 38, 39, 40, 41, 42, 43, 44, 45, 9, 46, 47, 48, 49, 50, 51, 67, 68, 69, 70, 71, 72, 73, 74, 75, 76, 77, 78, 79, 80, 81, 82, 83, 84, 85] (by decide +kernel) (by decide +kernel)
set_option maxRecDepth 20000 in
theorem gX5_stand_X1_hourOfLeastHarm : GoodIn wsX5_stand (va_wsS RX5 220 yX1_hourOfLeastHarm wsX1_hourOfLeastHarm) := goodIn_app (goodIn_of _ (by decide +kernel)) ggX5_stand_X1_hourOfLeastHarm
set_option maxRecDepth 20000 in
theorem ggX5_stand_X4_inside : GoodIn wsX5_stand wsX4_inside := goodIn_r _ [26, 27, 28, 67, 68, 69, 70, 71, 72, 73, 74, 75, 76, 77, 78, 79, 80, 81, 82, 83, 84, 85] (by decide +kernel) (by decide +kernel)
set_option maxRecDepth 20000 in
theorem gX5_stand_X4_inside : GoodIn wsX5_stand (wsV RX5 133 RX4 yX4_inside wsX4_inside) := goodIn_app (goodIn_of _ (by decide +kernel)) ggX5_stand_X4_inside
set_option maxRecDepth 20000 in
theorem ggX5_stand_X4_loss : GoodIn wsX5_stand wsX4_loss := goodIn_r _ [32, 33, 34, 35, 36, 37, 38, 39, 40, 5, 41, 42, 43, 44, 45, 9, 46, 47, 48, 49, 50, 51, 67, 68, 69, 70, 71, 72, 73, 74, 75, 76, 77, 78, 79, 80, 81, 82, 83, 84, 85] (by decide +kernel) (by decide +kernel)
set_option maxRecDepth 20000 in
theorem gX5_stand_X4_loss : GoodIn wsX5_stand (wsV RX5 184 RX4 yX4_loss wsX4_loss) := goodIn_app (goodIn_of _ (by decide +kernel)) ggX5_stand_X4_loss
theorem hd5_stand : yX5_stand.cls = RX5 ∧ yX5_stand.cls ≠ "java/lang/invoke/MethodHandle" ∧ yX5_stand.cls ≠ "java/lang/invoke/VarHandle" ∧ (parseMethodDescriptor yX5_stand.desc).map (fun d => d.parameters.length) = some 2 := by decide +kernel
abbrev rm5_stand : Room := { frames := 4, cells := 0, slots := 0, locals := 93 }
theorem in5_stand_5 : ∀ w ∈ wsX50, w ∈ wsX5_stand := fun w h => List.mem_cons_of_mem _ (List.mem_append_left _ (List.mem_append_right _ h))
set_option maxHeartbeats 4000000 in
set_option maxRecDepth 100000 in
theorem c5_stand {l : Launch} {D : va_G} {cI cZ cB : ClassId} {q : Nat → Nat} {qw : Nat → Nat} {qt : Nat → Nat} {qi : Nat → Nat} {qj : Nat → Nat} {qb : Nat → Nat} {qx : Nat → Nat} {sz : Nat} {kept0 : Int32} {kept1 : Int32} {fabove : Int64} {fbelow : Int64} {bads : Int32} {noes : Int32} {fulls : Int32} {w_things : Int32} {w_gifts : Int32} {w_days : Int32} {w_size : Nat → Int32} {w_weight : Nat → Int32} {w_sound : Nat → Int32} {w_harm : Nat → Int32} {w_in_ : Nat → Int32} {w_kind : Nat → Int32} {w_owner : Nat → Int32} {w_empty : Nat → Int32} {w_room : Nat → Int32} {w_told : Nat → Int32} {w_gate : Nat → Int32} {w_ear : Nat → Int32} {w_scale : Nat → Int32} {w_lost : Nat → Int32} {w_watch : Nat → Int32} {w_moments : Int32} {w_kept : Nat → Int32} {a_gift : Int32} {a_what : Int32} {r : Int32} {d_bads : Int32} {d_noes : Int32} {d_fulls : Int32} (hf : f5_stand bads noes fulls w_things w_gifts w_days w_harm w_in_ w_kind w_owner w_watch a_gift a_what = some (r, d_bads, d_noes, d_fulls)) : Met l yX5_stand wsX5_stand rm5_stand (zPm D cI cZ cB [.ref (q 0), .int a_gift, .int a_what] sz (zcat [(cHG q (qw 0) (qt 0) (qi 0) (qj 0) (qb 0) (qx 0) kept0 kept1 fabove fbelow bads noes fulls), (cWar cI qw w_things w_gifts w_days w_size w_weight w_sound w_harm w_in_ w_kind w_owner w_empty w_room w_told w_gate w_ear w_scale w_lost w_watch w_moments w_kept)])) (zQm D (some (.int r)) (zcat [(cHG q (qw 0) (qt 0) (qi 0) (qj 0) (qb 0) (qx 0) kept0 kept1 fabove fbelow d_bads d_noes d_fulls), (cWar cI qw w_things w_gifts w_days w_size w_weight w_sound w_harm w_in_ w_kind w_owner w_empty w_room w_told w_gate w_ear w_scale w_lost w_watch w_moments w_kept)]) (va_A (zcat [(cHG q (qw 0) (qt 0) (qi 0) (qj 0) (qb 0) (qx 0) kept0 kept1 fabove fbelow bads noes fulls), (cWar cI qw w_things w_gifts w_days w_size w_weight w_sound w_harm w_in_ w_kind w_owner w_empty w_room w_told w_gate w_ear w_scale w_lost w_watch w_moments w_kept)]) sz)) 0 0 (va_A (zcat [(cHG q (qw 0) (qt 0) (qi 0) (qj 0) (qb 0) (qx 0) kept0 kept1 fabove fbelow bads noes fulls), (cWar cI qw w_things w_gifts w_days w_size w_weight w_sound w_harm w_in_ w_kind w_owner w_empty w_room w_told w_gate w_ear w_scale w_lost w_watch w_moments w_kept)]) sz) := by
  unfold f5_stand at hf
  refine z_mutI RX5 (by decide +kernel) rfl rfl (Nat.le_of_ble_eq_true rfl) ?_
  intro p e s m args below meth c Q A ls hx hb hml hown hts hK hP hD hS hA hret hl
  have hl : lv_has ls 4 [(0, .ref (q 0)), (1, .int a_gift), (2, .int a_what)] := hl
  refine lv_aload_n hx hb (zD_g DX5_stand 0 rfl) rfl (lv_at hl 0 rfl) ?_
  refine va_get (D := D) (ci := 4) (v := .ref (qw 0)) (C := RX5) (T := TX5) (N := 13) hx hb hts in5_stand_5 hown hK.1 hP 0 rfl rfl 0 (by decide) (hts _ (List.mem_of_getElem? (i := 1) rfl)) (fun _ h9 => h9) rfl (zD_g DX5_stand 1 rfl) ?_
  refine lv_iload_n hx hb (zD_g DX5_stand 2 rfl) rfl (lv_at hl 1 rfl) ?_
  obtain ⟨r1, hc2, hf⟩ := zb1_s hf
  refine z_Vp (As := [.int a_gift]) (rest := []) ⟨hx, hb, hml, hown, hts⟩ hK (c4_hasGift (things := w_things) (gifts := w_gifts) (days := w_days) (size := w_size) (weight := w_weight) (sound := w_sound) (harm := w_harm) (in_ := w_in_) (kind := w_kind) (owner := w_owner) (empty := w_empty) (room := w_room) (told := w_told) (gate := w_gate) (ear := w_ear) (scale := w_scale) (lost := w_lost) (watch := w_watch) (moments := w_moments) (kept := w_kept) (q := qw) hc2) (cwV 1 hts gX5_stand_X4_hasGift rfl rfl rfl hd4_hasGift ⟨Nat.le_of_ble_eq_true rfl, Nat.le_of_ble_eq_true rfl⟩) (zsubP hP [1] rfl) rfl rfl rfl rfl hl.1 rfl rfl (Nat.le_of_ble_eq_true rfl) (zD_g DX5_stand 3 rfl) ⟨Nat.zero_le _, Nat.zero_le _⟩ ?_
  refine lv_if_eq (tgt := 20) hx hb (zD_g DX5_stand 4 rfl) (by decide) (fun c3 => ?_) (fun c3 => ?_)
  · replace hf := z_t c3 hf
    refine lv_aload_n hx hb (zD_g DX5_stand 10 rfl) rfl (lv_at hl 0 rfl) ?_
    refine lv_bipush (v := (-2 : Int32)) hx hb (zD_g DX5_stand 11 rfl) (by decide) ?_
    obtain ⟨r4, bads_5, noes_6, fulls_7, hc8, hf⟩ := zb4_s hf
    refine z_VB (As := [.int (-2 : Int32)]) (rest := []) (cs' := [(cHG q (qw 0) (qt 0) (qi 0) (qj 0) (qb 0) (qx 0) kept0 kept1 fabove fbelow bads_5 noes_6 fulls_7)]) (ws' := (zcat [(cHG q (qw 0) (qt 0) (qi 0) (qj 0) (qb 0) (qx 0) kept0 kept1 fabove fbelow bads_5 noes_6 fulls_7), (cWar cI qw w_things w_gifts w_days w_size w_weight w_sound w_harm w_in_ w_kind w_owner w_empty w_room w_told w_gate w_ear w_scale w_lost w_watch w_moments w_kept)])) ⟨hx, hb, hml, hown, hts⟩ hK (c5_counted (kept0 := kept0) (kept1 := kept1) (fabove := fabove) (fbelow := fbelow) (bads := bads) (noes := noes) (fulls := fulls) (q := q) (qw := qw) (qt := qt) (qi := qi) (qj := qj) (qb := qb) (qx := qx) hc8) (cwV 1 hts gX5_stand_X5_counted rfl rfl rfl hd5_counted ⟨Nat.le_of_ble_eq_true rfl, Nat.le_of_ble_eq_true rfl⟩) hP hD hS hA 2 [0] [1] [1, 0] (by decide +kernel) rfl rfl rfl rfl rfl rfl rfl rfl rfl hl.1 rfl rfl (Nat.le_of_ble_eq_true rfl) (zD_g DX5_stand 12 rfl) ⟨Nat.zero_le _, Nat.zero_le _⟩ (fun H locs hP hD hS => ?_)
    cases hf
    exact hret _ _ _ _ hP hD hS (zD_g DX5_stand 13 rfl)
  · replace hf := z_f c3 hf
    refine lv_iload_n hx hb (zD_g DX5_stand 5 rfl) rfl (lv_at hl 2 rfl) ?_
    refine lv_iconst (v := (0 : Int32)) hx hb (zD_g DX5_stand 6 rfl) (by decide) ?_
    refine lv_iconst (v := (1 : Int32)) hx hb (zD_g DX5_stand 7 rfl) (by decide) ?_
    obtain ⟨r9, hc10, hf⟩ := zb1_s hf
    refine z_Sp (As := [.int a_what, .int (0 : Int32), .int (1 : Int32)]) (rest := []) ⟨hx, hb, hml, hown, hts⟩ hK (c5_within  hc10) (va_cwS 3 hts gX5_stand_X5_within rfl rfl rfl hd5_within ⟨Nat.le_of_ble_eq_true rfl, Nat.le_of_ble_eq_true rfl⟩) (hP.sub [] rfl) rfl hl.1 rfl rfl (Nat.le_of_ble_eq_true rfl) (zD_g DX5_stand 8 rfl) ⟨Nat.zero_le _, Nat.zero_le _⟩ ?_
    refine lv_if_ne (tgt := 27) hx hb (zD_g DX5_stand 9 rfl) (by decide) (fun c11 => ?_) (fun c11 => ?_)
    · replace hf := z_f c11 hf
      refine lv_aload_n hx hb (zD_g DX5_stand 14 rfl) rfl (lv_at hl 0 rfl) ?_
      refine va_get (D := D) (ci := 4) (v := .ref (qw 0)) (C := RX5) (T := TX5) (N := 13) hx hb hts in5_stand_5 hown hK.1 hP 0 rfl rfl 0 (by decide) (hts _ (List.mem_of_getElem? (i := 1) rfl)) (fun _ h9 => h9) rfl (zD_g DX5_stand 15 rfl) ?_
      refine lv_iload_n hx hb (zD_g DX5_stand 16 rfl) rfl (lv_at hl 1 rfl) ?_
      obtain ⟨r12, hc13, hf⟩ := zb1_s hf
      refine z_Sp (As := [.ref (qw 0), .int a_gift]) (rest := []) ⟨hx, hb, hml, hown, hts⟩ hK (c1_hourOfLeastHarm (things := w_things) (gifts := w_gifts) (days := w_days) (size := w_size) (weight := w_weight) (sound := w_sound) (harm := w_harm) (in_ := w_in_) (kind := w_kind) (owner := w_owner) (empty := w_empty) (room := w_room) (told := w_told) (gate := w_gate) (ear := w_ear) (scale := w_scale) (lost := w_lost) (watch := w_watch) (moments := w_moments) (kept := w_kept) (q := qw) hc13) (va_cwS 2 hts gX5_stand_X1_hourOfLeastHarm rfl rfl rfl hd1_hourOfLeastHarm ⟨Nat.le_of_ble_eq_true rfl, Nat.le_of_ble_eq_true rfl⟩) (zsubP hP [1] rfl) rfl hl.1 rfl rfl (Nat.le_of_ble_eq_true rfl) (zD_g DX5_stand 17 rfl) ⟨Nat.zero_le _, Nat.zero_le _⟩ ?_
      refine lv_istore_n (lv' := [(3, .int r12), (0, .ref (q 0)), (1, .int a_gift), (2, .int a_what)]) hx hb (zD_g DX5_stand 18 rfl) rfl hl (by decide) rfl (fun ls hl => ?_)
      refine lv_iload_n hx hb (zD_g DX5_stand 19 rfl) rfl (lv_at hl 3 rfl) ?_
      refine lv_if_ne (tgt := 44) hx hb (zD_g DX5_stand 20 rfl) (by decide) (fun c14 => ?_) (fun c14 => ?_)
      · replace hf := z_f c14 hf
        refine lv_aload_n hx hb (zD_g DX5_stand 23 rfl) rfl (lv_at hl 1 rfl) ?_
        refine va_get (D := D) (ci := 4) (v := .ref (qw 0)) (C := RX5) (T := TX5) (N := 13) hx hb hts in5_stand_5 hown hK.1 hP 0 rfl rfl 0 (by decide) (hts _ (List.mem_of_getElem? (i := 1) rfl)) (fun _ h9 => h9) rfl (zD_g DX5_stand 24 rfl) ?_
        refine lv_iload_n hx hb (zD_g DX5_stand 25 rfl) rfl (lv_at hl 2 rfl) ?_
        refine lv_aload_n hx hb (zD_g DX5_stand 26 rfl) rfl (lv_at hl 1 rfl) ?_
        refine va_get (D := D) (ci := 4) (v := .ref (qw 0)) (C := RX5) (T := TX5) (N := 13) hx hb hts in5_stand_5 hown hK.1 hP 0 rfl rfl 0 (by decide) (hts _ (List.mem_of_getElem? (i := 1) rfl)) (fun _ h9 => h9) rfl (zD_g DX5_stand 27 rfl) ?_
        refine lv_iload_n hx hb (zD_g DX5_stand 28 rfl) rfl (lv_at hl 2 rfl) ?_
        obtain ⟨r15, hc16, hf⟩ := zb1_s hf
        refine z_Vp (As := [.int a_gift]) (rest := [.int a_gift, .ref (qw 0)]) ⟨hx, hb, hml, hown, hts⟩ hK (c4_inside (things := w_things) (gifts := w_gifts) (days := w_days) (size := w_size) (weight := w_weight) (sound := w_sound) (harm := w_harm) (in_ := w_in_) (kind := w_kind) (owner := w_owner) (empty := w_empty) (room := w_room) (told := w_told) (gate := w_gate) (ear := w_ear) (scale := w_scale) (lost := w_lost) (watch := w_watch) (moments := w_moments) (kept := w_kept) (q := qw) hc16) (cwV 1 hts gX5_stand_X4_inside rfl rfl rfl hd4_inside ⟨Nat.le_of_ble_eq_true rfl, Nat.le_of_ble_eq_true rfl⟩) (zsubP hP [1] rfl) rfl rfl rfl rfl hl.1 rfl rfl (Nat.le_of_ble_eq_true rfl) (zD_g DX5_stand 29 rfl) ⟨Nat.zero_le _, Nat.zero_le _⟩ ?_
        refine lv_iload_n hx hb (zD_g DX5_stand 30 rfl) rfl (lv_at hl 0 rfl) ?_
        obtain ⟨r17, hc18, hf⟩ := zb1_s hf
        refine z_Vp (As := [.int a_gift, .int r15, .int r12]) (rest := []) ⟨hx, hb, hml, hown, hts⟩ hK (c4_loss (things := w_things) (gifts := w_gifts) (days := w_days) (size := w_size) (weight := w_weight) (sound := w_sound) (harm := w_harm) (in_ := w_in_) (kind := w_kind) (owner := w_owner) (empty := w_empty) (room := w_room) (told := w_told) (gate := w_gate) (ear := w_ear) (scale := w_scale) (lost := w_lost) (watch := w_watch) (moments := w_moments) (kept := w_kept) (q := qw) hc18) (cwV 3 hts gX5_stand_X4_loss rfl rfl rfl hd4_loss ⟨Nat.le_of_ble_eq_true rfl, Nat.le_of_ble_eq_true rfl⟩) (zsubP hP [1] rfl) rfl rfl rfl rfl hl.1 rfl rfl (Nat.le_of_ble_eq_true rfl) (zD_g DX5_stand 31 rfl) ⟨Nat.zero_le _, Nat.zero_le _⟩ ?_
        cases hf
        exact hret _ _ _ _ hP hD hS (zD_g DX5_stand 32 rfl)
      · replace hf := z_t c14 hf
        refine lv_iload_n hx hb (zD_g DX5_stand 21 rfl) rfl (lv_at hl 0 rfl) ?_
        refine lv_goto (tgt := 61) hx hb (zD_g DX5_stand 22 rfl) (by decide) ?_
        cases hf
        exact hret _ _ _ _ hP hD hS (zD_g DX5_stand 32 rfl)
    · replace hf := z_t c11 hf
      refine lv_aload_n hx hb (zD_g DX5_stand 10 rfl) rfl (lv_at hl 0 rfl) ?_
      refine lv_bipush (v := (-2 : Int32)) hx hb (zD_g DX5_stand 11 rfl) (by decide) ?_
      obtain ⟨r19, bads_20, noes_21, fulls_22, hc23, hf⟩ := zb4_s hf
      refine z_VB (As := [.int (-2 : Int32)]) (rest := []) (cs' := [(cHG q (qw 0) (qt 0) (qi 0) (qj 0) (qb 0) (qx 0) kept0 kept1 fabove fbelow bads_20 noes_21 fulls_22)]) (ws' := (zcat [(cHG q (qw 0) (qt 0) (qi 0) (qj 0) (qb 0) (qx 0) kept0 kept1 fabove fbelow bads_20 noes_21 fulls_22), (cWar cI qw w_things w_gifts w_days w_size w_weight w_sound w_harm w_in_ w_kind w_owner w_empty w_room w_told w_gate w_ear w_scale w_lost w_watch w_moments w_kept)])) ⟨hx, hb, hml, hown, hts⟩ hK (c5_counted (kept0 := kept0) (kept1 := kept1) (fabove := fabove) (fbelow := fbelow) (bads := bads) (noes := noes) (fulls := fulls) (q := q) (qw := qw) (qt := qt) (qi := qi) (qj := qj) (qb := qb) (qx := qx) hc23) (cwV 1 hts gX5_stand_X5_counted rfl rfl rfl hd5_counted ⟨Nat.le_of_ble_eq_true rfl, Nat.le_of_ble_eq_true rfl⟩) hP hD hS hA 2 [0] [1] [1, 0] (by decide +kernel) rfl rfl rfl rfl rfl rfl rfl rfl rfl hl.1 rfl rfl (Nat.le_of_ble_eq_true rfl) (zD_g DX5_stand 12 rfl) ⟨Nat.zero_le _, Nat.zero_le _⟩ (fun H locs hP hD hS => ?_)
      cases hf
      exact hret _ _ _ _ hP hD hS (zD_g DX5_stand 13 rfl)
abbrev dlX5_tell : List (Nat × Instr × Nat) := [(0, .aload_n 0, 1), (1, .getfield 10, 3), (4, .iload_n 1, 1), (5, .invokevirtual 114, 3), (8, .ifCond .eq 13, 3), (11, .iload_n 2, 1), (12, .iconst 0, 1), (13, .bipush 99, 2), (15, .invokestatic 174, 3), (18, .ifCond .ne 10, 3), (21, .aload_n 0, 1), (22, .bipush (-2), 2), (24, .invokevirtual 67, 3), (27, .ireturn, 1), (28, .aload_n 0, 1), (29, .getfield 10, 3), (32, .getfield 223, 3), (35, .iload_n 1, 1), (36, .iaload, 1), (37, .istore_n 3, 1), (38, .aload_n 0, 1), (39, .getfield 10, 3), (42, .getfield 223, 3), (45, .iload_n 1, 1), (46, .iload_n 2, 1), (47, .iastore, 1), (48, .iload_n 3, 1), (49, .ireturn, 1)]
theorem DX5_tell : zD cX5_tell dlX5_tell = true := by decide +kernel
set_option maxRecDepth 20000 in
theorem ggX5_tell_X4_hasGift : GoodIn wsX5_tell wsX4_hasGift := goodIn_r _ [7, 8, 9, 10, 11, 33, 34, 35, 36, 37, 38, 39, 40, 41, 42, 43, 44, 45, 46, 47, 48, 49, 50, 51] (by decide +kernel) (by decide +kernel)
set_option maxRecDepth 20000 in
theorem gX5_tell_X4_hasGift : GoodIn wsX5_tell (wsV RX5 114 RX4 yX4_hasGift wsX4_hasGift) := goodIn_app (goodIn_of _ (by decide +kernel)) ggX5_tell_X4_hasGift
set_option maxRecDepth 20000 in
theorem ggX5_tell_X5_within : GoodIn wsX5_tell wsX5_within := goodIn_r _ [11] (by decide +kernel) (by decide +kernel)
set_option maxRecDepth 20000 in
theorem gX5_tell_X5_within : GoodIn wsX5_tell (va_wsS RX5 174 yX5_within wsX5_within) := goodIn_app (goodIn_of _ (by decide +kernel)) ggX5_tell_X5_within
set_option maxRecDepth 20000 in
theorem ggX5_tell_X5_counted : GoodIn wsX5_tell wsX5_counted := goodIn_r _ [16, 17, 18, 19, 20, 21, 22, 23, 24, 25, 26, 27, 28, 29, 30, 31, 32] (by decide +kernel) (by decide +kernel)
set_option maxRecDepth 20000 in
theorem gX5_tell_X5_counted : GoodIn wsX5_tell (wsV RX5 67 RX5 yX5_counted wsX5_counted) := goodIn_app (goodIn_of _ (by decide +kernel)) ggX5_tell_X5_counted
theorem hd5_tell : yX5_tell.cls = RX5 ∧ yX5_tell.cls ≠ "java/lang/invoke/MethodHandle" ∧ yX5_tell.cls ≠ "java/lang/invoke/VarHandle" ∧ (parseMethodDescriptor yX5_tell.desc).map (fun d => d.parameters.length) = some 2 := by decide +kernel
abbrev rm5_tell : Room := { frames := 2, cells := 0, slots := 0, locals := 43 }
theorem in5_tell_4 : ∀ w ∈ wsX40, w ∈ wsX5_tell := fun w h => List.mem_cons_of_mem _ (List.mem_append_right _ h)
theorem in5_tell_5 : ∀ w ∈ wsX50, w ∈ wsX5_tell := fun w h => List.mem_cons_of_mem _ (List.mem_append_left _ (List.mem_append_right _ h))
set_option maxHeartbeats 4000000 in
set_option maxRecDepth 100000 in
theorem c5_tell {l : Launch} {D : va_G} {cI cZ cB : ClassId} {q : Nat → Nat} {qw : Nat → Nat} {qt : Nat → Nat} {qi : Nat → Nat} {qj : Nat → Nat} {qb : Nat → Nat} {qx : Nat → Nat} {sz : Nat} {kept0 : Int32} {kept1 : Int32} {fabove : Int64} {fbelow : Int64} {bads : Int32} {noes : Int32} {fulls : Int32} {w_things : Int32} {w_gifts : Int32} {w_days : Int32} {w_size : Nat → Int32} {w_weight : Nat → Int32} {w_sound : Nat → Int32} {w_harm : Nat → Int32} {w_in_ : Nat → Int32} {w_kind : Nat → Int32} {w_owner : Nat → Int32} {w_empty : Nat → Int32} {w_room : Nat → Int32} {w_told : Nat → Int32} {w_gate : Nat → Int32} {w_ear : Nat → Int32} {w_scale : Nat → Int32} {w_lost : Nat → Int32} {w_watch : Nat → Int32} {w_moments : Int32} {w_kept : Nat → Int32} {a_gift : Int32} {a_n : Int32} {r : Int32} {d_bads : Int32} {d_noes : Int32} {d_fulls : Int32} {d_w_told : Nat → Int32} (hf : f5_tell bads noes fulls w_gifts w_told a_gift a_n = some (r, d_bads, d_noes, d_fulls, d_w_told)) : Met l yX5_tell wsX5_tell rm5_tell (zPm D cI cZ cB [.ref (q 0), .int a_gift, .int a_n] sz (zcat [(cHG q (qw 0) (qt 0) (qi 0) (qj 0) (qb 0) (qx 0) kept0 kept1 fabove fbelow bads noes fulls), (cWar cI qw w_things w_gifts w_days w_size w_weight w_sound w_harm w_in_ w_kind w_owner w_empty w_room w_told w_gate w_ear w_scale w_lost w_watch w_moments w_kept)])) (zQm D (some (.int r)) (zcat [(cHG q (qw 0) (qt 0) (qi 0) (qj 0) (qb 0) (qx 0) kept0 kept1 fabove fbelow d_bads d_noes d_fulls), (cWar cI qw w_things w_gifts w_days w_size w_weight w_sound w_harm w_in_ w_kind w_owner w_empty w_room d_w_told w_gate w_ear w_scale w_lost w_watch w_moments w_kept)]) (va_A (zcat [(cHG q (qw 0) (qt 0) (qi 0) (qj 0) (qb 0) (qx 0) kept0 kept1 fabove fbelow bads noes fulls), (cWar cI qw w_things w_gifts w_days w_size w_weight w_sound w_harm w_in_ w_kind w_owner w_empty w_room w_told w_gate w_ear w_scale w_lost w_watch w_moments w_kept)]) sz)) 0 0 (va_A (zcat [(cHG q (qw 0) (qt 0) (qi 0) (qj 0) (qb 0) (qx 0) kept0 kept1 fabove fbelow bads noes fulls), (cWar cI qw w_things w_gifts w_days w_size w_weight w_sound w_harm w_in_ w_kind w_owner w_empty w_room w_told w_gate w_ear w_scale w_lost w_watch w_moments w_kept)]) sz) := by
  unfold f5_tell at hf
  refine z_mutI RX5 (by decide +kernel) rfl rfl (Nat.le_of_ble_eq_true rfl) ?_
  intro p e s m args below meth c Q A ls hx hb hml hown hts hK hP hD hS hA hret hl
  have hl : lv_has ls 4 [(0, .ref (q 0)), (1, .int a_gift), (2, .int a_n)] := hl
  refine lv_aload_n hx hb (zD_g DX5_tell 0 rfl) rfl (lv_at hl 0 rfl) ?_
  refine va_get (D := D) (ci := 4) (v := .ref (qw 0)) (C := RX5) (T := TX5) (N := 13) hx hb hts in5_tell_5 hown hK.1 hP 0 rfl rfl 0 (by decide) (hts _ (List.mem_of_getElem? (i := 1) rfl)) (fun _ h9 => h9) rfl (zD_g DX5_tell 1 rfl) ?_
  refine lv_iload_n hx hb (zD_g DX5_tell 2 rfl) rfl (lv_at hl 1 rfl) ?_
  obtain ⟨r1, hc2, hf⟩ := zb1_s hf
  refine z_Vp (As := [.int a_gift]) (rest := []) ⟨hx, hb, hml, hown, hts⟩ hK (c4_hasGift (things := w_things) (gifts := w_gifts) (days := w_days) (size := w_size) (weight := w_weight) (sound := w_sound) (harm := w_harm) (in_ := w_in_) (kind := w_kind) (owner := w_owner) (empty := w_empty) (room := w_room) (told := w_told) (gate := w_gate) (ear := w_ear) (scale := w_scale) (lost := w_lost) (watch := w_watch) (moments := w_moments) (kept := w_kept) (q := qw) hc2) (cwV 1 hts gX5_tell_X4_hasGift rfl rfl rfl hd4_hasGift ⟨Nat.le_of_ble_eq_true rfl, Nat.le_of_ble_eq_true rfl⟩) (zsubP hP [1] rfl) rfl rfl rfl rfl hl.1 rfl rfl (Nat.le_of_ble_eq_true rfl) (zD_g DX5_tell 3 rfl) ⟨Nat.zero_le _, Nat.zero_le _⟩ ?_
  refine lv_if_eq (tgt := 21) hx hb (zD_g DX5_tell 4 rfl) (by decide) (fun c3 => ?_) (fun c3 => ?_)
  · replace hf := z_t c3 hf
    refine lv_aload_n hx hb (zD_g DX5_tell 10 rfl) rfl (lv_at hl 0 rfl) ?_
    refine lv_bipush (v := (-2 : Int32)) hx hb (zD_g DX5_tell 11 rfl) (by decide) ?_
    obtain ⟨r4, bads_5, noes_6, fulls_7, hc8, hf⟩ := zb4_s hf
    refine z_VB (As := [.int (-2 : Int32)]) (rest := []) (cs' := [(cHG q (qw 0) (qt 0) (qi 0) (qj 0) (qb 0) (qx 0) kept0 kept1 fabove fbelow bads_5 noes_6 fulls_7)]) (ws' := (zcat [(cHG q (qw 0) (qt 0) (qi 0) (qj 0) (qb 0) (qx 0) kept0 kept1 fabove fbelow bads_5 noes_6 fulls_7), (cWar cI qw w_things w_gifts w_days w_size w_weight w_sound w_harm w_in_ w_kind w_owner w_empty w_room w_told w_gate w_ear w_scale w_lost w_watch w_moments w_kept)])) ⟨hx, hb, hml, hown, hts⟩ hK (c5_counted (kept0 := kept0) (kept1 := kept1) (fabove := fabove) (fbelow := fbelow) (bads := bads) (noes := noes) (fulls := fulls) (q := q) (qw := qw) (qt := qt) (qi := qi) (qj := qj) (qb := qb) (qx := qx) hc8) (cwV 1 hts gX5_tell_X5_counted rfl rfl rfl hd5_counted ⟨Nat.le_of_ble_eq_true rfl, Nat.le_of_ble_eq_true rfl⟩) hP hD hS hA 2 [0] [1] [1, 0] (by decide +kernel) rfl rfl rfl rfl rfl rfl rfl rfl rfl hl.1 rfl rfl (Nat.le_of_ble_eq_true rfl) (zD_g DX5_tell 12 rfl) ⟨Nat.zero_le _, Nat.zero_le _⟩ (fun H locs hP hD hS => ?_)
    cases hf
    exact hret _ _ _ _ hP hD hS (zD_g DX5_tell 13 rfl)
  · replace hf := z_f c3 hf
    refine lv_iload_n hx hb (zD_g DX5_tell 5 rfl) rfl (lv_at hl 2 rfl) ?_
    refine lv_iconst (v := (0 : Int32)) hx hb (zD_g DX5_tell 6 rfl) (by decide) ?_
    refine lv_bipush (v := (99 : Int32)) hx hb (zD_g DX5_tell 7 rfl) (by decide) ?_
    obtain ⟨r9, hc10, hf⟩ := zb1_s hf
    refine z_Sp (As := [.int a_n, .int (0 : Int32), .int (99 : Int32)]) (rest := []) ⟨hx, hb, hml, hown, hts⟩ hK (c5_within  hc10) (va_cwS 3 hts gX5_tell_X5_within rfl rfl rfl hd5_within ⟨Nat.le_of_ble_eq_true rfl, Nat.le_of_ble_eq_true rfl⟩) (hP.sub [] rfl) rfl hl.1 rfl rfl (Nat.le_of_ble_eq_true rfl) (zD_g DX5_tell 8 rfl) ⟨Nat.zero_le _, Nat.zero_le _⟩ ?_
    refine lv_if_ne (tgt := 28) hx hb (zD_g DX5_tell 9 rfl) (by decide) (fun c11 => ?_) (fun c11 => ?_)
    · replace hf := z_f c11 hf
      refine lv_aload_n hx hb (zD_g DX5_tell 14 rfl) rfl (lv_at hl 0 rfl) ?_
      refine va_get (D := D) (ci := 4) (v := .ref (qw 0)) (C := RX5) (T := TX5) (N := 13) hx hb hts in5_tell_5 hown hK.1 hP 0 rfl rfl 0 (by decide) (hts _ (List.mem_of_getElem? (i := 1) rfl)) (fun _ h9 => h9) rfl (zD_g DX5_tell 15 rfl) ?_
      refine va_get (D := D) (ci := 3) (v := .ref (qw 10)) (C := RX4) (T := TX4) (N := 19) hx hb hts in5_tell_4 hown hK.1 hP 1 rfl rfl 12 (by decide) (hts _ (List.mem_of_getElem? (i := 2) rfl)) (fun _ h9 => h9) rfl (zD_g DX5_tell 16 rfl) ?_
      refine lv_iload_n hx hb (zD_g DX5_tell 17 rfl) rfl (lv_at hl 1 rfl) ?_
      obtain ⟨h12, hf⟩ := zg_s hf
      refine z_iald (k := a_gift.toNatClampNeg) hx hb hK.1 hP 11 0 rfl rfl h12 rfl (zD_g DX5_tell 18 rfl) ?_
      refine lv_topi (fun x13 ex13 => ?_)
      replace hf := zl_s hf x13 ex13
      refine lv_istore_n (lv' := [(3, .int x13), (0, .ref (q 0)), (1, .int a_gift), (2, .int a_n)]) hx hb (zD_g DX5_tell 19 rfl) rfl hl (by decide) rfl (fun ls hl => ?_)
      refine lv_aload_n hx hb (zD_g DX5_tell 20 rfl) rfl (lv_at hl 1 rfl) ?_
      refine va_get (D := D) (ci := 4) (v := .ref (qw 0)) (C := RX5) (T := TX5) (N := 13) hx hb hts in5_tell_5 hown hK.1 hP 0 rfl rfl 0 (by decide) (hts _ (List.mem_of_getElem? (i := 1) rfl)) (fun _ h9 => h9) rfl (zD_g DX5_tell 21 rfl) ?_
      refine va_get (D := D) (ci := 3) (v := .ref (qw 10)) (C := RX4) (T := TX4) (N := 19) hx hb hts in5_tell_4 hown hK.1 hP 1 rfl rfl 12 (by decide) (hts _ (List.mem_of_getElem? (i := 2) rfl)) (fun _ h9 => h9) rfl (zD_g DX5_tell 22 rfl) ?_
      refine lv_iload_n hx hb (zD_g DX5_tell 23 rfl) rfl (lv_at hl 2 rfl) ?_
      refine lv_iload_n hx hb (zD_g DX5_tell 24 rfl) rfl (lv_at hl 3 rfl) ?_
      obtain ⟨h14, hf⟩ := zg_s hf
      refine z_iast (k := a_gift.toNatClampNeg) (ws' := (zcat [(cHG q (qw 0) (qt 0) (qi 0) (qj 0) (qb 0) (qx 0) kept0 kept1 fabove fbelow bads noes fulls), (cWar cI qw w_things w_gifts w_days w_size w_weight w_sound w_harm w_in_ w_kind w_owner w_empty w_room (upd w_told a_gift.toNatClampNeg a_n) w_gate w_ear w_scale w_lost w_watch w_moments w_kept)])) hx hb hK.1 hP hD hS 11 0 rfl rfl h14 rfl rfl (zD_g DX5_tell 25 rfl) (fun H locs hP hD hS => ?_)
      refine lv_iload_n hx hb (zD_g DX5_tell 26 rfl) rfl (lv_at hl 0 rfl) ?_
      cases hf
      exact hret _ _ _ _ hP hD hS (zD_g DX5_tell 27 rfl)
    · replace hf := z_t c11 hf
      refine lv_aload_n hx hb (zD_g DX5_tell 10 rfl) rfl (lv_at hl 0 rfl) ?_
      refine lv_bipush (v := (-2 : Int32)) hx hb (zD_g DX5_tell 11 rfl) (by decide) ?_
      obtain ⟨r15, bads_16, noes_17, fulls_18, hc19, hf⟩ := zb4_s hf
      refine z_VB (As := [.int (-2 : Int32)]) (rest := []) (cs' := [(cHG q (qw 0) (qt 0) (qi 0) (qj 0) (qb 0) (qx 0) kept0 kept1 fabove fbelow bads_16 noes_17 fulls_18)]) (ws' := (zcat [(cHG q (qw 0) (qt 0) (qi 0) (qj 0) (qb 0) (qx 0) kept0 kept1 fabove fbelow bads_16 noes_17 fulls_18), (cWar cI qw w_things w_gifts w_days w_size w_weight w_sound w_harm w_in_ w_kind w_owner w_empty w_room w_told w_gate w_ear w_scale w_lost w_watch w_moments w_kept)])) ⟨hx, hb, hml, hown, hts⟩ hK (c5_counted (kept0 := kept0) (kept1 := kept1) (fabove := fabove) (fbelow := fbelow) (bads := bads) (noes := noes) (fulls := fulls) (q := q) (qw := qw) (qt := qt) (qi := qi) (qj := qj) (qb := qb) (qx := qx) hc19) (cwV 1 hts gX5_tell_X5_counted rfl rfl rfl hd5_counted ⟨Nat.le_of_ble_eq_true rfl, Nat.le_of_ble_eq_true rfl⟩) hP hD hS hA 2 [0] [1] [1, 0] (by decide +kernel) rfl rfl rfl rfl rfl rfl rfl rfl rfl hl.1 rfl rfl (Nat.le_of_ble_eq_true rfl) (zD_g DX5_tell 12 rfl) ⟨Nat.zero_le _, Nat.zero_le _⟩ (fun H locs hP hD hS => ?_)
      cases hf
      exact hret _ _ _ _ hP hD hS (zD_g DX5_tell 13 rfl)
abbrev dlX5_sat : List (Nat × Instr × Nat) := [(0, .aload_n 0, 1), (1, .getfield 10, 3), (4, .iload_n 1, 1), (5, .invokevirtual 226, 3), (8, .ifCond .eq 10, 3), (11, .iload_n 2, 1), (12, .invokestatic 118, 3), (15, .ifCond .ne 10, 3), (18, .aload_n 0, 1), (19, .bipush (-2), 2), (21, .invokevirtual 67, 3), (24, .ireturn, 1), (25, .aload_n 0, 1), (26, .getfield 10, 3), (29, .getfield 229, 3), (32, .iload_n 1, 1), (33, .iaload, 1), (34, .iconst (-1), 1), (35, .if_icmp .eq 10, 3), (38, .aload_n 0, 1), (39, .bipush (-3), 2), (41, .invokevirtual 67, 3), (44, .ireturn, 1), (45, .aload_n 0, 1), (46, .getfield 10, 3), (49, .iload_n 1, 1), (50, .iload_n 2, 1), (51, .invokestatic 232, 3), (54, .ireturn, 1)]
theorem DX5_sat : zD cX5_sat dlX5_sat = true := by decide +kernel
set_option maxRecDepth 20000 in
theorem ggX5_sat_X4_hasThing : GoodIn wsX5_sat wsX4_hasThing := goodIn_r _ [7, 8, 9, 10, 11, 73, 74, 75, 76, 77, 78, 79, 80, 81, 82, 83, 84, 85, 86, 87, 88, 89, 90, 91] (by decide +kernel) (by decide +kernel)
set_option maxRecDepth 20000 in
theorem gX5_sat_X4_hasThing : GoodIn wsX5_sat (wsV RX5 226 RX4 yX4_hasThing wsX4_hasThing) := goodIn_app (goodIn_of _ (by decide +kernel)) ggX5_sat_X4_hasThing
set_option maxRecDepth 20000 in
theorem ggX5_sat_X5_isHour : GoodIn wsX5_sat wsX5_isHour := goodIn_r _ [14, 15, 9, 10, 11] (by decide +kernel) (by decide +kernel)
set_option maxRecDepth 20000 in
theorem gX5_sat_X5_isHour : GoodIn wsX5_sat (va_wsS RX5 118 yX5_isHour wsX5_isHour) := goodIn_app (goodIn_of _ (by decide +kernel)) ggX5_sat_X5_isHour
set_option maxRecDepth 20000 in
theorem ggX5_sat_X5_counted : GoodIn wsX5_sat wsX5_counted := goodIn_r _ [19, 20, 21, 22, 60, 61, 62, 63, 64, 65, 66, 67, 68, 69, 70, 71, 72] (by decide +kernel) (by decide +kernel)
set_option maxRecDepth 20000 in
theorem gX5_sat_X5_counted : GoodIn wsX5_sat (wsV RX5 67 RX5 yX5_counted wsX5_counted) := goodIn_app (goodIn_of _ (by decide +kernel)) ggX5_sat_X5_counted
set_option maxRecDepth 20000 in
theorem ggX5_sat_X1_giftsThatFit : GoodIn wsX5_sat wsX1_giftsThatFit := goodIn_r _ [26, 27, 28, 29, 25, 30, 31, 32, 33, 34, 6, 35, 8, 36, 37, 38, 39, 40, 41, 42, 43, 44, 45, 46, 47, 48, 49, 50, 51, 52, 53, 10, 54, 55, 56, 57, 58, 59, 73, 74, 75, 76, 77, 78, 79, 80, 81, 82, 83, 84, 85, 86, 87, 88, 89, 90, 91] (by decide +kernel) (by decide +kernel)
set_option maxRecDepth 20000 in
theorem gX5_sat_X1_giftsThatFit : GoodIn wsX5_sat (va_wsS RX5 232 yX1_giftsThatFit wsX1_giftsThatFit) := goodIn_app (goodIn_of _ (by decide +kernel)) ggX5_sat_X1_giftsThatFit
theorem hd5_sat : yX5_sat.cls = RX5 ∧ yX5_sat.cls ≠ "java/lang/invoke/MethodHandle" ∧ yX5_sat.cls ≠ "java/lang/invoke/VarHandle" ∧ (parseMethodDescriptor yX5_sat.desc).map (fun d => d.parameters.length) = some 2 := by decide +kernel
abbrev rm5_sat : Room := { frames := 5, cells := 0, slots := 0, locals := 118 }
theorem in5_sat_4 : ∀ w ∈ wsX40, w ∈ wsX5_sat := fun w h => List.mem_cons_of_mem _ (List.mem_append_right _ h)
theorem in5_sat_5 : ∀ w ∈ wsX50, w ∈ wsX5_sat := fun w h => List.mem_cons_of_mem _ (List.mem_append_left _ (List.mem_append_right _ h))
set_option maxHeartbeats 4000000 in
set_option maxRecDepth 100000 in
theorem c5_sat {l : Launch} {D : va_G} {cI cZ cB : ClassId} {q : Nat → Nat} {qw : Nat → Nat} {qt : Nat → Nat} {qi : Nat → Nat} {qj : Nat → Nat} {qb : Nat → Nat} {qx : Nat → Nat} {sz : Nat} {kept0 : Int32} {kept1 : Int32} {fabove : Int64} {fbelow : Int64} {bads : Int32} {noes : Int32} {fulls : Int32} {w_things : Int32} {w_gifts : Int32} {w_days : Int32} {w_size : Nat → Int32} {w_weight : Nat → Int32} {w_sound : Nat → Int32} {w_harm : Nat → Int32} {w_in_ : Nat → Int32} {w_kind : Nat → Int32} {w_owner : Nat → Int32} {w_empty : Nat → Int32} {w_room : Nat → Int32} {w_told : Nat → Int32} {w_gate : Nat → Int32} {w_ear : Nat → Int32} {w_scale : Nat → Int32} {w_lost : Nat → Int32} {w_watch : Nat → Int32} {w_moments : Int32} {w_kept : Nat → Int32} {a_thing : Int32} {a_hour : Int32} {r : Int32} {d_bads : Int32} {d_noes : Int32} {d_fulls : Int32} (hf : f5_sat bads noes fulls w_things w_gifts w_days w_harm w_in_ w_kind w_owner w_told w_watch a_thing a_hour = some (r, d_bads, d_noes, d_fulls)) : Met l yX5_sat wsX5_sat rm5_sat (zPm D cI cZ cB [.ref (q 0), .int a_thing, .int a_hour] sz (zcat [(cHG q (qw 0) (qt 0) (qi 0) (qj 0) (qb 0) (qx 0) kept0 kept1 fabove fbelow bads noes fulls), (cWar cI qw w_things w_gifts w_days w_size w_weight w_sound w_harm w_in_ w_kind w_owner w_empty w_room w_told w_gate w_ear w_scale w_lost w_watch w_moments w_kept)])) (zQm D (some (.int r)) (zcat [(cHG q (qw 0) (qt 0) (qi 0) (qj 0) (qb 0) (qx 0) kept0 kept1 fabove fbelow d_bads d_noes d_fulls), (cWar cI qw w_things w_gifts w_days w_size w_weight w_sound w_harm w_in_ w_kind w_owner w_empty w_room w_told w_gate w_ear w_scale w_lost w_watch w_moments w_kept)]) (va_A (zcat [(cHG q (qw 0) (qt 0) (qi 0) (qj 0) (qb 0) (qx 0) kept0 kept1 fabove fbelow bads noes fulls), (cWar cI qw w_things w_gifts w_days w_size w_weight w_sound w_harm w_in_ w_kind w_owner w_empty w_room w_told w_gate w_ear w_scale w_lost w_watch w_moments w_kept)]) sz)) 0 0 (va_A (zcat [(cHG q (qw 0) (qt 0) (qi 0) (qj 0) (qb 0) (qx 0) kept0 kept1 fabove fbelow bads noes fulls), (cWar cI qw w_things w_gifts w_days w_size w_weight w_sound w_harm w_in_ w_kind w_owner w_empty w_room w_told w_gate w_ear w_scale w_lost w_watch w_moments w_kept)]) sz) := by
  unfold f5_sat at hf
  refine z_mutI RX5 (by decide +kernel) rfl rfl (Nat.le_of_ble_eq_true rfl) ?_
  intro p e s m args below meth c Q A ls hx hb hml hown hts hK hP hD hS hA hret hl
  have hl : lv_has ls 3 [(0, .ref (q 0)), (1, .int a_thing), (2, .int a_hour)] := hl
  refine lv_aload_n hx hb (zD_g DX5_sat 0 rfl) rfl (lv_at hl 0 rfl) ?_
  refine va_get (D := D) (ci := 4) (v := .ref (qw 0)) (C := RX5) (T := TX5) (N := 13) hx hb hts in5_sat_5 hown hK.1 hP 0 rfl rfl 0 (by decide) (hts _ (List.mem_of_getElem? (i := 1) rfl)) (fun _ h9 => h9) rfl (zD_g DX5_sat 1 rfl) ?_
  refine lv_iload_n hx hb (zD_g DX5_sat 2 rfl) rfl (lv_at hl 1 rfl) ?_
  obtain ⟨r1, hc2, hf⟩ := zb1_s hf
  refine z_Vp (As := [.int a_thing]) (rest := []) ⟨hx, hb, hml, hown, hts⟩ hK (c4_hasThing (things := w_things) (gifts := w_gifts) (days := w_days) (size := w_size) (weight := w_weight) (sound := w_sound) (harm := w_harm) (in_ := w_in_) (kind := w_kind) (owner := w_owner) (empty := w_empty) (room := w_room) (told := w_told) (gate := w_gate) (ear := w_ear) (scale := w_scale) (lost := w_lost) (watch := w_watch) (moments := w_moments) (kept := w_kept) (q := qw) hc2) (cwV 1 hts gX5_sat_X4_hasThing rfl rfl rfl hd4_hasThing ⟨Nat.le_of_ble_eq_true rfl, Nat.le_of_ble_eq_true rfl⟩) (zsubP hP [1] rfl) rfl rfl rfl rfl hl.1 rfl rfl (Nat.le_of_ble_eq_true rfl) (zD_g DX5_sat 3 rfl) ⟨Nat.zero_le _, Nat.zero_le _⟩ ?_
  refine lv_if_eq (tgt := 18) hx hb (zD_g DX5_sat 4 rfl) (by decide) (fun c3 => ?_) (fun c3 => ?_)
  · replace hf := z_t c3 hf
    refine lv_aload_n hx hb (zD_g DX5_sat 8 rfl) rfl (lv_at hl 0 rfl) ?_
    refine lv_bipush (v := (-2 : Int32)) hx hb (zD_g DX5_sat 9 rfl) (by decide) ?_
    obtain ⟨r4, bads_5, noes_6, fulls_7, hc8, hf⟩ := zb4_s hf
    refine z_VB (As := [.int (-2 : Int32)]) (rest := []) (cs' := [(cHG q (qw 0) (qt 0) (qi 0) (qj 0) (qb 0) (qx 0) kept0 kept1 fabove fbelow bads_5 noes_6 fulls_7)]) (ws' := (zcat [(cHG q (qw 0) (qt 0) (qi 0) (qj 0) (qb 0) (qx 0) kept0 kept1 fabove fbelow bads_5 noes_6 fulls_7), (cWar cI qw w_things w_gifts w_days w_size w_weight w_sound w_harm w_in_ w_kind w_owner w_empty w_room w_told w_gate w_ear w_scale w_lost w_watch w_moments w_kept)])) ⟨hx, hb, hml, hown, hts⟩ hK (c5_counted (kept0 := kept0) (kept1 := kept1) (fabove := fabove) (fbelow := fbelow) (bads := bads) (noes := noes) (fulls := fulls) (q := q) (qw := qw) (qt := qt) (qi := qi) (qj := qj) (qb := qb) (qx := qx) hc8) (cwV 1 hts gX5_sat_X5_counted rfl rfl rfl hd5_counted ⟨Nat.le_of_ble_eq_true rfl, Nat.le_of_ble_eq_true rfl⟩) hP hD hS hA 2 [0] [1] [1, 0] (by decide +kernel) rfl rfl rfl rfl rfl rfl rfl rfl rfl hl.1 rfl rfl (Nat.le_of_ble_eq_true rfl) (zD_g DX5_sat 10 rfl) ⟨Nat.zero_le _, Nat.zero_le _⟩ (fun H locs hP hD hS => ?_)
    cases hf
    exact hret _ _ _ _ hP hD hS (zD_g DX5_sat 11 rfl)
  · replace hf := z_f c3 hf
    refine lv_iload_n hx hb (zD_g DX5_sat 5 rfl) rfl (lv_at hl 2 rfl) ?_
    obtain ⟨r9, hc10, hf⟩ := zb1_s hf
    refine z_Sp (As := [.int a_hour]) (rest := []) ⟨hx, hb, hml, hown, hts⟩ hK (c5_isHour  hc10) (va_cwS 1 hts gX5_sat_X5_isHour rfl rfl rfl hd5_isHour ⟨Nat.le_of_ble_eq_true rfl, Nat.le_of_ble_eq_true rfl⟩) (hP.sub [] rfl) rfl hl.1 rfl rfl (Nat.le_of_ble_eq_true rfl) (zD_g DX5_sat 6 rfl) ⟨Nat.zero_le _, Nat.zero_le _⟩ ?_
    refine lv_if_ne (tgt := 25) hx hb (zD_g DX5_sat 7 rfl) (by decide) (fun c11 => ?_) (fun c11 => ?_)
    · replace hf := z_f c11 hf
      refine lv_aload_n hx hb (zD_g DX5_sat 12 rfl) rfl (lv_at hl 0 rfl) ?_
      refine va_get (D := D) (ci := 4) (v := .ref (qw 0)) (C := RX5) (T := TX5) (N := 13) hx hb hts in5_sat_5 hown hK.1 hP 0 rfl rfl 0 (by decide) (hts _ (List.mem_of_getElem? (i := 1) rfl)) (fun _ h9 => h9) rfl (zD_g DX5_sat 13 rfl) ?_
      refine va_get (D := D) (ci := 3) (v := .ref (qw 5)) (C := RX4) (T := TX4) (N := 19) hx hb hts in5_sat_4 hown hK.1 hP 1 rfl rfl 7 (by decide) (hts _ (List.mem_of_getElem? (i := 2) rfl)) (fun _ h9 => h9) rfl (zD_g DX5_sat 14 rfl) ?_
      refine lv_iload_n hx hb (zD_g DX5_sat 15 rfl) rfl (lv_at hl 1 rfl) ?_
      obtain ⟨h12, hf⟩ := zg_s hf
      refine z_iald (k := a_thing.toNatClampNeg) hx hb hK.1 hP 6 0 rfl rfl h12 rfl (zD_g DX5_sat 16 rfl) ?_
      refine lv_iconst (v := (-1 : Int32)) hx hb (zD_g DX5_sat 17 rfl) (by decide) ?_
      refine lv_icmp_eq (tgt := 45) hx hb (zD_g DX5_sat 18 rfl) (by decide) (fun c13 => ?_) (fun c13 => ?_)
      · replace hf := z_t c13 hf
        refine lv_aload_n hx hb (zD_g DX5_sat 23 rfl) rfl (lv_at hl 0 rfl) ?_
        refine va_get (D := D) (ci := 4) (v := .ref (qw 0)) (C := RX5) (T := TX5) (N := 13) hx hb hts in5_sat_5 hown hK.1 hP 0 rfl rfl 0 (by decide) (hts _ (List.mem_of_getElem? (i := 1) rfl)) (fun _ h9 => h9) rfl (zD_g DX5_sat 24 rfl) ?_
        refine lv_iload_n hx hb (zD_g DX5_sat 25 rfl) rfl (lv_at hl 1 rfl) ?_
        refine lv_iload_n hx hb (zD_g DX5_sat 26 rfl) rfl (lv_at hl 2 rfl) ?_
        obtain ⟨r14, hc15, hf⟩ := zb1_s hf
        refine z_Sp (As := [.ref (qw 0), .int a_thing, .int a_hour]) (rest := []) ⟨hx, hb, hml, hown, hts⟩ hK (c1_giftsThatFit (things := w_things) (gifts := w_gifts) (days := w_days) (size := w_size) (weight := w_weight) (sound := w_sound) (harm := w_harm) (in_ := w_in_) (kind := w_kind) (owner := w_owner) (empty := w_empty) (room := w_room) (told := w_told) (gate := w_gate) (ear := w_ear) (scale := w_scale) (lost := w_lost) (watch := w_watch) (moments := w_moments) (kept := w_kept) (q := qw) hc15) (va_cwS 3 hts gX5_sat_X1_giftsThatFit rfl rfl rfl hd1_giftsThatFit ⟨Nat.le_of_ble_eq_true rfl, Nat.le_of_ble_eq_true rfl⟩) (zsubP hP [1] rfl) rfl hl.1 rfl rfl (Nat.le_of_ble_eq_true rfl) (zD_g DX5_sat 27 rfl) ⟨Nat.zero_le _, Nat.zero_le _⟩ ?_
        cases hf
        exact hret _ _ _ _ hP hD hS (zD_g DX5_sat 28 rfl)
      · replace hf := z_f c13 hf
        refine lv_aload_n hx hb (zD_g DX5_sat 19 rfl) rfl (lv_at hl 0 rfl) ?_
        refine lv_bipush (v := (-3 : Int32)) hx hb (zD_g DX5_sat 20 rfl) (by decide) ?_
        obtain ⟨r16, bads_17, noes_18, fulls_19, hc20, hf⟩ := zb4_s hf
        refine z_VB (As := [.int (-3 : Int32)]) (rest := []) (cs' := [(cHG q (qw 0) (qt 0) (qi 0) (qj 0) (qb 0) (qx 0) kept0 kept1 fabove fbelow bads_17 noes_18 fulls_19)]) (ws' := (zcat [(cHG q (qw 0) (qt 0) (qi 0) (qj 0) (qb 0) (qx 0) kept0 kept1 fabove fbelow bads_17 noes_18 fulls_19), (cWar cI qw w_things w_gifts w_days w_size w_weight w_sound w_harm w_in_ w_kind w_owner w_empty w_room w_told w_gate w_ear w_scale w_lost w_watch w_moments w_kept)])) ⟨hx, hb, hml, hown, hts⟩ hK (c5_counted (kept0 := kept0) (kept1 := kept1) (fabove := fabove) (fbelow := fbelow) (bads := bads) (noes := noes) (fulls := fulls) (q := q) (qw := qw) (qt := qt) (qi := qi) (qj := qj) (qb := qb) (qx := qx) hc20) (cwV 1 hts gX5_sat_X5_counted rfl rfl rfl hd5_counted ⟨Nat.le_of_ble_eq_true rfl, Nat.le_of_ble_eq_true rfl⟩) hP hD hS hA 2 [0] [1] [1, 0] (by decide +kernel) rfl rfl rfl rfl rfl rfl rfl rfl rfl hl.1 rfl rfl (Nat.le_of_ble_eq_true rfl) (zD_g DX5_sat 21 rfl) ⟨Nat.zero_le _, Nat.zero_le _⟩ (fun H locs hP hD hS => ?_)
        cases hf
        exact hret _ _ _ _ hP hD hS (zD_g DX5_sat 22 rfl)
    · replace hf := z_t c11 hf
      refine lv_aload_n hx hb (zD_g DX5_sat 8 rfl) rfl (lv_at hl 0 rfl) ?_
      refine lv_bipush (v := (-2 : Int32)) hx hb (zD_g DX5_sat 9 rfl) (by decide) ?_
      obtain ⟨r21, bads_22, noes_23, fulls_24, hc25, hf⟩ := zb4_s hf
      refine z_VB (As := [.int (-2 : Int32)]) (rest := []) (cs' := [(cHG q (qw 0) (qt 0) (qi 0) (qj 0) (qb 0) (qx 0) kept0 kept1 fabove fbelow bads_22 noes_23 fulls_24)]) (ws' := (zcat [(cHG q (qw 0) (qt 0) (qi 0) (qj 0) (qb 0) (qx 0) kept0 kept1 fabove fbelow bads_22 noes_23 fulls_24), (cWar cI qw w_things w_gifts w_days w_size w_weight w_sound w_harm w_in_ w_kind w_owner w_empty w_room w_told w_gate w_ear w_scale w_lost w_watch w_moments w_kept)])) ⟨hx, hb, hml, hown, hts⟩ hK (c5_counted (kept0 := kept0) (kept1 := kept1) (fabove := fabove) (fbelow := fbelow) (bads := bads) (noes := noes) (fulls := fulls) (q := q) (qw := qw) (qt := qt) (qi := qi) (qj := qj) (qb := qb) (qx := qx) hc25) (cwV 1 hts gX5_sat_X5_counted rfl rfl rfl hd5_counted ⟨Nat.le_of_ble_eq_true rfl, Nat.le_of_ble_eq_true rfl⟩) hP hD hS hA 2 [0] [1] [1, 0] (by decide +kernel) rfl rfl rfl rfl rfl rfl rfl rfl rfl hl.1 rfl rfl (Nat.le_of_ble_eq_true rfl) (zD_g DX5_sat 10 rfl) ⟨Nat.zero_le _, Nat.zero_le _⟩ (fun H locs hP hD hS => ?_)
      cases hf
      exact hret _ _ _ _ hP hD hS (zD_g DX5_sat 11 rfl)
abbrev dlX5_carts : List (Nat × Instr × Nat) := [(0, .iload_n 1, 1), (1, .invokestatic 156, 3), (4, .ifCond .eq 29, 3), (7, .iload_n 2, 1), (8, .iconst 0, 1), (9, .sipush 400, 3), (12, .invokestatic 174, 3), (15, .ifCond .eq 18, 3), (18, .iload_n 3, 1), (19, .iconst 1, 1), (20, .iconst 3, 1), (21, .invokestatic 174, 3), (24, .ifCond .eq 9, 3), (27, .iload 4, 2), (29, .iconst (-1), 1), (30, .if_icmp .ge 8, 3), (33, .aload_n 0, 1), (34, .invokevirtual 121, 3), (37, .ireturn, 1), (38, .aload_n 0, 1), (39, .getfield 35, 3), (42, .aload_n 0, 1), (43, .getfield 10, 3), (46, .iload_n 1, 1), (47, .iload_n 3, 1), (48, .invokevirtual 235, 3), (51, .aload_n 0, 1), (52, .getfield 35, 3), (55, .getfield 239, 3), (58, .iload_n 2, 1), (59, .if_icmp .le 5, 3), (62, .iconst (-1), 1), (63, .ireturn, 1), (64, .iload 4, 2), (66, .iconst (-1), 1), (67, .if_icmp .ne 11, 3), (70, .aload_n 0, 1), (71, .getfield 35, 3), (74, .getfield 239, 3), (77, .ireturn, 1), (78, .iload 4, 2), (80, .aload_n 0, 1), (81, .getfield 35, 3), (84, .getfield 242, 3), (87, .if_icmp .ge 15, 3), (90, .aload_n 0, 1), (91, .getfield 35, 3), (94, .iload 4, 2), (96, .invokevirtual 245, 3), (99, .goto 5, 3), (102, .bipush (-5), 2), (104, .ireturn, 1)]
theorem DX5_carts : zD cX5_carts dlX5_carts = true := by decide +kernel
set_option maxRecDepth 20000 in
theorem ggX5_carts_X5_isCity : GoodIn wsX5_carts wsX5_isCity := goodIn_r _ [8, 9, 10, 7, 11] (by decide +kernel) (by decide +kernel)
set_option maxRecDepth 20000 in
theorem gX5_carts_X5_isCity : GoodIn wsX5_carts (va_wsS RX5 156 yX5_isCity wsX5_isCity) := goodIn_app (goodIn_of _ (by decide +kernel)) ggX5_carts_X5_isCity
set_option maxRecDepth 20000 in
theorem ggX5_carts_X5_within : GoodIn wsX5_carts wsX5_within := goodIn_r _ [11] (by decide +kernel) (by decide +kernel)
set_option maxRecDepth 20000 in
theorem gX5_carts_X5_within : GoodIn wsX5_carts (va_wsS RX5 174 yX5_within wsX5_within) := goodIn_app (goodIn_of _ (by decide +kernel)) ggX5_carts_X5_within
set_option maxRecDepth 20000 in
theorem ggX5_carts_X5_refusedAsTen : GoodIn wsX5_carts wsX5_refusedAsTen := goodIn_r _ [15, 16, 17, 18, 7, 19, 20, 21, 22, 80, 81, 82, 83, 84, 85, 86, 87, 88, 89, 90, 91, 92] (by decide +kernel) (by decide +kernel)
set_option maxRecDepth 20000 in
theorem gX5_carts_X5_refusedAsTen : GoodIn wsX5_carts (wsV RX5 121 RX5 yX5_refusedAsTen wsX5_refusedAsTen) := goodIn_app (goodIn_of _ (by decide +kernel)) ggX5_carts_X5_refusedAsTen
set_option maxRecDepth 20000 in
theorem ggX5_carts_X0_lineUp : GoodIn wsX5_carts wsX0_lineUp := goodIn_r _ [27, 28, 29, 30, 31, 32, 33, 34, 35, 36, 37, 38, 39, 40, 41, 42, 43, 44, 45, 46, 47, 48, 49, 50, 51, 52, 53, 54, 55, 7, 56, 57, 58, 26, 59, 60, 61, 62, 63, 64, 65, 66, 67, 68, 69, 70, 71, 72, 73, 74, 75, 93, 94, 95, 96, 97, 98, 99, 100, 101, 102, 103, 104, 105, 106, 107, 108, 109, 110, 111, 112, 113, 114, 115, 116, 117, 118, 119] (by decide +kernel) (by decide +kernel)
set_option maxRecDepth 20000 in
theorem gX5_carts_X0_lineUp : GoodIn wsX5_carts (wsV RX5 235 RX0 yX0_lineUp wsX0_lineUp) := goodIn_app (goodIn_of _ (by decide +kernel)) ggX5_carts_X0_lineUp
set_option maxRecDepth 20000 in
theorem ggX5_carts_X0_giftAt : GoodIn wsX5_carts wsX0_giftAt := goodIn_r _ [79, 28, 31, 61, 10, 7, 11, 93, 94, 95, 96, 97, 98, 99, 100] (by decide +kernel) (by decide +kernel)
set_option maxRecDepth 20000 in
theorem gX5_carts_X0_giftAt : GoodIn wsX5_carts (wsV RX5 245 RX0 yX0_giftAt wsX0_giftAt) := goodIn_app (goodIn_of _ (by decide +kernel)) ggX5_carts_X0_giftAt
theorem hd5_carts : yX5_carts.cls = RX5 ∧ yX5_carts.cls ≠ "java/lang/invoke/MethodHandle" ∧ yX5_carts.cls ≠ "java/lang/invoke/VarHandle" ∧ (parseMethodDescriptor yX5_carts.desc).map (fun d => d.parameters.length) = some 4 := by decide +kernel
abbrev rm5_carts : Room := { frames := 13, cells := 0, slots := 0, locals := 335 }
theorem in5_carts_0 : ∀ w ∈ wsX00, w ∈ wsX5_carts := fun w h => List.mem_cons_of_mem _ (List.mem_append_left _ (List.mem_append_right _ h))
theorem in5_carts_5 : ∀ w ∈ wsX50, w ∈ wsX5_carts := fun w h => List.mem_cons_of_mem _ (List.mem_append_left _ (List.mem_append_left _ (List.mem_append_right _ h)))
set_option maxHeartbeats 4000000 in
set_option maxRecDepth 100000 in
theorem c5_carts {l : Launch} {D : va_G} {cI cZ cB : ClassId} {q : Nat → Nat} {qw : Nat → Nat} {qb : Nat → Nat} {qt : Nat → Nat} {qi : Nat → Nat} {qj : Nat → Nat} {qx : Nat → Nat} {sz : Nat} {kept0 : Int32} {kept1 : Int32} {fabove : Int64} {fbelow : Int64} {bads : Int32} {noes : Int32} {fulls : Int32} {w_things : Int32} {w_gifts : Int32} {w_days : Int32} {w_size : Nat → Int32} {w_weight : Nat → Int32} {w_sound : Nat → Int32} {w_harm : Nat → Int32} {w_in_ : Nat → Int32} {w_kind : Nat → Int32} {w_owner : Nat → Int32} {w_empty : Nat → Int32} {w_room : Nat → Int32} {w_told : Nat → Int32} {w_gate : Nat → Int32} {w_ear : Nat → Int32} {w_scale : Nat → Int32} {w_lost : Nat → Int32} {w_watch : Nat → Int32} {w_moments : Int32} {w_kept : Nat → Int32} {bcount : Int32} {bleast : Int32} {bneigh : Int32} {bdrawn : Int32} {bgifts : Nat → Int32} {bweights : Nat → Int32} {border : Nat → Int32} {bbest : Nat → Int32} {a_city : Int32} {a_b : Int32} {a_c : Int32} {a_place : Int32} {r : Int32} {d_bads : Int32} {d_noes : Int32} {d_fulls : Int32} {d_bcount : Int32} {d_bleast : Int32} {d_bneigh : Int32} {d_bdrawn : Int32} {d_bgifts : Nat → Int32} {d_bweights : Nat → Int32} {d_border : Nat → Int32} {d_bbest : Nat → Int32} (hf : f5_carts bads noes fulls w_things w_gifts w_days w_weight w_in_ w_kind w_owner w_empty bcount bleast bneigh bdrawn bgifts bweights border bbest a_city a_b a_c a_place = some (r, d_bads, d_noes, d_fulls, d_bcount, d_bleast, d_bneigh, d_bdrawn, d_bgifts, d_bweights, d_border, d_bbest)) : Met l yX5_carts wsX5_carts rm5_carts (zPm D cI cZ cB [.ref (q 0), .int a_city, .int a_b, .int a_c, .int a_place] sz (zcat [(cHG q (qw 0) (qt 0) (qi 0) (qj 0) (qb 0) (qx 0) kept0 kept1 fabove fbelow bads noes fulls), (cWar cI qw w_things w_gifts w_days w_size w_weight w_sound w_harm w_in_ w_kind w_owner w_empty w_room w_told w_gate w_ear w_scale w_lost w_watch w_moments w_kept), (cBridge cI qb bcount bleast bneigh bdrawn bgifts bweights border bbest)])) (zQm D (some (.int r)) (zcat [(cHG q (qw 0) (qt 0) (qi 0) (qj 0) (qb 0) (qx 0) kept0 kept1 fabove fbelow d_bads d_noes d_fulls), (cWar cI qw w_things w_gifts w_days w_size w_weight w_sound w_harm w_in_ w_kind w_owner w_empty w_room w_told w_gate w_ear w_scale w_lost w_watch w_moments w_kept), (cBridge cI qb d_bcount d_bleast d_bneigh d_bdrawn d_bgifts d_bweights d_border d_bbest)]) (va_A (zcat [(cHG q (qw 0) (qt 0) (qi 0) (qj 0) (qb 0) (qx 0) kept0 kept1 fabove fbelow bads noes fulls), (cWar cI qw w_things w_gifts w_days w_size w_weight w_sound w_harm w_in_ w_kind w_owner w_empty w_room w_told w_gate w_ear w_scale w_lost w_watch w_moments w_kept), (cBridge cI qb bcount bleast bneigh bdrawn bgifts bweights border bbest)]) sz)) 0 0 (va_A (zcat [(cHG q (qw 0) (qt 0) (qi 0) (qj 0) (qb 0) (qx 0) kept0 kept1 fabove fbelow bads noes fulls), (cWar cI qw w_things w_gifts w_days w_size w_weight w_sound w_harm w_in_ w_kind w_owner w_empty w_room w_told w_gate w_ear w_scale w_lost w_watch w_moments w_kept), (cBridge cI qb bcount bleast bneigh bdrawn bgifts bweights border bbest)]) sz) := by
  unfold f5_carts at hf
  refine z_mutI RX5 (by decide +kernel) rfl rfl (Nat.le_of_ble_eq_true rfl) ?_
  intro p e s m args below meth c Q A ls hx hb hml hown hts hK hP hD hS hA hret hl
  have hl : lv_has ls 5 [(0, .ref (q 0)), (1, .int a_city), (2, .int a_b), (3, .int a_c), (4, .int a_place)] := hl
  refine lv_iload_n hx hb (zD_g DX5_carts 0 rfl) rfl (lv_at hl 1 rfl) ?_
  obtain ⟨r1, hc2, hf⟩ := zb1_s hf
  refine z_Sp (As := [.int a_city]) (rest := []) ⟨hx, hb, hml, hown, hts⟩ hK (c5_isCity  hc2) (va_cwS 1 hts gX5_carts_X5_isCity rfl rfl rfl hd5_isCity ⟨Nat.le_of_ble_eq_true rfl, Nat.le_of_ble_eq_true rfl⟩) (hP.sub [] rfl) rfl hl.1 rfl rfl (Nat.le_of_ble_eq_true rfl) (zD_g DX5_carts 1 rfl) ⟨Nat.zero_le _, Nat.zero_le _⟩ ?_
  refine lv_if_eq (tgt := 33) hx hb (zD_g DX5_carts 2 rfl) (by decide) (fun c3 => ?_) (fun c3 => ?_)
  · replace hf := z_t c3 hf
    refine lv_aload_n hx hb (zD_g DX5_carts 16 rfl) rfl (lv_at hl 0 rfl) ?_
    obtain ⟨r4, bads_5, noes_6, fulls_7, hc8, hf⟩ := zb4_s hf
    refine z_VB (As := []) (rest := []) (cs' := [(cHG q (qw 0) (qt 0) (qi 0) (qj 0) (qb 0) (qx 0) kept0 kept1 fabove fbelow bads_5 noes_6 fulls_7)]) (ws' := (zcat [(cHG q (qw 0) (qt 0) (qi 0) (qj 0) (qb 0) (qx 0) kept0 kept1 fabove fbelow bads_5 noes_6 fulls_7), (cWar cI qw w_things w_gifts w_days w_size w_weight w_sound w_harm w_in_ w_kind w_owner w_empty w_room w_told w_gate w_ear w_scale w_lost w_watch w_moments w_kept), (cBridge cI qb bcount bleast bneigh bdrawn bgifts bweights border bbest)])) ⟨hx, hb, hml, hown, hts⟩ hK (c5_refusedAsTen (kept0 := kept0) (kept1 := kept1) (fabove := fabove) (fbelow := fbelow) (bads := bads) (noes := noes) (fulls := fulls) (q := q) (qw := qw) (qt := qt) (qi := qi) (qj := qj) (qb := qb) (qx := qx) hc8) (cwV 0 hts gX5_carts_X5_refusedAsTen rfl rfl rfl hd5_refusedAsTen ⟨Nat.le_of_ble_eq_true rfl, Nat.le_of_ble_eq_true rfl⟩) hP hD hS hA 3 [0] [1, 2] [2, 0, 1] (by decide +kernel) rfl rfl rfl rfl rfl rfl rfl rfl rfl hl.1 rfl rfl (Nat.le_of_ble_eq_true rfl) (zD_g DX5_carts 17 rfl) ⟨Nat.zero_le _, Nat.zero_le _⟩ (fun H locs hP hD hS => ?_)
    cases hf
    exact hret _ _ _ _ hP hD hS (zD_g DX5_carts 18 rfl)
  · replace hf := z_f c3 hf
    refine lv_iload_n hx hb (zD_g DX5_carts 3 rfl) rfl (lv_at hl 2 rfl) ?_
    refine lv_iconst (v := (0 : Int32)) hx hb (zD_g DX5_carts 4 rfl) (by decide) ?_
    refine lv_sipush (v := (400 : Int32)) hx hb (zD_g DX5_carts 5 rfl) (by decide) ?_
    obtain ⟨r9, hc10, hf⟩ := zb1_s hf
    refine z_Sp (As := [.int a_b, .int (0 : Int32), .int (400 : Int32)]) (rest := []) ⟨hx, hb, hml, hown, hts⟩ hK (c5_within  hc10) (va_cwS 3 hts gX5_carts_X5_within rfl rfl rfl hd5_within ⟨Nat.le_of_ble_eq_true rfl, Nat.le_of_ble_eq_true rfl⟩) (hP.sub [] rfl) rfl hl.1 rfl rfl (Nat.le_of_ble_eq_true rfl) (zD_g DX5_carts 6 rfl) ⟨Nat.zero_le _, Nat.zero_le _⟩ ?_
    refine lv_if_eq (tgt := 33) hx hb (zD_g DX5_carts 7 rfl) (by decide) (fun c11 => ?_) (fun c11 => ?_)
    · replace hf := z_t c11 hf
      refine lv_aload_n hx hb (zD_g DX5_carts 16 rfl) rfl (lv_at hl 0 rfl) ?_
      obtain ⟨r12, bads_13, noes_14, fulls_15, hc16, hf⟩ := zb4_s hf
      refine z_VB (As := []) (rest := []) (cs' := [(cHG q (qw 0) (qt 0) (qi 0) (qj 0) (qb 0) (qx 0) kept0 kept1 fabove fbelow bads_13 noes_14 fulls_15)]) (ws' := (zcat [(cHG q (qw 0) (qt 0) (qi 0) (qj 0) (qb 0) (qx 0) kept0 kept1 fabove fbelow bads_13 noes_14 fulls_15), (cWar cI qw w_things w_gifts w_days w_size w_weight w_sound w_harm w_in_ w_kind w_owner w_empty w_room w_told w_gate w_ear w_scale w_lost w_watch w_moments w_kept), (cBridge cI qb bcount bleast bneigh bdrawn bgifts bweights border bbest)])) ⟨hx, hb, hml, hown, hts⟩ hK (c5_refusedAsTen (kept0 := kept0) (kept1 := kept1) (fabove := fabove) (fbelow := fbelow) (bads := bads) (noes := noes) (fulls := fulls) (q := q) (qw := qw) (qt := qt) (qi := qi) (qj := qj) (qb := qb) (qx := qx) hc16) (cwV 0 hts gX5_carts_X5_refusedAsTen rfl rfl rfl hd5_refusedAsTen ⟨Nat.le_of_ble_eq_true rfl, Nat.le_of_ble_eq_true rfl⟩) hP hD hS hA 3 [0] [1, 2] [2, 0, 1] (by decide +kernel) rfl rfl rfl rfl rfl rfl rfl rfl rfl hl.1 rfl rfl (Nat.le_of_ble_eq_true rfl) (zD_g DX5_carts 17 rfl) ⟨Nat.zero_le _, Nat.zero_le _⟩ (fun H locs hP hD hS => ?_)
      cases hf
      exact hret _ _ _ _ hP hD hS (zD_g DX5_carts 18 rfl)
    · replace hf := z_f c11 hf
      refine lv_iload_n hx hb (zD_g DX5_carts 8 rfl) rfl (lv_at hl 3 rfl) ?_
      refine lv_iconst (v := (1 : Int32)) hx hb (zD_g DX5_carts 9 rfl) (by decide) ?_
      refine lv_iconst (v := (3 : Int32)) hx hb (zD_g DX5_carts 10 rfl) (by decide) ?_
      obtain ⟨r17, hc18, hf⟩ := zb1_s hf
      refine z_Sp (As := [.int a_c, .int (1 : Int32), .int (3 : Int32)]) (rest := []) ⟨hx, hb, hml, hown, hts⟩ hK (c5_within  hc18) (va_cwS 3 hts gX5_carts_X5_within rfl rfl rfl hd5_within ⟨Nat.le_of_ble_eq_true rfl, Nat.le_of_ble_eq_true rfl⟩) (hP.sub [] rfl) rfl hl.1 rfl rfl (Nat.le_of_ble_eq_true rfl) (zD_g DX5_carts 11 rfl) ⟨Nat.zero_le _, Nat.zero_le _⟩ ?_
      refine lv_if_eq (tgt := 33) hx hb (zD_g DX5_carts 12 rfl) (by decide) (fun c19 => ?_) (fun c19 => ?_)
      · replace hf := z_t c19 hf
        refine lv_aload_n hx hb (zD_g DX5_carts 16 rfl) rfl (lv_at hl 0 rfl) ?_
        obtain ⟨r20, bads_21, noes_22, fulls_23, hc24, hf⟩ := zb4_s hf
        refine z_VB (As := []) (rest := []) (cs' := [(cHG q (qw 0) (qt 0) (qi 0) (qj 0) (qb 0) (qx 0) kept0 kept1 fabove fbelow bads_21 noes_22 fulls_23)]) (ws' := (zcat [(cHG q (qw 0) (qt 0) (qi 0) (qj 0) (qb 0) (qx 0) kept0 kept1 fabove fbelow bads_21 noes_22 fulls_23), (cWar cI qw w_things w_gifts w_days w_size w_weight w_sound w_harm w_in_ w_kind w_owner w_empty w_room w_told w_gate w_ear w_scale w_lost w_watch w_moments w_kept), (cBridge cI qb bcount bleast bneigh bdrawn bgifts bweights border bbest)])) ⟨hx, hb, hml, hown, hts⟩ hK (c5_refusedAsTen (kept0 := kept0) (kept1 := kept1) (fabove := fabove) (fbelow := fbelow) (bads := bads) (noes := noes) (fulls := fulls) (q := q) (qw := qw) (qt := qt) (qi := qi) (qj := qj) (qb := qb) (qx := qx) hc24) (cwV 0 hts gX5_carts_X5_refusedAsTen rfl rfl rfl hd5_refusedAsTen ⟨Nat.le_of_ble_eq_true rfl, Nat.le_of_ble_eq_true rfl⟩) hP hD hS hA 3 [0] [1, 2] [2, 0, 1] (by decide +kernel) rfl rfl rfl rfl rfl rfl rfl rfl rfl hl.1 rfl rfl (Nat.le_of_ble_eq_true rfl) (zD_g DX5_carts 17 rfl) ⟨Nat.zero_le _, Nat.zero_le _⟩ (fun H locs hP hD hS => ?_)
        cases hf
        exact hret _ _ _ _ hP hD hS (zD_g DX5_carts 18 rfl)
      · replace hf := z_f c19 hf
        refine lv_iload hx hb (zD_g DX5_carts 13 rfl) (lv_at hl 4 rfl) ?_
        refine lv_iconst (v := (-1 : Int32)) hx hb (zD_g DX5_carts 14 rfl) (by decide) ?_
        refine lv_icmp_ge (tgt := 38) hx hb (zD_g DX5_carts 15 rfl) (by decide) (fun c25 => ?_) (fun c25 => ?_)
        · replace hf := z_t c25 hf
          refine lv_aload_n hx hb (zD_g DX5_carts 19 rfl) rfl (lv_at hl 0 rfl) ?_
          refine va_get (D := D) (ci := 4) (v := .ref (qb 0)) (C := RX5) (T := TX5) (N := 13) hx hb hts in5_carts_5 hown hK.1 hP 0 rfl rfl 6 (by decide) (hts _ (List.mem_of_getElem? (i := 1) rfl)) (fun _ h9 => h9) rfl (zD_g DX5_carts 20 rfl) ?_
          refine lv_aload_n hx hb (zD_g DX5_carts 21 rfl) rfl (lv_at hl 0 rfl) ?_
          refine va_get (D := D) (ci := 4) (v := .ref (qw 0)) (C := RX5) (T := TX5) (N := 13) hx hb hts in5_carts_5 hown hK.1 hP 0 rfl rfl 0 (by decide) (hts _ (List.mem_of_getElem? (i := 2) rfl)) (fun _ h9 => h9) rfl (zD_g DX5_carts 22 rfl) ?_
          refine lv_iload_n hx hb (zD_g DX5_carts 23 rfl) rfl (lv_at hl 1 rfl) ?_
          refine lv_iload_n hx hb (zD_g DX5_carts 24 rfl) rfl (lv_at hl 3 rfl) ?_
          obtain ⟨bcount_26, bleast_27, bneigh_28, bdrawn_29, bgifts_30, bweights_31, border_32, bbest_33, hc34, hf⟩ := zb8_s hf
          refine z_VB (As := [.ref (qw 0), .int a_city, .int a_c]) (rest := []) (cs' := [(cBridge cI qb bcount_26 bleast_27 bneigh_28 bdrawn_29 bgifts_30 bweights_31 border_32 bbest_33), (cWar cI qw w_things w_gifts w_days w_size w_weight w_sound w_harm w_in_ w_kind w_owner w_empty w_room w_told w_gate w_ear w_scale w_lost w_watch w_moments w_kept)]) (ws' := (zcat [(cHG q (qw 0) (qt 0) (qi 0) (qj 0) (qb 0) (qx 0) kept0 kept1 fabove fbelow bads noes fulls), (cWar cI qw w_things w_gifts w_days w_size w_weight w_sound w_harm w_in_ w_kind w_owner w_empty w_room w_told w_gate w_ear w_scale w_lost w_watch w_moments w_kept), (cBridge cI qb bcount_26 bleast_27 bneigh_28 bdrawn_29 bgifts_30 bweights_31 border_32 bbest_33)])) ⟨hx, hb, hml, hown, hts⟩ hK (c0_lineUp (bcount := bcount) (bleast := bleast) (bneigh := bneigh) (bdrawn := bdrawn) (bgifts := bgifts) (bweights := bweights) (border := border) (bbest := bbest) (q := qb) (things := w_things) (gifts := w_gifts) (days := w_days) (size := w_size) (weight := w_weight) (sound := w_sound) (harm := w_harm) (in_ := w_in_) (kind := w_kind) (owner := w_owner) (empty := w_empty) (room := w_room) (told := w_told) (gate := w_gate) (ear := w_ear) (scale := w_scale) (lost := w_lost) (watch := w_watch) (moments := w_moments) (kept := w_kept) (q0 := qw) hc34) (cwV 3 hts gX5_carts_X0_lineUp rfl rfl rfl hd0_lineUp ⟨Nat.le_of_ble_eq_true rfl, Nat.le_of_ble_eq_true rfl⟩) hP hD hS hA 3 [2, 1] [0] [0, 2, 1] (by decide +kernel) rfl rfl rfl rfl rfl rfl rfl rfl rfl hl.1 rfl rfl (Nat.le_of_ble_eq_true rfl) (zD_g DX5_carts 25 rfl) ⟨Nat.zero_le _, Nat.zero_le _⟩ (fun H locs hP hD hS => ?_)
          refine lv_aload_n hx hb (zD_g DX5_carts 26 rfl) rfl (lv_at hl 0 rfl) ?_
          refine va_get (D := D) (ci := 4) (v := .ref (qb 0)) (C := RX5) (T := TX5) (N := 13) hx hb hts in5_carts_5 hown hK.1 hP 0 rfl rfl 6 (by decide) (hts _ (List.mem_of_getElem? (i := 1) rfl)) (fun _ h9 => h9) rfl (zD_g DX5_carts 27 rfl) ?_
          refine va_get (D := D) (ci := 0) (v := .int bleast_27) (C := RX0) (T := TX0) (N := 8) hx hb hts in5_carts_0 hown hK.1 hP 19 rfl rfl 1 (by decide) (hts _ (List.mem_of_getElem? (i := 3) rfl)) (fun _ h9 => h9) rfl (zD_g DX5_carts 28 rfl) ?_
          refine lv_iload_n hx hb (zD_g DX5_carts 29 rfl) rfl (lv_at hl 2 rfl) ?_
          refine lv_icmp_le (tgt := 64) hx hb (zD_g DX5_carts 30 rfl) (by decide) (fun c35 => ?_) (fun c35 => ?_)
          · replace hf := z_t c35 hf
            refine lv_iload hx hb (zD_g DX5_carts 33 rfl) (lv_at hl 4 rfl) ?_
            refine lv_iconst (v := (-1 : Int32)) hx hb (zD_g DX5_carts 34 rfl) (by decide) ?_
            refine lv_icmp_ne (tgt := 78) hx hb (zD_g DX5_carts 35 rfl) (by decide) (fun c36 => ?_) (fun c36 => ?_)
            · replace hf := z_f c36 hf
              refine lv_iload hx hb (zD_g DX5_carts 40 rfl) (lv_at hl 4 rfl) ?_
              refine lv_aload_n hx hb (zD_g DX5_carts 41 rfl) rfl (lv_at hl 0 rfl) ?_
              refine va_get (D := D) (ci := 4) (v := .ref (qb 0)) (C := RX5) (T := TX5) (N := 13) hx hb hts in5_carts_5 hown hK.1 hP 0 rfl rfl 6 (by decide) (hts _ (List.mem_of_getElem? (i := 1) rfl)) (fun _ h9 => h9) rfl (zD_g DX5_carts 42 rfl) ?_
              refine va_get (D := D) (ci := 0) (v := .int bcount_26) (C := RX0) (T := TX0) (N := 8) hx hb hts in5_carts_0 hown hK.1 hP 19 rfl rfl 0 (by decide) (hts _ (List.mem_of_getElem? (i := 4) rfl)) (fun _ h9 => h9) rfl (zD_g DX5_carts 43 rfl) ?_
              refine lv_icmp_ge (tgt := 102) hx hb (zD_g DX5_carts 44 rfl) (by decide) (fun c37 => ?_) (fun c37 => ?_)
              · replace hf := z_t c37 hf
                refine lv_bipush (v := (-5 : Int32)) hx hb (zD_g DX5_carts 50 rfl) (by decide) ?_
                cases hf
                exact hret _ _ _ _ hP hD hS (zD_g DX5_carts 51 rfl)
              · replace hf := z_f c37 hf
                refine lv_aload_n hx hb (zD_g DX5_carts 45 rfl) rfl (lv_at hl 0 rfl) ?_
                refine va_get (D := D) (ci := 4) (v := .ref (qb 0)) (C := RX5) (T := TX5) (N := 13) hx hb hts in5_carts_5 hown hK.1 hP 0 rfl rfl 6 (by decide) (hts _ (List.mem_of_getElem? (i := 1) rfl)) (fun _ h9 => h9) rfl (zD_g DX5_carts 46 rfl) ?_
                refine lv_iload hx hb (zD_g DX5_carts 47 rfl) (lv_at hl 4 rfl) ?_
                obtain ⟨r38, hc39, hf⟩ := zb1_s hf
                refine z_Vp (As := [.int a_place]) (rest := []) ⟨hx, hb, hml, hown, hts⟩ hK (c0_giftAt (bcount := bcount_26) (bleast := bleast_27) (bneigh := bneigh_28) (bdrawn := bdrawn_29) (bgifts := bgifts_30) (bweights := bweights_31) (border := border_32) (bbest := bbest_33) (q := qb) hc39) (cwV 1 hts gX5_carts_X0_giftAt rfl rfl rfl hd0_giftAt ⟨Nat.le_of_ble_eq_true rfl, Nat.le_of_ble_eq_true rfl⟩) (zsubP hP [2] rfl) rfl rfl rfl rfl hl.1 rfl rfl (Nat.le_of_ble_eq_true rfl) (zD_g DX5_carts 48 rfl) ⟨Nat.zero_le _, Nat.zero_le _⟩ ?_
                refine lv_goto (tgt := 104) hx hb (zD_g DX5_carts 49 rfl) (by decide) ?_
                cases hf
                exact hret _ _ _ _ hP hD hS (zD_g DX5_carts 51 rfl)
            · replace hf := z_t c36 hf
              refine lv_aload_n hx hb (zD_g DX5_carts 36 rfl) rfl (lv_at hl 0 rfl) ?_
              refine va_get (D := D) (ci := 4) (v := .ref (qb 0)) (C := RX5) (T := TX5) (N := 13) hx hb hts in5_carts_5 hown hK.1 hP 0 rfl rfl 6 (by decide) (hts _ (List.mem_of_getElem? (i := 1) rfl)) (fun _ h9 => h9) rfl (zD_g DX5_carts 37 rfl) ?_
              refine va_get (D := D) (ci := 0) (v := .int bleast_27) (C := RX0) (T := TX0) (N := 8) hx hb hts in5_carts_0 hown hK.1 hP 19 rfl rfl 1 (by decide) (hts _ (List.mem_of_getElem? (i := 3) rfl)) (fun _ h9 => h9) rfl (zD_g DX5_carts 38 rfl) ?_
              cases hf
              exact hret _ _ _ _ hP hD hS (zD_g DX5_carts 39 rfl)
          · replace hf := z_f c35 hf
            refine lv_iconst (v := (-1 : Int32)) hx hb (zD_g DX5_carts 31 rfl) (by decide) ?_
            cases hf
            exact hret _ _ _ _ hP hD hS (zD_g DX5_carts 32 rfl)
        · replace hf := z_f c25 hf
          refine lv_aload_n hx hb (zD_g DX5_carts 16 rfl) rfl (lv_at hl 0 rfl) ?_
          obtain ⟨r40, bads_41, noes_42, fulls_43, hc44, hf⟩ := zb4_s hf
          refine z_VB (As := []) (rest := []) (cs' := [(cHG q (qw 0) (qt 0) (qi 0) (qj 0) (qb 0) (qx 0) kept0 kept1 fabove fbelow bads_41 noes_42 fulls_43)]) (ws' := (zcat [(cHG q (qw 0) (qt 0) (qi 0) (qj 0) (qb 0) (qx 0) kept0 kept1 fabove fbelow bads_41 noes_42 fulls_43), (cWar cI qw w_things w_gifts w_days w_size w_weight w_sound w_harm w_in_ w_kind w_owner w_empty w_room w_told w_gate w_ear w_scale w_lost w_watch w_moments w_kept), (cBridge cI qb bcount bleast bneigh bdrawn bgifts bweights border bbest)])) ⟨hx, hb, hml, hown, hts⟩ hK (c5_refusedAsTen (kept0 := kept0) (kept1 := kept1) (fabove := fabove) (fbelow := fbelow) (bads := bads) (noes := noes) (fulls := fulls) (q := q) (qw := qw) (qt := qt) (qi := qi) (qj := qj) (qb := qb) (qx := qx) hc44) (cwV 0 hts gX5_carts_X5_refusedAsTen rfl rfl rfl hd5_refusedAsTen ⟨Nat.le_of_ble_eq_true rfl, Nat.le_of_ble_eq_true rfl⟩) hP hD hS hA 3 [0] [1, 2] [2, 0, 1] (by decide +kernel) rfl rfl rfl rfl rfl rfl rfl rfl rfl hl.1 rfl rfl (Nat.le_of_ble_eq_true rfl) (zD_g DX5_carts 17 rfl) ⟨Nat.zero_le _, Nat.zero_le _⟩ (fun H locs hP hD hS => ?_)
          cases hf
          exact hret _ _ _ _ hP hD hS (zD_g DX5_carts 18 rfl)
abbrev dlX5_nextOfSeed : List (Nat × Instr × Nat) := [(0, .lload_n 0, 1), (1, .ldc2_w 304, 3), (4, .lmul, 1), (5, .ldc2_w 306, 3), (8, .ladd, 1), (9, .ldc2_w 308, 3), (12, .lrem, 1), (13, .lreturn, 1)]
theorem DX5_nextOfSeed : zD cX5_nextOfSeed dlX5_nextOfSeed = true := by decide +kernel
theorem hd5_nextOfSeed : yX5_nextOfSeed.cls ≠ "java/lang/invoke/MethodHandle" ∧ yX5_nextOfSeed.cls ≠ "java/lang/invoke/VarHandle" ∧ (parseMethodDescriptor yX5_nextOfSeed.desc).map (fun d => d.parameters.length) = some 1 := by decide +kernel
abbrev rm5_nextOfSeed : Room := { frames := 0, cells := 0, slots := 0, locals := 0 }
set_option maxHeartbeats 4000000 in
set_option maxRecDepth 100000 in
theorem c5_nextOfSeed {l : Launch} {D : va_G} {cI cZ cB : ClassId}   {a_x : Int64} {r : Int64}  (hf : f5_nextOfSeed a_x = some r) : Met l yX5_nextOfSeed wsX5_nextOfSeed rm5_nextOfSeed (zPp D cI cZ cB [.long a_x] ([] : va_W)) (zQp (some (.long r))) 0 0 (fun _ => False) := by
  unfold f5_nextOfSeed at hf
  refine z_pureL RX5 (by decide +kernel) rfl rfl (Nat.le_of_ble_eq_true rfl) ?_
  intro p e s m args below meth c Q ls hx hb hml hown hts hK hP hret hl
  have hl : lv_has ls 2 [(0, .long a_x)] := hl
  refine lv_lload_n hx hb (zD_g DX5_nextOfSeed 0 rfl) rfl (lv_at hl 0 rfl) ?_
  refine lv_ldc2 (v := (1103515245 : Int64)) hx hb hown (hts _ (List.mem_of_getElem? (i := 1) rfl)) (zD_g DX5_nextOfSeed 1 rfl) ?_
  refine lv_lmul hx hb (zD_g DX5_nextOfSeed 2 rfl) ?_
  refine lv_ldc2 (v := (12345 : Int64)) hx hb hown (hts _ (List.mem_of_getElem? (i := 2) rfl)) (zD_g DX5_nextOfSeed 3 rfl) ?_
  refine lv_ladd hx hb (zD_g DX5_nextOfSeed 4 rfl) ?_
  refine lv_topl (fun x1 ex1 => ?_)
  replace hf := zl_s hf x1 ex1
  refine lv_ldc2 (v := (2147483648 : Int64)) hx hb hown (hts _ (List.mem_of_getElem? (i := 3) rfl)) (zD_g DX5_nextOfSeed 5 rfl) ?_
  refine lv_lrem hx hb (zD_g DX5_nextOfSeed 6 rfl) (by decide) ?_
  refine lv_topl (fun x2 ex2 => ?_)
  replace hf := zl_s hf x2 ex2
  cases hf
  exact hret _ _ (zD_g DX5_nextOfSeed 7 rfl)
abbrev dlX5_years : List (Nat × Instr × Nat) := [(0, .iload_n 1, 1), (1, .invokestatic 156, 3), (4, .ifCond .eq 23, 3), (7, .iload_n 2, 1), (8, .iconst 0, 1), (9, .bipush 90, 2), (11, .invokestatic 174, 3), (14, .ifCond .eq 13, 3), (17, .iload_n 3, 1), (18, .iconst 0, 1), (19, .ldc 248, 2), (21, .invokestatic 174, 3), (24, .ifCond .ne 10, 3), (27, .aload_n 0, 1), (28, .bipush (-2), 2), (30, .invokevirtual 67, 3), (33, .ireturn, 1), (34, .aload_n 0, 1), (35, .getfield 10, 3), (38, .getfield 249, 3), (41, .ifCond .gt 10, 3), (44, .aload_n 0, 1), (45, .bipush (-3), 2), (47, .invokevirtual 67, 3), (50, .ireturn, 1), (51, .aload_n 0, 1), (52, .getfield 16, 3), (55, .aload_n 0, 1), (56, .getfield 10, 3), (59, .invokevirtual 110, 3), (62, .iload_n 3, 1), (63, .i2l, 1), (64, .lstore 4, 2), (66, .iconst 0, 1), (67, .istore 6, 2), (69, .iload 6, 2), (71, .iload_n 2, 1), (72, .if_icmp .ge 66, 3), (75, .lload 4, 2), (77, .invokestatic 252, 3), (80, .lstore 4, 2), (82, .lload 4, 2), (84, .ldc2_w 256, 3), (87, .ldiv, 1), (88, .aload_n 0, 1), (89, .getfield 10, 3), (92, .getfield 249, 3), (95, .i2l, 1), (96, .lrem, 1), (97, .l2i, 1), (98, .istore 7, 2), (100, .lload 4, 2), (102, .invokestatic 252, 3), (105, .lstore 4, 2), (107, .lload 4, 2), (109, .ldc2_w 256, 3), (112, .ldiv, 1), (113, .ldc2_w 258, 3), (116, .lrem, 1), (117, .l2i, 1), (118, .istore 8, 2), (120, .aload_n 0, 1), (121, .getfield 16, 3), (124, .iload 7, 2), (126, .iload 8, 2), (128, .invokevirtual 127, 3), (131, .pop, 1), (132, .iinc 6 1, 3), (135, .goto (-66), 3), (138, .aload_n 0, 1), (139, .getfield 16, 3), (142, .getfield 168, 3), (145, .iload_n 1, 1), (146, .iaload, 1), (147, .ireturn, 1)]
theorem DX5_years : zD cX5_years dlX5_years = true := by decide +kernel
set_option maxRecDepth 20000 in
theorem ggX5_years_X5_isCity : GoodIn wsX5_years wsX5_isCity := goodIn_r _ [11, 12, 13, 10, 14] (by decide +kernel) (by decide +kernel)
set_option maxRecDepth 20000 in
theorem gX5_years_X5_isCity : GoodIn wsX5_years (va_wsS RX5 156 yX5_isCity wsX5_isCity) := goodIn_app (goodIn_of _ (by decide +kernel)) ggX5_years_X5_isCity
set_option maxRecDepth 20000 in
theorem ggX5_years_X5_within : GoodIn wsX5_years wsX5_within := goodIn_r _ [14] (by decide +kernel) (by decide +kernel)
set_option maxRecDepth 20000 in
theorem gX5_years_X5_within : GoodIn wsX5_years (va_wsS RX5 174 yX5_within wsX5_within) := goodIn_app (goodIn_of _ (by decide +kernel)) ggX5_years_X5_within
set_option maxRecDepth 20000 in
theorem ggX5_years_X5_counted : GoodIn wsX5_years wsX5_counted := goodIn_r _ [18, 19, 20, 21, 118, 119, 120, 121, 122, 123, 124, 125, 126, 127, 128, 129, 130] (by decide +kernel) (by decide +kernel)
set_option maxRecDepth 20000 in
theorem gX5_years_X5_counted : GoodIn wsX5_years (wsV RX5 67 RX5 yX5_counted wsX5_counted) := goodIn_app (goodIn_of _ (by decide +kernel)) ggX5_years_X5_counted
set_option maxRecDepth 20000 in
theorem ggX5_years_X4_copyFrom : GoodIn wsX5_years wsX4_copyFrom := goodIn_r _ [26, 27, 28, 29, 30, 31, 32, 33, 34, 35, 36, 37, 38, 39, 40, 41, 42, 43, 44, 45, 46, 47, 48, 10, 49, 50, 51, 52, 53, 54, 55, 56, 57, 131, 132, 133, 134, 135, 136, 137, 138, 139, 140, 141, 142, 143, 144, 145, 146, 147, 148, 149, 150, 151] (by decide +kernel) (by decide +kernel)
set_option maxRecDepth 20000 in
theorem gX5_years_X4_copyFrom : GoodIn wsX5_years (wsV RX5 110 RX4 yX4_copyFrom wsX4_copyFrom) := goodIn_app (goodIn_of _ (by decide +kernel)) ggX5_years_X4_copyFrom
set_option maxRecDepth 20000 in
theorem ggX5_years_X5_nextOfSeed : GoodIn wsX5_years wsX5_nextOfSeed := goodIn_r _ [60, 61, 62, 63] (by decide +kernel) (by decide +kernel)
set_option maxRecDepth 20000 in
theorem gX5_years_X5_nextOfSeed : GoodIn wsX5_years (va_wsS RX5 252 yX5_nextOfSeed wsX5_nextOfSeed) := goodIn_app (goodIn_of _ (by decide +kernel)) ggX5_years_X5_nextOfSeed
set_option maxRecDepth 20000 in
theorem ggX5_years_X4_deliver : GoodIn wsX5_years wsX4_deliver := goodIn_r _ [67, 43, 36, 29, 68, 69, 70, 25, 71, 72, 73, 74, 75, 27, 34, 76, 77, 78, 79, 80, 81, 82, 83, 38, 40, 84, 85, 86, 87, 41, 88, 89, 90, 91, 32, 35, 92, 10, 93, 94, 95, 96, 97, 42, 98, 99, 100, 101, 37, 31, 102, 51, 52, 53, 103, 104, 105, 106, 44, 107, 108, 109, 110, 111, 112, 113, 33, 114, 115, 116, 117, 131, 132, 133, 134, 135, 136, 137, 138, 139, 140, 141, 142, 143, 144, 145, 146, 147, 148, 149] (by decide +kernel) (by decide +kernel)
set_option maxRecDepth 20000 in
theorem gX5_years_X4_deliver : GoodIn wsX5_years (wsV RX5 127 RX4 yX4_deliver wsX4_deliver) := goodIn_app (goodIn_of _ (by decide +kernel)) ggX5_years_X4_deliver
theorem hd5_years : yX5_years.cls = RX5 ∧ yX5_years.cls ≠ "java/lang/invoke/MethodHandle" ∧ yX5_years.cls ≠ "java/lang/invoke/VarHandle" ∧ (parseMethodDescriptor yX5_years.desc).map (fun d => d.parameters.length) = some 3 := by decide +kernel
abbrev rm5_years : Room := { frames := 5, cells := 0, slots := 0, locals := 115 }
theorem in5_years_4 : ∀ w ∈ wsX40, w ∈ wsX5_years := fun w h => List.mem_cons_of_mem _ (List.mem_append_left _ (List.mem_append_right _ h))
theorem in5_years_5 : ∀ w ∈ wsX50, w ∈ wsX5_years := fun w h => List.mem_cons_of_mem _ (List.mem_append_left _ (List.mem_append_left _ (List.mem_append_right _ h)))
set_option maxHeartbeats 4000000 in
set_option maxRecDepth 100000 in
theorem c5_years {l : Launch} {D : va_G} {cI cZ cB : ClassId} {q : Nat → Nat} {qw : Nat → Nat} {qt : Nat → Nat} {qi : Nat → Nat} {qj : Nat → Nat} {qb : Nat → Nat} {qx : Nat → Nat} {sz : Nat} {kept0 : Int32} {kept1 : Int32} {fabove : Int64} {fbelow : Int64} {bads : Int32} {noes : Int32} {fulls : Int32} {w_things : Int32} {w_gifts : Int32} {w_days : Int32} {w_size : Nat → Int32} {w_weight : Nat → Int32} {w_sound : Nat → Int32} {w_harm : Nat → Int32} {w_in_ : Nat → Int32} {w_kind : Nat → Int32} {w_owner : Nat → Int32} {w_empty : Nat → Int32} {w_room : Nat → Int32} {w_told : Nat → Int32} {w_gate : Nat → Int32} {w_ear : Nat → Int32} {w_scale : Nat → Int32} {w_lost : Nat → Int32} {w_watch : Nat → Int32} {w_moments : Int32} {w_kept : Nat → Int32} {t_things : Int32} {t_gifts : Int32} {t_days : Int32} {t_size : Nat → Int32} {t_weight : Nat → Int32} {t_sound : Nat → Int32} {t_harm : Nat → Int32} {t_in_ : Nat → Int32} {t_kind : Nat → Int32} {t_owner : Nat → Int32} {t_empty : Nat → Int32} {t_room : Nat → Int32} {t_told : Nat → Int32} {t_gate : Nat → Int32} {t_ear : Nat → Int32} {t_scale : Nat → Int32} {t_lost : Nat → Int32} {t_watch : Nat → Int32} {t_moments : Int32} {t_kept : Nat → Int32} {a_city : Int32} {a_n : Int32} {a_seed : Int32} {r : Int32} {d_bads : Int32} {d_noes : Int32} {d_fulls : Int32} {d_t_things : Int32} {d_t_gifts : Int32} {d_t_days : Int32} {d_t_size : Nat → Int32} {d_t_weight : Nat → Int32} {d_t_sound : Nat → Int32} {d_t_harm : Nat → Int32} {d_t_in_ : Nat → Int32} {d_t_kind : Nat → Int32} {d_t_owner : Nat → Int32} {d_t_empty : Nat → Int32} {d_t_room : Nat → Int32} {d_t_told : Nat → Int32} {d_t_gate : Nat → Int32} {d_t_ear : Nat → Int32} {d_t_scale : Nat → Int32} {d_t_lost : Nat → Int32} {d_t_watch : Nat → Int32} {d_t_moments : Int32} {d_t_kept : Nat → Int32} (hf : f5_years bads noes fulls w_things w_gifts w_days w_size w_weight w_sound w_harm w_in_ w_kind w_owner w_empty w_room w_told w_gate w_ear w_scale w_lost w_watch w_moments w_kept t_things t_gifts t_days t_size t_weight t_sound t_harm t_in_ t_kind t_owner t_empty t_room t_told t_gate t_ear t_scale t_lost t_watch t_moments t_kept a_city a_n a_seed = some (r, d_bads, d_noes, d_fulls, d_t_things, d_t_gifts, d_t_days, d_t_size, d_t_weight, d_t_sound, d_t_harm, d_t_in_, d_t_kind, d_t_owner, d_t_empty, d_t_room, d_t_told, d_t_gate, d_t_ear, d_t_scale, d_t_lost, d_t_watch, d_t_moments, d_t_kept)) : Met l yX5_years wsX5_years rm5_years (zPm D cI cZ cB [.ref (q 0), .int a_city, .int a_n, .int a_seed] sz (zcat [(cHG q (qw 0) (qt 0) (qi 0) (qj 0) (qb 0) (qx 0) kept0 kept1 fabove fbelow bads noes fulls), (cWar cI qw w_things w_gifts w_days w_size w_weight w_sound w_harm w_in_ w_kind w_owner w_empty w_room w_told w_gate w_ear w_scale w_lost w_watch w_moments w_kept), (cWar cI qt t_things t_gifts t_days t_size t_weight t_sound t_harm t_in_ t_kind t_owner t_empty t_room t_told t_gate t_ear t_scale t_lost t_watch t_moments t_kept)])) (zQm D (some (.int r)) (zcat [(cHG q (qw 0) (qt 0) (qi 0) (qj 0) (qb 0) (qx 0) kept0 kept1 fabove fbelow d_bads d_noes d_fulls), (cWar cI qw w_things w_gifts w_days w_size w_weight w_sound w_harm w_in_ w_kind w_owner w_empty w_room w_told w_gate w_ear w_scale w_lost w_watch w_moments w_kept), (cWar cI qt d_t_things d_t_gifts d_t_days d_t_size d_t_weight d_t_sound d_t_harm d_t_in_ d_t_kind d_t_owner d_t_empty d_t_room d_t_told d_t_gate d_t_ear d_t_scale d_t_lost d_t_watch d_t_moments d_t_kept)]) (va_A (zcat [(cHG q (qw 0) (qt 0) (qi 0) (qj 0) (qb 0) (qx 0) kept0 kept1 fabove fbelow bads noes fulls), (cWar cI qw w_things w_gifts w_days w_size w_weight w_sound w_harm w_in_ w_kind w_owner w_empty w_room w_told w_gate w_ear w_scale w_lost w_watch w_moments w_kept), (cWar cI qt t_things t_gifts t_days t_size t_weight t_sound t_harm t_in_ t_kind t_owner t_empty t_room t_told t_gate t_ear t_scale t_lost t_watch t_moments t_kept)]) sz)) 0 0 (va_A (zcat [(cHG q (qw 0) (qt 0) (qi 0) (qj 0) (qb 0) (qx 0) kept0 kept1 fabove fbelow bads noes fulls), (cWar cI qw w_things w_gifts w_days w_size w_weight w_sound w_harm w_in_ w_kind w_owner w_empty w_room w_told w_gate w_ear w_scale w_lost w_watch w_moments w_kept), (cWar cI qt t_things t_gifts t_days t_size t_weight t_sound t_harm t_in_ t_kind t_owner t_empty t_room t_told t_gate t_ear t_scale t_lost t_watch t_moments t_kept)]) sz) := by
  unfold f5_years at hf
  refine z_mutI RX5 (by decide +kernel) rfl rfl (Nat.le_of_ble_eq_true rfl) ?_
  intro p e s m args below meth c Q A ls hx hb hml hown hts hK hP hD hS hA hret hl
  have hl : lv_has ls 9 [(0, .ref (q 0)), (1, .int a_city), (2, .int a_n), (3, .int a_seed)] := hl
  refine lv_iload_n hx hb (zD_g DX5_years 0 rfl) rfl (lv_at hl 1 rfl) ?_
  obtain ⟨r1, hc2, hf⟩ := zb1_s hf
  refine z_Sp (As := [.int a_city]) (rest := []) ⟨hx, hb, hml, hown, hts⟩ hK (c5_isCity  hc2) (va_cwS 1 hts gX5_years_X5_isCity rfl rfl rfl hd5_isCity ⟨Nat.le_of_ble_eq_true rfl, Nat.le_of_ble_eq_true rfl⟩) (hP.sub [] rfl) rfl hl.1 rfl rfl (Nat.le_of_ble_eq_true rfl) (zD_g DX5_years 1 rfl) ⟨Nat.zero_le _, Nat.zero_le _⟩ ?_
  refine lv_if_eq (tgt := 27) hx hb (zD_g DX5_years 2 rfl) (by decide) (fun c3 => ?_) (fun c3 => ?_)
  · replace hf := z_t c3 hf
    refine lv_aload_n hx hb (zD_g DX5_years 13 rfl) rfl (lv_at hl 0 rfl) ?_
    refine lv_bipush (v := (-2 : Int32)) hx hb (zD_g DX5_years 14 rfl) (by decide) ?_
    obtain ⟨r4, bads_5, noes_6, fulls_7, hc8, hf⟩ := zb4_s hf
    refine z_VB (As := [.int (-2 : Int32)]) (rest := []) (cs' := [(cHG q (qw 0) (qt 0) (qi 0) (qj 0) (qb 0) (qx 0) kept0 kept1 fabove fbelow bads_5 noes_6 fulls_7)]) (ws' := (zcat [(cHG q (qw 0) (qt 0) (qi 0) (qj 0) (qb 0) (qx 0) kept0 kept1 fabove fbelow bads_5 noes_6 fulls_7), (cWar cI qw w_things w_gifts w_days w_size w_weight w_sound w_harm w_in_ w_kind w_owner w_empty w_room w_told w_gate w_ear w_scale w_lost w_watch w_moments w_kept), (cWar cI qt t_things t_gifts t_days t_size t_weight t_sound t_harm t_in_ t_kind t_owner t_empty t_room t_told t_gate t_ear t_scale t_lost t_watch t_moments t_kept)])) ⟨hx, hb, hml, hown, hts⟩ hK (c5_counted (kept0 := kept0) (kept1 := kept1) (fabove := fabove) (fbelow := fbelow) (bads := bads) (noes := noes) (fulls := fulls) (q := q) (qw := qw) (qt := qt) (qi := qi) (qj := qj) (qb := qb) (qx := qx) hc8) (cwV 1 hts gX5_years_X5_counted rfl rfl rfl hd5_counted ⟨Nat.le_of_ble_eq_true rfl, Nat.le_of_ble_eq_true rfl⟩) hP hD hS hA 3 [0] [1, 2] [2, 0, 1] (by decide +kernel) rfl rfl rfl rfl rfl rfl rfl rfl rfl hl.1 rfl rfl (Nat.le_of_ble_eq_true rfl) (zD_g DX5_years 15 rfl) ⟨Nat.zero_le _, Nat.zero_le _⟩ (fun H locs hP hD hS => ?_)
    cases hf
    exact hret _ _ _ _ hP hD hS (zD_g DX5_years 16 rfl)
  · replace hf := z_f c3 hf
    refine lv_iload_n hx hb (zD_g DX5_years 3 rfl) rfl (lv_at hl 2 rfl) ?_
    refine lv_iconst (v := (0 : Int32)) hx hb (zD_g DX5_years 4 rfl) (by decide) ?_
    refine lv_bipush (v := (90 : Int32)) hx hb (zD_g DX5_years 5 rfl) (by decide) ?_
    obtain ⟨r9, hc10, hf⟩ := zb1_s hf
    refine z_Sp (As := [.int a_n, .int (0 : Int32), .int (90 : Int32)]) (rest := []) ⟨hx, hb, hml, hown, hts⟩ hK (c5_within  hc10) (va_cwS 3 hts gX5_years_X5_within rfl rfl rfl hd5_within ⟨Nat.le_of_ble_eq_true rfl, Nat.le_of_ble_eq_true rfl⟩) (hP.sub [] rfl) rfl hl.1 rfl rfl (Nat.le_of_ble_eq_true rfl) (zD_g DX5_years 6 rfl) ⟨Nat.zero_le _, Nat.zero_le _⟩ ?_
    refine lv_if_eq (tgt := 27) hx hb (zD_g DX5_years 7 rfl) (by decide) (fun c11 => ?_) (fun c11 => ?_)
    · replace hf := z_t c11 hf
      refine lv_aload_n hx hb (zD_g DX5_years 13 rfl) rfl (lv_at hl 0 rfl) ?_
      refine lv_bipush (v := (-2 : Int32)) hx hb (zD_g DX5_years 14 rfl) (by decide) ?_
      obtain ⟨r12, bads_13, noes_14, fulls_15, hc16, hf⟩ := zb4_s hf
      refine z_VB (As := [.int (-2 : Int32)]) (rest := []) (cs' := [(cHG q (qw 0) (qt 0) (qi 0) (qj 0) (qb 0) (qx 0) kept0 kept1 fabove fbelow bads_13 noes_14 fulls_15)]) (ws' := (zcat [(cHG q (qw 0) (qt 0) (qi 0) (qj 0) (qb 0) (qx 0) kept0 kept1 fabove fbelow bads_13 noes_14 fulls_15), (cWar cI qw w_things w_gifts w_days w_size w_weight w_sound w_harm w_in_ w_kind w_owner w_empty w_room w_told w_gate w_ear w_scale w_lost w_watch w_moments w_kept), (cWar cI qt t_things t_gifts t_days t_size t_weight t_sound t_harm t_in_ t_kind t_owner t_empty t_room t_told t_gate t_ear t_scale t_lost t_watch t_moments t_kept)])) ⟨hx, hb, hml, hown, hts⟩ hK (c5_counted (kept0 := kept0) (kept1 := kept1) (fabove := fabove) (fbelow := fbelow) (bads := bads) (noes := noes) (fulls := fulls) (q := q) (qw := qw) (qt := qt) (qi := qi) (qj := qj) (qb := qb) (qx := qx) hc16) (cwV 1 hts gX5_years_X5_counted rfl rfl rfl hd5_counted ⟨Nat.le_of_ble_eq_true rfl, Nat.le_of_ble_eq_true rfl⟩) hP hD hS hA 3 [0] [1, 2] [2, 0, 1] (by decide +kernel) rfl rfl rfl rfl rfl rfl rfl rfl rfl hl.1 rfl rfl (Nat.le_of_ble_eq_true rfl) (zD_g DX5_years 15 rfl) ⟨Nat.zero_le _, Nat.zero_le _⟩ (fun H locs hP hD hS => ?_)
      cases hf
      exact hret _ _ _ _ hP hD hS (zD_g DX5_years 16 rfl)
    · replace hf := z_f c11 hf
      refine lv_iload_n hx hb (zD_g DX5_years 8 rfl) rfl (lv_at hl 3 rfl) ?_
      refine lv_iconst (v := (0 : Int32)) hx hb (zD_g DX5_years 9 rfl) (by decide) ?_
      refine lv_ldc (v := (999999 : Int32)) hx hb hown (hts _ (List.mem_of_getElem? (i := 1) rfl)) (zD_g DX5_years 10 rfl) ?_
      obtain ⟨r17, hc18, hf⟩ := zb1_s hf
      refine z_Sp (As := [.int a_seed, .int (0 : Int32), .int (999999 : Int32)]) (rest := []) ⟨hx, hb, hml, hown, hts⟩ hK (c5_within  hc18) (va_cwS 3 hts gX5_years_X5_within rfl rfl rfl hd5_within ⟨Nat.le_of_ble_eq_true rfl, Nat.le_of_ble_eq_true rfl⟩) (hP.sub [] rfl) rfl hl.1 rfl rfl (Nat.le_of_ble_eq_true rfl) (zD_g DX5_years 11 rfl) ⟨Nat.zero_le _, Nat.zero_le _⟩ ?_
      refine lv_if_ne (tgt := 34) hx hb (zD_g DX5_years 12 rfl) (by decide) (fun c19 => ?_) (fun c19 => ?_)
      · replace hf := z_f c19 hf
        refine lv_aload_n hx hb (zD_g DX5_years 17 rfl) rfl (lv_at hl 0 rfl) ?_
        refine va_get (D := D) (ci := 4) (v := .ref (qw 0)) (C := RX5) (T := TX5) (N := 13) hx hb hts in5_years_5 hown hK.1 hP 0 rfl rfl 0 (by decide) (hts _ (List.mem_of_getElem? (i := 2) rfl)) (fun _ h9 => h9) rfl (zD_g DX5_years 18 rfl) ?_
        refine va_get (D := D) (ci := 3) (v := .int w_gifts) (C := RX4) (T := TX4) (N := 19) hx hb hts in5_years_4 hown hK.1 hP 1 rfl rfl 1 (by decide) (hts _ (List.mem_of_getElem? (i := 3) rfl)) (fun _ h9 => h9) rfl (zD_g DX5_years 19 rfl) ?_
        refine lv_if_gt (tgt := 51) hx hb (zD_g DX5_years 20 rfl) (by decide) (fun c20 => ?_) (fun c20 => ?_)
        · replace hf := z_t c20 hf
          refine lv_aload_n hx hb (zD_g DX5_years 25 rfl) rfl (lv_at hl 0 rfl) ?_
          refine va_get (D := D) (ci := 4) (v := .ref (qt 0)) (C := RX5) (T := TX5) (N := 13) hx hb hts in5_years_5 hown hK.1 hP 0 rfl rfl 1 (by decide) (hts _ (List.mem_of_getElem? (i := 4) rfl)) (fun _ h9 => h9) rfl (zD_g DX5_years 26 rfl) ?_
          refine lv_aload_n hx hb (zD_g DX5_years 27 rfl) rfl (lv_at hl 0 rfl) ?_
          refine va_get (D := D) (ci := 4) (v := .ref (qw 0)) (C := RX5) (T := TX5) (N := 13) hx hb hts in5_years_5 hown hK.1 hP 0 rfl rfl 0 (by decide) (hts _ (List.mem_of_getElem? (i := 2) rfl)) (fun _ h9 => h9) rfl (zD_g DX5_years 28 rfl) ?_
          obtain ⟨t_things_21, t_gifts_22, t_days_23, t_size_24, t_weight_25, t_sound_26, t_harm_27, t_in_28, t_kind_29, t_owner_30, t_empty_31, t_room_32, t_told_33, t_gate_34, t_ear_35, t_scale_36, t_lost_37, t_watch_38, t_moments_39, t_kept_40, hc41, hf⟩ := zb20_s hf
          refine z_VB (As := [.ref (qw 0)]) (rest := []) (cs' := [(cWar cI qt t_things_21 t_gifts_22 t_days_23 t_size_24 t_weight_25 t_sound_26 t_harm_27 t_in_28 t_kind_29 t_owner_30 t_empty_31 t_room_32 t_told_33 t_gate_34 t_ear_35 t_scale_36 t_lost_37 t_watch_38 t_moments_39 t_kept_40), (cWar cI qw w_things w_gifts w_days w_size w_weight w_sound w_harm w_in_ w_kind w_owner w_empty w_room w_told w_gate w_ear w_scale w_lost w_watch w_moments w_kept)]) (ws' := (zcat [(cHG q (qw 0) (qt 0) (qi 0) (qj 0) (qb 0) (qx 0) kept0 kept1 fabove fbelow bads noes fulls), (cWar cI qw w_things w_gifts w_days w_size w_weight w_sound w_harm w_in_ w_kind w_owner w_empty w_room w_told w_gate w_ear w_scale w_lost w_watch w_moments w_kept), (cWar cI qt t_things_21 t_gifts_22 t_days_23 t_size_24 t_weight_25 t_sound_26 t_harm_27 t_in_28 t_kind_29 t_owner_30 t_empty_31 t_room_32 t_told_33 t_gate_34 t_ear_35 t_scale_36 t_lost_37 t_watch_38 t_moments_39 t_kept_40)])) ⟨hx, hb, hml, hown, hts⟩ hK (c4_copyFrom (things := t_things) (gifts := t_gifts) (days := t_days) (size := t_size) (weight := t_weight) (sound := t_sound) (harm := t_harm) (in_ := t_in_) (kind := t_kind) (owner := t_owner) (empty := t_empty) (room := t_room) (told := t_told) (gate := t_gate) (ear := t_ear) (scale := t_scale) (lost := t_lost) (watch := t_watch) (moments := t_moments) (kept := t_kept) (q := qt) (o_things := w_things) (o_gifts := w_gifts) (o_days := w_days) (o_size := w_size) (o_weight := w_weight) (o_sound := w_sound) (o_harm := w_harm) (o_in_ := w_in_) (o_kind := w_kind) (o_owner := w_owner) (o_empty := w_empty) (o_room := w_room) (o_told := w_told) (o_gate := w_gate) (o_ear := w_ear) (o_scale := w_scale) (o_lost := w_lost) (o_watch := w_watch) (o_moments := w_moments) (o_kept := w_kept) (q0 := qw) hc41) (cwV 1 hts gX5_years_X4_copyFrom rfl rfl rfl hd4_copyFrom ⟨Nat.le_of_ble_eq_true rfl, Nat.le_of_ble_eq_true rfl⟩) hP hD hS hA 3 [2, 1] [0] [0, 2, 1] (by decide +kernel) rfl rfl rfl rfl rfl rfl rfl rfl rfl hl.1 rfl rfl (Nat.le_of_ble_eq_true rfl) (zD_g DX5_years 29 rfl) ⟨Nat.zero_le _, Nat.zero_le _⟩ (fun H locs hP hD hS => ?_)
          refine lv_iload_n hx hb (zD_g DX5_years 30 rfl) rfl (lv_at hl 3 rfl) ?_
          refine lv_i2l (v := (a_seed).toInt64) hx hb (zD_g DX5_years 31 rfl) rfl ?_
          refine lv_topl (fun x42 ex42 => ?_)
          replace hf := zl_s hf x42 ex42
          refine lv_lstore (lv' := [(4, .long x42), (0, .ref (q 0)), (1, .int a_city), (2, .int a_n), (3, .int a_seed)]) hx hb (zD_g DX5_years 32 rfl) hl (by decide) rfl (fun ls hl => ?_)
          refine lv_iconst (v := (0 : Int32)) hx hb (zD_g DX5_years 33 rfl) (by decide) ?_
          refine lv_istore (lv' := [(6, .int (0 : Int32)), (4, .long x42), (0, .ref (q 0)), (1, .int a_city), (2, .int a_n), (3, .int a_seed)]) hx hb (zD_g DX5_years 34 rfl) hl (by decide) rfl (fun ls hl => ?_)
          have hL49 : ∀ (k49 : (Int32) → (Nat → Int32) → (Nat → Int32) → (Nat → Int32) → Option (Int32 × Int32 × Int32 × Int32 × Int32 × Int32 × Int32 × (Nat → Int32) × (Nat → Int32) × (Nat → Int32) × (Nat → Int32) × (Nat → Int32) × (Nat → Int32) × (Nat → Int32) × (Nat → Int32) × (Nat → Int32) × (Nat → Int32) × (Nat → Int32) × (Nat → Int32) × (Nat → Int32) × (Nat → Int32) × (Nat → Int32) × Int32 × (Nat → Int32))) (hk49 : ∀ (t_days_65 : Int32) (t_in_66 : Nat → Int32) (t_owner_67 : Nat → Int32) (t_lost_68 : Nat → Int32), k49 t_days_65 t_in_66 t_owner_67 t_lost_68 = some (r, d_bads, d_noes, d_fulls, d_t_things, d_t_gifts, d_t_days, d_t_size, d_t_weight, d_t_sound, d_t_harm, d_t_in_, d_t_kind, d_t_owner, d_t_empty, d_t_room, d_t_told, d_t_gate, d_t_ear, d_t_scale, d_t_lost, d_t_watch, d_t_moments, d_t_kept) → ∀ (H : Heap) (locs : List Loc), va_P D vwCl (zcat [(cHG q (qw 0) (qt 0) (qi 0) (qj 0) (qb 0) (qx 0) kept0 kept1 fabove fbelow bads noes fulls), (cWar cI qw w_things w_gifts w_days w_size w_weight w_sound w_harm w_in_ w_kind w_owner w_empty w_room w_told w_gate w_ear w_scale w_lost w_watch w_moments w_kept), (cWar cI qt t_things_21 t_gifts_22 t_days_65 t_size_24 t_weight_25 t_sound_26 t_harm_27 t_in_66 t_kind_29 t_owner_67 t_empty_31 t_room_32 t_told_33 t_gate_34 t_ear_35 t_scale_36 t_lost_68 t_watch_38 t_moments_39 t_kept_40)]) H → va_D A (zcat [(cHG q (qw 0) (qt 0) (qi 0) (qj 0) (qb 0) (qx 0) kept0 kept1 fabove fbelow bads noes fulls), (cWar cI qw w_things w_gifts w_days w_size w_weight w_sound w_harm w_in_ w_kind w_owner w_empty w_room w_told w_gate w_ear w_scale w_lost w_watch w_moments w_kept), (cWar cI qt t_things_21 t_gifts_22 t_days_65 t_size_24 t_weight_25 t_sound_26 t_harm_27 t_in_66 t_kind_29 t_owner_67 t_empty_31 t_room_32 t_told_33 t_gate_34 t_ear_35 t_scale_36 t_lost_68 t_watch_38 t_moments_39 t_kept_40)]) → va_S A s.heap H locs → ∀ (ls : Array Slot), lv_has ls 9 [(0, .ref (q 0)), (1, .int a_city)] → W p l e rm5_years s m args below meth c H locs 0 0 Q (F0 m 138 ls [])) (n49 : Nat) (y43 : Int64) (y44 : Int32) (t_days_45 : Int32) (t_in_46 : Nat → Int32) (t_owner_47 : Nat → Int32) (t_lost_48 : Nat → Int32), L5_years_69 k49 w_gifts a_n t_things_21 t_weight_25 t_sound_26 t_harm_27 t_kind_29 t_empty_31 t_room_32 t_gate_34 t_ear_35 t_scale_36 t_watch_38 n49 y43 y44 t_days_45 t_in_46 t_owner_47 t_lost_48 = some (r, d_bads, d_noes, d_fulls, d_t_things, d_t_gifts, d_t_days, d_t_size, d_t_weight, d_t_sound, d_t_harm, d_t_in_, d_t_kind, d_t_owner, d_t_empty, d_t_room, d_t_told, d_t_gate, d_t_ear, d_t_scale, d_t_lost, d_t_watch, d_t_moments, d_t_kept) → ∀ (H : Heap) (locs : List Loc), va_P D vwCl (zcat [(cHG q (qw 0) (qt 0) (qi 0) (qj 0) (qb 0) (qx 0) kept0 kept1 fabove fbelow bads noes fulls), (cWar cI qw w_things w_gifts w_days w_size w_weight w_sound w_harm w_in_ w_kind w_owner w_empty w_room w_told w_gate w_ear w_scale w_lost w_watch w_moments w_kept), (cWar cI qt t_things_21 t_gifts_22 t_days_45 t_size_24 t_weight_25 t_sound_26 t_harm_27 t_in_46 t_kind_29 t_owner_47 t_empty_31 t_room_32 t_told_33 t_gate_34 t_ear_35 t_scale_36 t_lost_48 t_watch_38 t_moments_39 t_kept_40)]) H → va_D A (zcat [(cHG q (qw 0) (qt 0) (qi 0) (qj 0) (qb 0) (qx 0) kept0 kept1 fabove fbelow bads noes fulls), (cWar cI qw w_things w_gifts w_days w_size w_weight w_sound w_harm w_in_ w_kind w_owner w_empty w_room w_told w_gate w_ear w_scale w_lost w_watch w_moments w_kept), (cWar cI qt t_things_21 t_gifts_22 t_days_45 t_size_24 t_weight_25 t_sound_26 t_harm_27 t_in_46 t_kind_29 t_owner_47 t_empty_31 t_room_32 t_told_33 t_gate_34 t_ear_35 t_scale_36 t_lost_48 t_watch_38 t_moments_39 t_kept_40)]) → va_S A s.heap H locs → ∀ (ls : Array Slot), lv_has ls 9 [(0, .ref (q 0)), (1, .int a_city), (2, .int a_n), (4, .long y43), (6, .int y44)] → W p l e rm5_years s m args below meth c H locs 0 0 Q (F0 m 69 ls []) := by
            intro k49 hk49 n49
            induction n49 with
            | zero =>
              intro y43 y44 t_days_45 t_in_46 t_owner_47 t_lost_48 hf
              cases hf
            | succ n49 ih49 =>
              intro y43 y44 t_days_45 t_in_46 t_owner_47 t_lost_48 hf H locs hP hD hS ls hl
              rw [L5_years_69] at hf
              refine lv_iload hx hb (zD_g DX5_years 35 rfl) (lv_at hl 4 rfl) ?_
              refine lv_iload_n hx hb (zD_g DX5_years 36 rfl) rfl (lv_at hl 2 rfl) ?_
              refine lv_icmp_ge (tgt := 138) hx hb (zD_g DX5_years 37 rfl) (by decide) (fun c50 => ?_) (fun c50 => ?_)
              · replace hf := z_t c50 hf
                exact hk49 _ _ _ _ hf _ _ hP hD hS ls (lv_sub hl [0, 1] rfl)
              · replace hf := z_f c50 hf
                refine lv_lload hx hb (zD_g DX5_years 38 rfl) (lv_at hl 3 rfl) ?_
                obtain ⟨r51, hc52, hf⟩ := zb1_s hf
                refine z_Sp (As := [.long y43]) (rest := []) ⟨hx, hb, hml, hown, hts⟩ hK (c5_nextOfSeed  hc52) (va_cwS 1 hts gX5_years_X5_nextOfSeed rfl rfl rfl hd5_nextOfSeed ⟨Nat.le_of_ble_eq_true rfl, Nat.le_of_ble_eq_true rfl⟩) (hP.sub [] rfl) rfl hl.1 rfl rfl (Nat.le_of_ble_eq_true rfl) (zD_g DX5_years 39 rfl) ⟨Nat.zero_le _, Nat.zero_le _⟩ ?_
                refine lv_lstore (lv' := [(4, .long r51), (0, .ref (q 0)), (1, .int a_city), (2, .int a_n), (6, .int y44)]) hx hb (zD_g DX5_years 40 rfl) hl (by decide) rfl (fun ls hl => ?_)
                refine lv_lload hx hb (zD_g DX5_years 41 rfl) (lv_at hl 0 rfl) ?_
                refine lv_ldc2 (v := (65536 : Int64)) hx hb hown (hts _ (List.mem_of_getElem? (i := 5) rfl)) (zD_g DX5_years 42 rfl) ?_
                refine lv_ldiv hx hb (zD_g DX5_years 43 rfl) (by decide) ?_
                refine lv_aload_n hx hb (zD_g DX5_years 44 rfl) rfl (lv_at hl 1 rfl) ?_
                refine va_get (D := D) (ci := 4) (v := .ref (qw 0)) (C := RX5) (T := TX5) (N := 13) hx hb hts in5_years_5 hown hK.1 hP 0 rfl rfl 0 (by decide) (hts _ (List.mem_of_getElem? (i := 2) rfl)) (fun _ h9 => h9) rfl (zD_g DX5_years 45 rfl) ?_
                refine va_get (D := D) (ci := 3) (v := .int w_gifts) (C := RX4) (T := TX4) (N := 19) hx hb hts in5_years_4 hown hK.1 hP 1 rfl rfl 1 (by decide) (hts _ (List.mem_of_getElem? (i := 3) rfl)) (fun _ h9 => h9) rfl (zD_g DX5_years 46 rfl) ?_
                refine lv_i2l (v := (w_gifts).toInt64) hx hb (zD_g DX5_years 47 rfl) rfl ?_
                obtain ⟨h53, hf⟩ := zdl_s hf
                refine lv_lrem hx hb (zD_g DX5_years 48 rfl) h53 ?_
                refine lv_l2i (v := (((r51 / (65536 : Int64)) - (r51 / (65536 : Int64)) / ((w_gifts).toInt64) * ((w_gifts).toInt64))).toInt32) hx hb (zD_g DX5_years 49 rfl) rfl ?_
                refine lv_topi (fun x54 ex54 => ?_)
                replace hf := zl_s hf x54 ex54
                refine lv_istore (lv' := [(7, .int x54), (4, .long r51), (0, .ref (q 0)), (1, .int a_city), (2, .int a_n), (6, .int y44)]) hx hb (zD_g DX5_years 50 rfl) hl (by decide) rfl (fun ls hl => ?_)
                refine lv_lload hx hb (zD_g DX5_years 51 rfl) (lv_at hl 1 rfl) ?_
                obtain ⟨r55, hc56, hf⟩ := zb1_s hf
                refine z_Sp (As := [.long r51]) (rest := []) ⟨hx, hb, hml, hown, hts⟩ hK (c5_nextOfSeed  hc56) (va_cwS 1 hts gX5_years_X5_nextOfSeed rfl rfl rfl hd5_nextOfSeed ⟨Nat.le_of_ble_eq_true rfl, Nat.le_of_ble_eq_true rfl⟩) (hP.sub [] rfl) rfl hl.1 rfl rfl (Nat.le_of_ble_eq_true rfl) (zD_g DX5_years 52 rfl) ⟨Nat.zero_le _, Nat.zero_le _⟩ ?_
                refine lv_lstore (lv' := [(4, .long r55), (7, .int x54), (0, .ref (q 0)), (1, .int a_city), (2, .int a_n), (6, .int y44)]) hx hb (zD_g DX5_years 53 rfl) hl (by decide) rfl (fun ls hl => ?_)
                refine lv_lload hx hb (zD_g DX5_years 54 rfl) (lv_at hl 0 rfl) ?_
                refine lv_ldc2 (v := (65536 : Int64)) hx hb hown (hts _ (List.mem_of_getElem? (i := 5) rfl)) (zD_g DX5_years 55 rfl) ?_
                refine lv_ldiv hx hb (zD_g DX5_years 56 rfl) (by decide) ?_
                refine lv_topl (fun x57 ex57 => ?_)
                replace hf := zl_s hf x57 ex57
                refine lv_ldc2 (v := (6 : Int64)) hx hb hown (hts _ (List.mem_of_getElem? (i := 6) rfl)) (zD_g DX5_years 57 rfl) ?_
                refine lv_lrem hx hb (zD_g DX5_years 58 rfl) (by decide) ?_
                refine lv_l2i (v := ((x57 - x57 / (6 : Int64) * (6 : Int64))).toInt32) hx hb (zD_g DX5_years 59 rfl) rfl ?_
                refine lv_topi (fun x58 ex58 => ?_)
                replace hf := zl_s hf x58 ex58
                refine lv_istore (lv' := [(8, .int x58), (4, .long r55), (7, .int x54), (0, .ref (q 0)), (1, .int a_city), (2, .int a_n), (6, .int y44)]) hx hb (zD_g DX5_years 60 rfl) hl (by decide) rfl (fun ls hl => ?_)
                refine lv_aload_n hx hb (zD_g DX5_years 61 rfl) rfl (lv_at hl 3 rfl) ?_
                refine va_get (D := D) (ci := 4) (v := .ref (qt 0)) (C := RX5) (T := TX5) (N := 13) hx hb hts in5_years_5 hown hK.1 hP 0 rfl rfl 1 (by decide) (hts _ (List.mem_of_getElem? (i := 4) rfl)) (fun _ h9 => h9) rfl (zD_g DX5_years 62 rfl) ?_
                refine lv_iload hx hb (zD_g DX5_years 63 rfl) (lv_at hl 2 rfl) ?_
                refine lv_iload hx hb (zD_g DX5_years 64 rfl) (lv_at hl 0 rfl) ?_
                obtain ⟨r59, t_days_60, t_in_61, t_owner_62, t_lost_63, hc64, hf⟩ := zb5_s hf
                refine z_VB (As := [.int x54, .int x58]) (rest := []) (cs' := [(cWar cI qt t_things_21 t_gifts_22 t_days_60 t_size_24 t_weight_25 t_sound_26 t_harm_27 t_in_61 t_kind_29 t_owner_62 t_empty_31 t_room_32 t_told_33 t_gate_34 t_ear_35 t_scale_36 t_lost_63 t_watch_38 t_moments_39 t_kept_40)]) (ws' := (zcat [(cHG q (qw 0) (qt 0) (qi 0) (qj 0) (qb 0) (qx 0) kept0 kept1 fabove fbelow bads noes fulls), (cWar cI qw w_things w_gifts w_days w_size w_weight w_sound w_harm w_in_ w_kind w_owner w_empty w_room w_told w_gate w_ear w_scale w_lost w_watch w_moments w_kept), (cWar cI qt t_things_21 t_gifts_22 t_days_60 t_size_24 t_weight_25 t_sound_26 t_harm_27 t_in_61 t_kind_29 t_owner_62 t_empty_31 t_room_32 t_told_33 t_gate_34 t_ear_35 t_scale_36 t_lost_63 t_watch_38 t_moments_39 t_kept_40)])) ⟨hx, hb, hml, hown, hts⟩ hK (c4_deliver (things := t_things_21) (gifts := t_gifts_22) (days := t_days_45) (size := t_size_24) (weight := t_weight_25) (sound := t_sound_26) (harm := t_harm_27) (in_ := t_in_46) (kind := t_kind_29) (owner := t_owner_47) (empty := t_empty_31) (room := t_room_32) (told := t_told_33) (gate := t_gate_34) (ear := t_ear_35) (scale := t_scale_36) (lost := t_lost_48) (watch := t_watch_38) (moments := t_moments_39) (kept := t_kept_40) (q := qt) hc64) (cwV 2 hts gX5_years_X4_deliver rfl rfl rfl hd4_deliver ⟨Nat.le_of_ble_eq_true rfl, Nat.le_of_ble_eq_true rfl⟩) hP hD hS hA 3 [2] [0, 1] [0, 1, 2] (by decide +kernel) rfl rfl rfl rfl rfl rfl rfl rfl rfl hl.1 rfl rfl (Nat.le_of_ble_eq_true rfl) (zD_g DX5_years 65 rfl) ⟨Nat.zero_le _, Nat.zero_le _⟩ (fun H locs hP hD hS => ?_)
                refine lv_pop hx hb (zD_g DX5_years 66 rfl) rfl ?_
                refine lv_iinc (v := y44 + 1) (lv' := [(6, .int (y44 + 1)), (8, .int x58), (4, .long r55), (7, .int x54), (0, .ref (q 0)), (1, .int a_city), (2, .int a_n)]) (k := 6) hx hb (zD_g DX5_years 67 rfl) hl rfl rfl (by decide) rfl (fun ls hl => ?_)
                refine lv_goto (tgt := 69) hx hb (zD_g DX5_years 68 rfl) (by decide) ?_
                exact ih49 _ _ _ _ _ _ hf _ _ hP hD hS ls (lv_sub hl [4, 5, 6, 2, 0] rfl)
          refine hL49 _ (fun t_days_65 t_in_66 t_owner_67 t_lost_68 hf H locs hP hD hS ls hl => ?_) _ _ _ _ _ _ _ hf _ _ hP hD hS ls (lv_sub hl [2, 3, 4, 1, 0] rfl)
          refine lv_aload_n hx hb (zD_g DX5_years 69 rfl) rfl (lv_at hl 0 rfl) ?_
          refine va_get (D := D) (ci := 4) (v := .ref (qt 0)) (C := RX5) (T := TX5) (N := 13) hx hb hts in5_years_5 hown hK.1 hP 0 rfl rfl 1 (by decide) (hts _ (List.mem_of_getElem? (i := 4) rfl)) (fun _ h9 => h9) rfl (zD_g DX5_years 70 rfl) ?_
          refine va_get (D := D) (ci := 3) (v := .ref (qt 14)) (C := RX4) (T := TX4) (N := 19) hx hb hts in5_years_4 hown hK.1 hP 19 rfl rfl 16 (by decide) (hts _ (List.mem_of_getElem? (i := 7) rfl)) (fun _ h9 => h9) rfl (zD_g DX5_years 71 rfl) ?_
          refine lv_iload_n hx hb (zD_g DX5_years 72 rfl) rfl (lv_at hl 1 rfl) ?_
          obtain ⟨h69, hf⟩ := zg_s hf
          refine z_iald (k := a_city.toNatClampNeg) hx hb hK.1 hP 33 0 rfl rfl h69 rfl (zD_g DX5_years 73 rfl) ?_
          refine lv_topi (fun x70 ex70 => ?_)
          replace hf := zl_s hf x70 ex70
          cases hf
          exact hret _ _ _ _ hP hD hS (zD_g DX5_years 74 rfl)
        · replace hf := z_f c20 hf
          refine lv_aload_n hx hb (zD_g DX5_years 21 rfl) rfl (lv_at hl 0 rfl) ?_
          refine lv_bipush (v := (-3 : Int32)) hx hb (zD_g DX5_years 22 rfl) (by decide) ?_
          obtain ⟨r71, bads_72, noes_73, fulls_74, hc75, hf⟩ := zb4_s hf
          refine z_VB (As := [.int (-3 : Int32)]) (rest := []) (cs' := [(cHG q (qw 0) (qt 0) (qi 0) (qj 0) (qb 0) (qx 0) kept0 kept1 fabove fbelow bads_72 noes_73 fulls_74)]) (ws' := (zcat [(cHG q (qw 0) (qt 0) (qi 0) (qj 0) (qb 0) (qx 0) kept0 kept1 fabove fbelow bads_72 noes_73 fulls_74), (cWar cI qw w_things w_gifts w_days w_size w_weight w_sound w_harm w_in_ w_kind w_owner w_empty w_room w_told w_gate w_ear w_scale w_lost w_watch w_moments w_kept), (cWar cI qt t_things t_gifts t_days t_size t_weight t_sound t_harm t_in_ t_kind t_owner t_empty t_room t_told t_gate t_ear t_scale t_lost t_watch t_moments t_kept)])) ⟨hx, hb, hml, hown, hts⟩ hK (c5_counted (kept0 := kept0) (kept1 := kept1) (fabove := fabove) (fbelow := fbelow) (bads := bads) (noes := noes) (fulls := fulls) (q := q) (qw := qw) (qt := qt) (qi := qi) (qj := qj) (qb := qb) (qx := qx) hc75) (cwV 1 hts gX5_years_X5_counted rfl rfl rfl hd5_counted ⟨Nat.le_of_ble_eq_true rfl, Nat.le_of_ble_eq_true rfl⟩) hP hD hS hA 3 [0] [1, 2] [2, 0, 1] (by decide +kernel) rfl rfl rfl rfl rfl rfl rfl rfl rfl hl.1 rfl rfl (Nat.le_of_ble_eq_true rfl) (zD_g DX5_years 23 rfl) ⟨Nat.zero_le _, Nat.zero_le _⟩ (fun H locs hP hD hS => ?_)
          cases hf
          exact hret _ _ _ _ hP hD hS (zD_g DX5_years 24 rfl)
      · replace hf := z_t c19 hf
        refine lv_aload_n hx hb (zD_g DX5_years 13 rfl) rfl (lv_at hl 0 rfl) ?_
        refine lv_bipush (v := (-2 : Int32)) hx hb (zD_g DX5_years 14 rfl) (by decide) ?_
        obtain ⟨r76, bads_77, noes_78, fulls_79, hc80, hf⟩ := zb4_s hf
        refine z_VB (As := [.int (-2 : Int32)]) (rest := []) (cs' := [(cHG q (qw 0) (qt 0) (qi 0) (qj 0) (qb 0) (qx 0) kept0 kept1 fabove fbelow bads_77 noes_78 fulls_79)]) (ws' := (zcat [(cHG q (qw 0) (qt 0) (qi 0) (qj 0) (qb 0) (qx 0) kept0 kept1 fabove fbelow bads_77 noes_78 fulls_79), (cWar cI qw w_things w_gifts w_days w_size w_weight w_sound w_harm w_in_ w_kind w_owner w_empty w_room w_told w_gate w_ear w_scale w_lost w_watch w_moments w_kept), (cWar cI qt t_things t_gifts t_days t_size t_weight t_sound t_harm t_in_ t_kind t_owner t_empty t_room t_told t_gate t_ear t_scale t_lost t_watch t_moments t_kept)])) ⟨hx, hb, hml, hown, hts⟩ hK (c5_counted (kept0 := kept0) (kept1 := kept1) (fabove := fabove) (fbelow := fbelow) (bads := bads) (noes := noes) (fulls := fulls) (q := q) (qw := qw) (qt := qt) (qi := qi) (qj := qj) (qb := qb) (qx := qx) hc80) (cwV 1 hts gX5_years_X5_counted rfl rfl rfl hd5_counted ⟨Nat.le_of_ble_eq_true rfl, Nat.le_of_ble_eq_true rfl⟩) hP hD hS hA 3 [0] [1, 2] [2, 0, 1] (by decide +kernel) rfl rfl rfl rfl rfl rfl rfl rfl rfl hl.1 rfl rfl (Nat.le_of_ble_eq_true rfl) (zD_g DX5_years 15 rfl) ⟨Nat.zero_le _, Nat.zero_le _⟩ (fun H locs hP hD hS => ?_)
        cases hf
        exact hret _ _ _ _ hP hD hS (zD_g DX5_years 16 rfl)
abbrev dlX5_part : List (Nat × Instr × Nat) := [(0, .iload_n 1, 1), (1, .lookupswitch 37 #[(0, 27), (1, 32)], 27), (28, .aload_n 0, 1), (29, .getfield 46, 3), (32, .lreturn, 1), (33, .aload_n 0, 1), (34, .getfield 50, 3), (37, .lreturn, 1), (38, .aload_n 0, 1), (39, .bipush (-2), 2), (41, .invokevirtual 67, 3), (44, .i2l, 1), (45, .lreturn, 1)]
theorem DX5_part : zD cX5_part dlX5_part = true := by decide +kernel
set_option maxRecDepth 20000 in
theorem ggX5_part_X5_counted : GoodIn wsX5_part wsX5_counted := goodIn_r _ [7, 8, 9, 10, 11, 12, 13, 14, 15, 16, 17, 18, 19, 20, 21, 22, 23] (by decide +kernel) (by decide +kernel)
set_option maxRecDepth 20000 in
theorem gX5_part_X5_counted : GoodIn wsX5_part (wsV RX5 67 RX5 yX5_counted wsX5_counted) := goodIn_app (goodIn_of _ (by decide +kernel)) ggX5_part_X5_counted
theorem hd5_part : yX5_part.cls = RX5 ∧ yX5_part.cls ≠ "java/lang/invoke/MethodHandle" ∧ yX5_part.cls ≠ "java/lang/invoke/VarHandle" ∧ (parseMethodDescriptor yX5_part.desc).map (fun d => d.parameters.length) = some 1 := by decide +kernel
abbrev rm5_part : Room := { frames := 1, cells := 0, slots := 0, locals := 21 }
theorem in5_part_5 : ∀ w ∈ wsX50, w ∈ wsX5_part := fun w h => List.mem_cons_of_mem _ (List.mem_append_right _ h)
set_option maxHeartbeats 4000000 in
set_option maxRecDepth 100000 in
theorem c5_part {l : Launch} {D : va_G} {cI cZ cB : ClassId} {q : Nat → Nat} {qw : Nat → Nat} {qt : Nat → Nat} {qi : Nat → Nat} {qj : Nat → Nat} {qb : Nat → Nat} {qx : Nat → Nat} {sz : Nat} {kept0 : Int32} {kept1 : Int32} {fabove : Int64} {fbelow : Int64} {bads : Int32} {noes : Int32} {fulls : Int32} {a_what : Int32} {r : Int64} {d_bads : Int32} {d_noes : Int32} {d_fulls : Int32} (hf : f5_part fabove fbelow bads noes fulls a_what = some (r, d_bads, d_noes, d_fulls)) : Met l yX5_part wsX5_part rm5_part (zPm D cI cZ cB [.ref (q 0), .int a_what] sz (cHG q (qw 0) (qt 0) (qi 0) (qj 0) (qb 0) (qx 0) kept0 kept1 fabove fbelow bads noes fulls)) (zQm D (some (.long r)) (cHG q (qw 0) (qt 0) (qi 0) (qj 0) (qb 0) (qx 0) kept0 kept1 fabove fbelow d_bads d_noes d_fulls) (va_A (cHG q (qw 0) (qt 0) (qi 0) (qj 0) (qb 0) (qx 0) kept0 kept1 fabove fbelow bads noes fulls) sz)) 0 0 (va_A (cHG q (qw 0) (qt 0) (qi 0) (qj 0) (qb 0) (qx 0) kept0 kept1 fabove fbelow bads noes fulls) sz) := by
  unfold f5_part at hf
  refine z_mutL RX5 (by decide +kernel) rfl rfl (Nat.le_of_ble_eq_true rfl) ?_
  intro p e s m args below meth c Q A ls hx hb hml hown hts hK hP hD hS hA hret hl
  have hl : lv_has ls 2 [(0, .ref (q 0)), (1, .int a_what)] := hl
  refine lv_iload_n hx hb (zD_g DX5_part 0 rfl) rfl (lv_at hl 1 rfl) ?_
  by_cases c1 : a_what = 0
  · replace hf := z_t c1 hf
    refine lv_lookup (off := 27) (tgt := 28) hx hb (zD_g DX5_part 1 rfl) (by decide) (by rw [c1]; decide) (by decide) ?_
    refine lv_aload_n hx hb (zD_g DX5_part 2 rfl) rfl (lv_at hl 0 rfl) ?_
    refine va_get (D := D) (ci := 4) (v := .long fabove) (C := RX5) (T := TX5) (N := 13) hx hb hts in5_part_5 hown hK.1 hP 0 rfl rfl 8 (by decide) (hts _ (List.mem_of_getElem? (i := 1) rfl)) (fun _ h9 => h9) rfl (zD_g DX5_part 3 rfl) ?_
    cases hf
    exact hret _ _ _ _ hP hD hS (zD_g DX5_part 4 rfl)
  · replace hf := z_f c1 hf
    by_cases c2 : a_what = 1
    · replace hf := z_t c2 hf
      refine lv_lookup (off := 32) (tgt := 33) hx hb (zD_g DX5_part 1 rfl) (by decide) (by rw [c2]; decide) (by decide) ?_
      refine lv_aload_n hx hb (zD_g DX5_part 5 rfl) rfl (lv_at hl 0 rfl) ?_
      refine va_get (D := D) (ci := 4) (v := .long fbelow) (C := RX5) (T := TX5) (N := 13) hx hb hts in5_part_5 hown hK.1 hP 0 rfl rfl 9 (by decide) (hts _ (List.mem_of_getElem? (i := 2) rfl)) (fun _ h9 => h9) rfl (zD_g DX5_part 6 rfl) ?_
      cases hf
      exact hret _ _ _ _ hP hD hS (zD_g DX5_part 7 rfl)
    · replace hf := z_f c2 hf
      have z0 : a_what.toInt ≠ 0 := z_ni c1
      have z1 : a_what.toInt ≠ 1 := z_ni c2
      refine lv_lookup (off := 37) (tgt := 38) hx hb (zD_g DX5_part 1 rfl) (by decide) (by simp [Op.lookupswitch.offset, z0.symm, z1.symm]) (by decide) ?_
      refine lv_aload_n hx hb (zD_g DX5_part 8 rfl) rfl (lv_at hl 0 rfl) ?_
      refine lv_bipush (v := (-2 : Int32)) hx hb (zD_g DX5_part 9 rfl) (by decide) ?_
      obtain ⟨r3, bads_4, noes_5, fulls_6, hc7, hf⟩ := zb4_s hf
      refine z_Vm (As := [.int (-2 : Int32)]) (rest := []) (ws' := (cHG q (qw 0) (qt 0) (qi 0) (qj 0) (qb 0) (qx 0) kept0 kept1 fabove fbelow bads_4 noes_5 fulls_6)) ⟨hx, hb, hml, hown, hts⟩ hK (c5_counted (kept0 := kept0) (kept1 := kept1) (fabove := fabove) (fbelow := fbelow) (bads := bads) (noes := noes) (fulls := fulls) (q := q) (qw := qw) (qt := qt) (qi := qi) (qj := qj) (qb := qb) (qx := qx) hc7) (cwV 1 hts gX5_part_X5_counted rfl rfl rfl hd5_counted ⟨Nat.le_of_ble_eq_true rfl, Nat.le_of_ble_eq_true rfl⟩) hP hD hS hA 1 [0] [] [0] (by decide +kernel) rfl rfl rfl rfl rfl rfl rfl hl.1 rfl rfl (Nat.le_of_ble_eq_true rfl) (zD_g DX5_part 10 rfl) ⟨Nat.zero_le _, Nat.zero_le _⟩ (fun H locs hP hD hS => ?_)
      refine lv_i2l (v := (r3).toInt64) hx hb (zD_g DX5_part 11 rfl) rfl ?_
      refine lv_topl (fun x8 ex8 => ?_)
      replace hf := zl_s hf x8 ex8
      cases hf
      exact hret _ _ _ _ hP hD hS (zD_g DX5_part 12 rfl)
abbrev dlX5_image : List (Nat × Instr × Nat) := [(0, .iload_n 1, 1), (1, .ifCond .ne 21, 3), (4, .aload_n 0, 1), (5, .getfield 19, 3), (8, .aload_n 0, 1), (9, .getfield 10, 3), (12, .invokevirtual 110, 3), (15, .aload_n 0, 1), (16, .iconst 1, 1), (17, .putfield 25, 3), (20, .iconst 1, 1), (21, .ireturn, 1), (22, .iload_n 1, 1), (23, .iconst 1, 1), (24, .if_icmp .ne 21, 3), (27, .aload_n 0, 1), (28, .getfield 22, 3), (31, .aload_n 0, 1), (32, .getfield 10, 3), (35, .invokevirtual 110, 3), (38, .aload_n 0, 1), (39, .iconst 1, 1), (40, .putfield 29, 3), (43, .iconst 1, 1), (44, .ireturn, 1), (45, .aload_n 0, 1), (46, .bipush (-2), 2), (48, .invokevirtual 67, 3), (51, .ireturn, 1)]
theorem DX5_image : zD cX5_image dlX5_image = true := by decide +kernel
set_option maxRecDepth 20000 in
theorem ggX5_image_X4_copyFrom : GoodIn wsX5_image wsX4_copyFrom := goodIn_r _ [10, 11, 12, 13, 14, 15, 16, 17, 18, 19, 20, 21, 22, 23, 24, 25, 26, 27, 28, 29, 30, 31, 32, 33, 34, 35, 36, 37, 38, 39, 40, 41, 42, 63, 64, 65, 66, 67, 68, 69, 70, 71, 72, 73, 74, 75, 76, 77, 78, 79, 80, 81, 82, 83] (by decide +kernel) (by decide +kernel)
set_option maxRecDepth 20000 in
theorem gX5_image_X4_copyFrom : GoodIn wsX5_image (wsV RX5 110 RX4 yX4_copyFrom wsX4_copyFrom) := goodIn_app (goodIn_of _ (by decide +kernel)) ggX5_image_X4_copyFrom
set_option maxRecDepth 20000 in
theorem ggX5_image_X5_counted : GoodIn wsX5_image wsX5_counted := goodIn_r _ [46, 47, 48, 49, 50, 51, 52, 53, 54, 55, 56, 57, 58, 59, 60, 61, 62] (by decide +kernel) (by decide +kernel)
set_option maxRecDepth 20000 in
theorem gX5_image_X5_counted : GoodIn wsX5_image (wsV RX5 67 RX5 yX5_counted wsX5_counted) := goodIn_app (goodIn_of _ (by decide +kernel)) ggX5_image_X5_counted
theorem hd5_image : yX5_image.cls = RX5 ∧ yX5_image.cls ≠ "java/lang/invoke/MethodHandle" ∧ yX5_image.cls ≠ "java/lang/invoke/VarHandle" ∧ (parseMethodDescriptor yX5_image.desc).map (fun d => d.parameters.length) = some 1 := by decide +kernel
abbrev rm5_image : Room := { frames := 3, cells := 0, slots := 0, locals := 102 }
theorem in5_image_5 : ∀ w ∈ wsX50, w ∈ wsX5_image := fun w h => List.mem_cons_of_mem _ (List.mem_append_left _ (List.mem_append_left _ (List.mem_append_right _ h)))
set_option maxHeartbeats 4000000 in
set_option maxRecDepth 100000 in
theorem c5_image {l : Launch} {D : va_G} {cI cZ cB : ClassId} {q : Nat → Nat} {qw : Nat → Nat} {qi : Nat → Nat} {qj : Nat → Nat} {qt : Nat → Nat} {qb : Nat → Nat} {qx : Nat → Nat} {sz : Nat} {kept0 : Int32} {kept1 : Int32} {fabove : Int64} {fbelow : Int64} {bads : Int32} {noes : Int32} {fulls : Int32} {w_things : Int32} {w_gifts : Int32} {w_days : Int32} {w_size : Nat → Int32} {w_weight : Nat → Int32} {w_sound : Nat → Int32} {w_harm : Nat → Int32} {w_in_ : Nat → Int32} {w_kind : Nat → Int32} {w_owner : Nat → Int32} {w_empty : Nat → Int32} {w_room : Nat → Int32} {w_told : Nat → Int32} {w_gate : Nat → Int32} {w_ear : Nat → Int32} {w_scale : Nat → Int32} {w_lost : Nat → Int32} {w_watch : Nat → Int32} {w_moments : Int32} {w_kept : Nat → Int32} {i_things : Int32} {i_gifts : Int32} {i_days : Int32} {i_size : Nat → Int32} {i_weight : Nat → Int32} {i_sound : Nat → Int32} {i_harm : Nat → Int32} {i_in_ : Nat → Int32} {i_kind : Nat → Int32} {i_owner : Nat → Int32} {i_empty : Nat → Int32} {i_room : Nat → Int32} {i_told : Nat → Int32} {i_gate : Nat → Int32} {i_ear : Nat → Int32} {i_scale : Nat → Int32} {i_lost : Nat → Int32} {i_watch : Nat → Int32} {i_moments : Int32} {i_kept : Nat → Int32} {j_things : Int32} {j_gifts : Int32} {j_days : Int32} {j_size : Nat → Int32} {j_weight : Nat → Int32} {j_sound : Nat → Int32} {j_harm : Nat → Int32} {j_in_ : Nat → Int32} {j_kind : Nat → Int32} {j_owner : Nat → Int32} {j_empty : Nat → Int32} {j_room : Nat → Int32} {j_told : Nat → Int32} {j_gate : Nat → Int32} {j_ear : Nat → Int32} {j_scale : Nat → Int32} {j_lost : Nat → Int32} {j_watch : Nat → Int32} {j_moments : Int32} {j_kept : Nat → Int32} {a_i : Int32} {r : Int32} {d_kept0 : Int32} {d_kept1 : Int32} {d_bads : Int32} {d_noes : Int32} {d_fulls : Int32} {d_i_things : Int32} {d_i_gifts : Int32} {d_i_days : Int32} {d_i_size : Nat → Int32} {d_i_weight : Nat → Int32} {d_i_sound : Nat → Int32} {d_i_harm : Nat → Int32} {d_i_in_ : Nat → Int32} {d_i_kind : Nat → Int32} {d_i_owner : Nat → Int32} {d_i_empty : Nat → Int32} {d_i_room : Nat → Int32} {d_i_told : Nat → Int32} {d_i_gate : Nat → Int32} {d_i_ear : Nat → Int32} {d_i_scale : Nat → Int32} {d_i_lost : Nat → Int32} {d_i_watch : Nat → Int32} {d_i_moments : Int32} {d_i_kept : Nat → Int32} {d_j_things : Int32} {d_j_gifts : Int32} {d_j_days : Int32} {d_j_size : Nat → Int32} {d_j_weight : Nat → Int32} {d_j_sound : Nat → Int32} {d_j_harm : Nat → Int32} {d_j_in_ : Nat → Int32} {d_j_kind : Nat → Int32} {d_j_owner : Nat → Int32} {d_j_empty : Nat → Int32} {d_j_room : Nat → Int32} {d_j_told : Nat → Int32} {d_j_gate : Nat → Int32} {d_j_ear : Nat → Int32} {d_j_scale : Nat → Int32} {d_j_lost : Nat → Int32} {d_j_watch : Nat → Int32} {d_j_moments : Int32} {d_j_kept : Nat → Int32} (hf : f5_image kept0 kept1 bads noes fulls w_things w_gifts w_days w_size w_weight w_sound w_harm w_in_ w_kind w_owner w_empty w_room w_told w_gate w_ear w_scale w_lost w_watch w_moments w_kept i_things i_gifts i_days i_size i_weight i_sound i_harm i_in_ i_kind i_owner i_empty i_room i_told i_gate i_ear i_scale i_lost i_watch i_moments i_kept j_things j_gifts j_days j_size j_weight j_sound j_harm j_in_ j_kind j_owner j_empty j_room j_told j_gate j_ear j_scale j_lost j_watch j_moments j_kept a_i = some (r, d_kept0, d_kept1, d_bads, d_noes, d_fulls, d_i_things, d_i_gifts, d_i_days, d_i_size, d_i_weight, d_i_sound, d_i_harm, d_i_in_, d_i_kind, d_i_owner, d_i_empty, d_i_room, d_i_told, d_i_gate, d_i_ear, d_i_scale, d_i_lost, d_i_watch, d_i_moments, d_i_kept, d_j_things, d_j_gifts, d_j_days, d_j_size, d_j_weight, d_j_sound, d_j_harm, d_j_in_, d_j_kind, d_j_owner, d_j_empty, d_j_room, d_j_told, d_j_gate, d_j_ear, d_j_scale, d_j_lost, d_j_watch, d_j_moments, d_j_kept)) : Met l yX5_image wsX5_image rm5_image (zPm D cI cZ cB [.ref (q 0), .int a_i] sz (zcat [(cHG q (qw 0) (qt 0) (qi 0) (qj 0) (qb 0) (qx 0) kept0 kept1 fabove fbelow bads noes fulls), (cWar cI qw w_things w_gifts w_days w_size w_weight w_sound w_harm w_in_ w_kind w_owner w_empty w_room w_told w_gate w_ear w_scale w_lost w_watch w_moments w_kept), (cWar cI qi i_things i_gifts i_days i_size i_weight i_sound i_harm i_in_ i_kind i_owner i_empty i_room i_told i_gate i_ear i_scale i_lost i_watch i_moments i_kept), (cWar cI qj j_things j_gifts j_days j_size j_weight j_sound j_harm j_in_ j_kind j_owner j_empty j_room j_told j_gate j_ear j_scale j_lost j_watch j_moments j_kept)])) (zQm D (some (.int r)) (zcat [(cHG q (qw 0) (qt 0) (qi 0) (qj 0) (qb 0) (qx 0) d_kept0 d_kept1 fabove fbelow d_bads d_noes d_fulls), (cWar cI qw w_things w_gifts w_days w_size w_weight w_sound w_harm w_in_ w_kind w_owner w_empty w_room w_told w_gate w_ear w_scale w_lost w_watch w_moments w_kept), (cWar cI qi d_i_things d_i_gifts d_i_days d_i_size d_i_weight d_i_sound d_i_harm d_i_in_ d_i_kind d_i_owner d_i_empty d_i_room d_i_told d_i_gate d_i_ear d_i_scale d_i_lost d_i_watch d_i_moments d_i_kept), (cWar cI qj d_j_things d_j_gifts d_j_days d_j_size d_j_weight d_j_sound d_j_harm d_j_in_ d_j_kind d_j_owner d_j_empty d_j_room d_j_told d_j_gate d_j_ear d_j_scale d_j_lost d_j_watch d_j_moments d_j_kept)]) (va_A (zcat [(cHG q (qw 0) (qt 0) (qi 0) (qj 0) (qb 0) (qx 0) kept0 kept1 fabove fbelow bads noes fulls), (cWar cI qw w_things w_gifts w_days w_size w_weight w_sound w_harm w_in_ w_kind w_owner w_empty w_room w_told w_gate w_ear w_scale w_lost w_watch w_moments w_kept), (cWar cI qi i_things i_gifts i_days i_size i_weight i_sound i_harm i_in_ i_kind i_owner i_empty i_room i_told i_gate i_ear i_scale i_lost i_watch i_moments i_kept), (cWar cI qj j_things j_gifts j_days j_size j_weight j_sound j_harm j_in_ j_kind j_owner j_empty j_room j_told j_gate j_ear j_scale j_lost j_watch j_moments j_kept)]) sz)) 0 0 (va_A (zcat [(cHG q (qw 0) (qt 0) (qi 0) (qj 0) (qb 0) (qx 0) kept0 kept1 fabove fbelow bads noes fulls), (cWar cI qw w_things w_gifts w_days w_size w_weight w_sound w_harm w_in_ w_kind w_owner w_empty w_room w_told w_gate w_ear w_scale w_lost w_watch w_moments w_kept), (cWar cI qi i_things i_gifts i_days i_size i_weight i_sound i_harm i_in_ i_kind i_owner i_empty i_room i_told i_gate i_ear i_scale i_lost i_watch i_moments i_kept), (cWar cI qj j_things j_gifts j_days j_size j_weight j_sound j_harm j_in_ j_kind j_owner j_empty j_room j_told j_gate j_ear j_scale j_lost j_watch j_moments j_kept)]) sz) := by
  unfold f5_image at hf
  refine z_mutI RX5 (by decide +kernel) rfl rfl (Nat.le_of_ble_eq_true rfl) ?_
  intro p e s m args below meth c Q A ls hx hb hml hown hts hK hP hD hS hA hret hl
  have hl : lv_has ls 2 [(0, .ref (q 0)), (1, .int a_i)] := hl
  refine lv_iload_n hx hb (zD_g DX5_image 0 rfl) rfl (lv_at hl 1 rfl) ?_
  refine lv_if_ne (tgt := 22) hx hb (zD_g DX5_image 1 rfl) (by decide) (fun c1 => ?_) (fun c1 => ?_)
  · replace hf := z_f c1 hf
    refine lv_iload_n hx hb (zD_g DX5_image 12 rfl) rfl (lv_at hl 1 rfl) ?_
    refine lv_iconst (v := (1 : Int32)) hx hb (zD_g DX5_image 13 rfl) (by decide) ?_
    refine lv_icmp_ne (tgt := 45) hx hb (zD_g DX5_image 14 rfl) (by decide) (fun c2 => ?_) (fun c2 => ?_)
    · replace hf := z_f c2 hf
      refine lv_aload_n hx hb (zD_g DX5_image 25 rfl) rfl (lv_at hl 0 rfl) ?_
      refine lv_bipush (v := (-2 : Int32)) hx hb (zD_g DX5_image 26 rfl) (by decide) ?_
      obtain ⟨r3, bads_4, noes_5, fulls_6, hc7, hf⟩ := zb4_s hf
      refine z_VB (As := [.int (-2 : Int32)]) (rest := []) (cs' := [(cHG q (qw 0) (qt 0) (qi 0) (qj 0) (qb 0) (qx 0) kept0 kept1 fabove fbelow bads_4 noes_5 fulls_6)]) (ws' := (zcat [(cHG q (qw 0) (qt 0) (qi 0) (qj 0) (qb 0) (qx 0) kept0 kept1 fabove fbelow bads_4 noes_5 fulls_6), (cWar cI qw w_things w_gifts w_days w_size w_weight w_sound w_harm w_in_ w_kind w_owner w_empty w_room w_told w_gate w_ear w_scale w_lost w_watch w_moments w_kept), (cWar cI qi i_things i_gifts i_days i_size i_weight i_sound i_harm i_in_ i_kind i_owner i_empty i_room i_told i_gate i_ear i_scale i_lost i_watch i_moments i_kept), (cWar cI qj j_things j_gifts j_days j_size j_weight j_sound j_harm j_in_ j_kind j_owner j_empty j_room j_told j_gate j_ear j_scale j_lost j_watch j_moments j_kept)])) ⟨hx, hb, hml, hown, hts⟩ hK (c5_counted (kept0 := kept0) (kept1 := kept1) (fabove := fabove) (fbelow := fbelow) (bads := bads) (noes := noes) (fulls := fulls) (q := q) (qw := qw) (qt := qt) (qi := qi) (qj := qj) (qb := qb) (qx := qx) hc7) (cwV 1 hts gX5_image_X5_counted rfl rfl rfl hd5_counted ⟨Nat.le_of_ble_eq_true rfl, Nat.le_of_ble_eq_true rfl⟩) hP hD hS hA 4 [0] [1, 2, 3] [3, 0, 1, 2] (by decide +kernel) rfl rfl rfl rfl rfl rfl rfl rfl rfl hl.1 rfl rfl (Nat.le_of_ble_eq_true rfl) (zD_g DX5_image 27 rfl) ⟨Nat.zero_le _, Nat.zero_le _⟩ (fun H locs hP hD hS => ?_)
      cases hf
      exact hret _ _ _ _ hP hD hS (zD_g DX5_image 28 rfl)
    · replace hf := z_t c2 hf
      refine lv_aload_n hx hb (zD_g DX5_image 15 rfl) rfl (lv_at hl 0 rfl) ?_
      refine va_get (D := D) (ci := 4) (v := .ref (qj 0)) (C := RX5) (T := TX5) (N := 13) hx hb hts in5_image_5 hown hK.1 hP 0 rfl rfl 3 (by decide) (hts _ (List.mem_of_getElem? (i := 4) rfl)) (fun _ h9 => h9) rfl (zD_g DX5_image 16 rfl) ?_
      refine lv_aload_n hx hb (zD_g DX5_image 17 rfl) rfl (lv_at hl 0 rfl) ?_
      refine va_get (D := D) (ci := 4) (v := .ref (qw 0)) (C := RX5) (T := TX5) (N := 13) hx hb hts in5_image_5 hown hK.1 hP 0 rfl rfl 0 (by decide) (hts _ (List.mem_of_getElem? (i := 2) rfl)) (fun _ h9 => h9) rfl (zD_g DX5_image 18 rfl) ?_
      obtain ⟨j_things_8, j_gifts_9, j_days_10, j_size_11, j_weight_12, j_sound_13, j_harm_14, j_in_15, j_kind_16, j_owner_17, j_empty_18, j_room_19, j_told_20, j_gate_21, j_ear_22, j_scale_23, j_lost_24, j_watch_25, j_moments_26, j_kept_27, hc28, hf⟩ := zb20_s hf
      refine z_VB (As := [.ref (qw 0)]) (rest := []) (cs' := [(cWar cI qj j_things_8 j_gifts_9 j_days_10 j_size_11 j_weight_12 j_sound_13 j_harm_14 j_in_15 j_kind_16 j_owner_17 j_empty_18 j_room_19 j_told_20 j_gate_21 j_ear_22 j_scale_23 j_lost_24 j_watch_25 j_moments_26 j_kept_27), (cWar cI qw w_things w_gifts w_days w_size w_weight w_sound w_harm w_in_ w_kind w_owner w_empty w_room w_told w_gate w_ear w_scale w_lost w_watch w_moments w_kept)]) (ws' := (zcat [(cHG q (qw 0) (qt 0) (qi 0) (qj 0) (qb 0) (qx 0) kept0 kept1 fabove fbelow bads noes fulls), (cWar cI qw w_things w_gifts w_days w_size w_weight w_sound w_harm w_in_ w_kind w_owner w_empty w_room w_told w_gate w_ear w_scale w_lost w_watch w_moments w_kept), (cWar cI qi i_things i_gifts i_days i_size i_weight i_sound i_harm i_in_ i_kind i_owner i_empty i_room i_told i_gate i_ear i_scale i_lost i_watch i_moments i_kept), (cWar cI qj j_things_8 j_gifts_9 j_days_10 j_size_11 j_weight_12 j_sound_13 j_harm_14 j_in_15 j_kind_16 j_owner_17 j_empty_18 j_room_19 j_told_20 j_gate_21 j_ear_22 j_scale_23 j_lost_24 j_watch_25 j_moments_26 j_kept_27)])) ⟨hx, hb, hml, hown, hts⟩ hK (c4_copyFrom (things := j_things) (gifts := j_gifts) (days := j_days) (size := j_size) (weight := j_weight) (sound := j_sound) (harm := j_harm) (in_ := j_in_) (kind := j_kind) (owner := j_owner) (empty := j_empty) (room := j_room) (told := j_told) (gate := j_gate) (ear := j_ear) (scale := j_scale) (lost := j_lost) (watch := j_watch) (moments := j_moments) (kept := j_kept) (q := qj) (o_things := w_things) (o_gifts := w_gifts) (o_days := w_days) (o_size := w_size) (o_weight := w_weight) (o_sound := w_sound) (o_harm := w_harm) (o_in_ := w_in_) (o_kind := w_kind) (o_owner := w_owner) (o_empty := w_empty) (o_room := w_room) (o_told := w_told) (o_gate := w_gate) (o_ear := w_ear) (o_scale := w_scale) (o_lost := w_lost) (o_watch := w_watch) (o_moments := w_moments) (o_kept := w_kept) (q0 := qw) hc28) (cwV 1 hts gX5_image_X4_copyFrom rfl rfl rfl hd4_copyFrom ⟨Nat.le_of_ble_eq_true rfl, Nat.le_of_ble_eq_true rfl⟩) hP hD hS hA 4 [3, 1] [0, 2] [0, 3, 1, 2] (by decide +kernel) rfl rfl rfl rfl rfl rfl rfl rfl rfl hl.1 rfl rfl (Nat.le_of_ble_eq_true rfl) (zD_g DX5_image 19 rfl) ⟨Nat.zero_le _, Nat.zero_le _⟩ (fun H locs hP hD hS => ?_)
      refine lv_aload_n hx hb (zD_g DX5_image 20 rfl) rfl (lv_at hl 0 rfl) ?_
      refine lv_iconst (v := (1 : Int32)) hx hb (zD_g DX5_image 21 rfl) (by decide) ?_
      refine z_put (D := D) (ci := 4) (v := .int (1 : Int32)) (ty := .boolean) (C := RX5) (T := TX5) (N := 13) (ws' := (zcat [(cHG q (qw 0) (qt 0) (qi 0) (qj 0) (qb 0) (qx 0) kept0 (1 : Int32) fabove fbelow bads noes fulls), (cWar cI qw w_things w_gifts w_days w_size w_weight w_sound w_harm w_in_ w_kind w_owner w_empty w_room w_told w_gate w_ear w_scale w_lost w_watch w_moments w_kept), (cWar cI qi i_things i_gifts i_days i_size i_weight i_sound i_harm i_in_ i_kind i_owner i_empty i_room i_told i_gate i_ear i_scale i_lost i_watch i_moments i_kept), (cWar cI qj j_things_8 j_gifts_9 j_days_10 j_size_11 j_weight_12 j_sound_13 j_harm_14 j_in_15 j_kind_16 j_owner_17 j_empty_18 j_room_19 j_told_20 j_gate_21 j_ear_22 j_scale_23 j_lost_24 j_watch_25 j_moments_26 j_kept_27)])) hx hb hts in5_image_5 tyX5 tyX5_ok nmX5 hown hK.1 hP hD hS 0 rfl rfl 5 (by decide) (hts _ (List.mem_of_getElem? (i := 5) rfl)) (fun _ h9 => h9) rfl (tyX5_ok 5 (by decide)) rfl rfl (Nat.le_of_ble_eq_true rfl) rfl (zD_g DX5_image 22 rfl) (fun H locs hP hD hS => ?_)
      refine lv_iconst (v := (1 : Int32)) hx hb (zD_g DX5_image 23 rfl) (by decide) ?_
      cases hf
      exact hret _ _ _ _ hP hD hS (zD_g DX5_image 24 rfl)
  · replace hf := z_t c1 hf
    refine lv_aload_n hx hb (zD_g DX5_image 2 rfl) rfl (lv_at hl 0 rfl) ?_
    refine va_get (D := D) (ci := 4) (v := .ref (qi 0)) (C := RX5) (T := TX5) (N := 13) hx hb hts in5_image_5 hown hK.1 hP 0 rfl rfl 2 (by decide) (hts _ (List.mem_of_getElem? (i := 1) rfl)) (fun _ h9 => h9) rfl (zD_g DX5_image 3 rfl) ?_
    refine lv_aload_n hx hb (zD_g DX5_image 4 rfl) rfl (lv_at hl 0 rfl) ?_
    refine va_get (D := D) (ci := 4) (v := .ref (qw 0)) (C := RX5) (T := TX5) (N := 13) hx hb hts in5_image_5 hown hK.1 hP 0 rfl rfl 0 (by decide) (hts _ (List.mem_of_getElem? (i := 2) rfl)) (fun _ h9 => h9) rfl (zD_g DX5_image 5 rfl) ?_
    obtain ⟨i_things_29, i_gifts_30, i_days_31, i_size_32, i_weight_33, i_sound_34, i_harm_35, i_in_36, i_kind_37, i_owner_38, i_empty_39, i_room_40, i_told_41, i_gate_42, i_ear_43, i_scale_44, i_lost_45, i_watch_46, i_moments_47, i_kept_48, hc49, hf⟩ := zb20_s hf
    refine z_VB (As := [.ref (qw 0)]) (rest := []) (cs' := [(cWar cI qi i_things_29 i_gifts_30 i_days_31 i_size_32 i_weight_33 i_sound_34 i_harm_35 i_in_36 i_kind_37 i_owner_38 i_empty_39 i_room_40 i_told_41 i_gate_42 i_ear_43 i_scale_44 i_lost_45 i_watch_46 i_moments_47 i_kept_48), (cWar cI qw w_things w_gifts w_days w_size w_weight w_sound w_harm w_in_ w_kind w_owner w_empty w_room w_told w_gate w_ear w_scale w_lost w_watch w_moments w_kept)]) (ws' := (zcat [(cHG q (qw 0) (qt 0) (qi 0) (qj 0) (qb 0) (qx 0) kept0 kept1 fabove fbelow bads noes fulls), (cWar cI qw w_things w_gifts w_days w_size w_weight w_sound w_harm w_in_ w_kind w_owner w_empty w_room w_told w_gate w_ear w_scale w_lost w_watch w_moments w_kept), (cWar cI qi i_things_29 i_gifts_30 i_days_31 i_size_32 i_weight_33 i_sound_34 i_harm_35 i_in_36 i_kind_37 i_owner_38 i_empty_39 i_room_40 i_told_41 i_gate_42 i_ear_43 i_scale_44 i_lost_45 i_watch_46 i_moments_47 i_kept_48), (cWar cI qj j_things j_gifts j_days j_size j_weight j_sound j_harm j_in_ j_kind j_owner j_empty j_room j_told j_gate j_ear j_scale j_lost j_watch j_moments j_kept)])) ⟨hx, hb, hml, hown, hts⟩ hK (c4_copyFrom (things := i_things) (gifts := i_gifts) (days := i_days) (size := i_size) (weight := i_weight) (sound := i_sound) (harm := i_harm) (in_ := i_in_) (kind := i_kind) (owner := i_owner) (empty := i_empty) (room := i_room) (told := i_told) (gate := i_gate) (ear := i_ear) (scale := i_scale) (lost := i_lost) (watch := i_watch) (moments := i_moments) (kept := i_kept) (q := qi) (o_things := w_things) (o_gifts := w_gifts) (o_days := w_days) (o_size := w_size) (o_weight := w_weight) (o_sound := w_sound) (o_harm := w_harm) (o_in_ := w_in_) (o_kind := w_kind) (o_owner := w_owner) (o_empty := w_empty) (o_room := w_room) (o_told := w_told) (o_gate := w_gate) (o_ear := w_ear) (o_scale := w_scale) (o_lost := w_lost) (o_watch := w_watch) (o_moments := w_moments) (o_kept := w_kept) (q0 := qw) hc49) (cwV 1 hts gX5_image_X4_copyFrom rfl rfl rfl hd4_copyFrom ⟨Nat.le_of_ble_eq_true rfl, Nat.le_of_ble_eq_true rfl⟩) hP hD hS hA 4 [2, 1] [0, 3] [0, 3, 2, 1] (by decide +kernel) rfl rfl rfl rfl rfl rfl rfl rfl rfl hl.1 rfl rfl (Nat.le_of_ble_eq_true rfl) (zD_g DX5_image 6 rfl) ⟨Nat.zero_le _, Nat.zero_le _⟩ (fun H locs hP hD hS => ?_)
    refine lv_aload_n hx hb (zD_g DX5_image 7 rfl) rfl (lv_at hl 0 rfl) ?_
    refine lv_iconst (v := (1 : Int32)) hx hb (zD_g DX5_image 8 rfl) (by decide) ?_
    refine z_put (D := D) (ci := 4) (v := .int (1 : Int32)) (ty := .boolean) (C := RX5) (T := TX5) (N := 13) (ws' := (zcat [(cHG q (qw 0) (qt 0) (qi 0) (qj 0) (qb 0) (qx 0) (1 : Int32) kept1 fabove fbelow bads noes fulls), (cWar cI qw w_things w_gifts w_days w_size w_weight w_sound w_harm w_in_ w_kind w_owner w_empty w_room w_told w_gate w_ear w_scale w_lost w_watch w_moments w_kept), (cWar cI qi i_things_29 i_gifts_30 i_days_31 i_size_32 i_weight_33 i_sound_34 i_harm_35 i_in_36 i_kind_37 i_owner_38 i_empty_39 i_room_40 i_told_41 i_gate_42 i_ear_43 i_scale_44 i_lost_45 i_watch_46 i_moments_47 i_kept_48), (cWar cI qj j_things j_gifts j_days j_size j_weight j_sound j_harm j_in_ j_kind j_owner j_empty j_room j_told j_gate j_ear j_scale j_lost j_watch j_moments j_kept)])) hx hb hts in5_image_5 tyX5 tyX5_ok nmX5 hown hK.1 hP hD hS 0 rfl rfl 4 (by decide) (hts _ (List.mem_of_getElem? (i := 3) rfl)) (fun _ h9 => h9) rfl (tyX5_ok 4 (by decide)) rfl rfl (Nat.le_of_ble_eq_true rfl) rfl (zD_g DX5_image 9 rfl) (fun H locs hP hD hS => ?_)
    refine lv_iconst (v := (1 : Int32)) hx hb (zD_g DX5_image 10 rfl) (by decide) ?_
    cases hf
    exact hret _ _ _ _ hP hD hS (zD_g DX5_image 11 rfl)
abbrev dlX5_from : List (Nat × Instr × Nat) := [(0, .iload_n 1, 1), (1, .iconst 0, 1), (2, .iconst 1, 1), (3, .invokestatic 174, 3), (6, .ifCond .ne 10, 3), (9, .aload_n 0, 1), (10, .bipush (-2), 2), (12, .invokevirtual 67, 3), (15, .ireturn, 1), (16, .iload_n 1, 1), (17, .ifCond .ne 13, 3), (20, .aload_n 0, 1), (21, .getfield 25, 3), (24, .ifCond .ne 20, 3), (27, .goto 10, 3), (30, .aload_n 0, 1), (31, .getfield 29, 3), (34, .ifCond .ne 10, 3), (37, .aload_n 0, 1), (38, .bipush (-3), 2), (40, .invokevirtual 67, 3), (43, .ireturn, 1), (44, .aload_n 0, 1), (45, .getfield 10, 3), (48, .iload_n 1, 1), (49, .ifCond .ne 10, 3), (52, .aload_n 0, 1), (53, .getfield 19, 3), (56, .goto 7, 3), (59, .aload_n 0, 1), (60, .getfield 22, 3), (63, .invokevirtual 110, 3), (66, .iconst 1, 1), (67, .ireturn, 1)]
theorem DX5_from : zD cX5_from dlX5_from = true := by decide +kernel
set_option maxRecDepth 20000 in
theorem ggX5_from_X5_within : GoodIn wsX5_from wsX5_within := goodIn_r _ [9] (by decide +kernel) (by decide +kernel)
set_option maxRecDepth 20000 in
theorem gX5_from_X5_within : GoodIn wsX5_from (va_wsS RX5 174 yX5_within wsX5_within) := goodIn_app (goodIn_of _ (by decide +kernel)) ggX5_from_X5_within
set_option maxRecDepth 20000 in
theorem ggX5_from_X5_counted : GoodIn wsX5_from wsX5_counted := goodIn_r _ [13, 14, 15, 16, 53, 54, 55, 56, 57, 58, 59, 60, 61, 62, 63, 64, 65] (by decide +kernel) (by decide +kernel)
set_option maxRecDepth 20000 in
theorem gX5_from_X5_counted : GoodIn wsX5_from (wsV RX5 67 RX5 yX5_counted wsX5_counted) := goodIn_app (goodIn_of _ (by decide +kernel)) ggX5_from_X5_counted
set_option maxRecDepth 20000 in
theorem ggX5_from_X4_copyFrom : GoodIn wsX5_from wsX4_copyFrom := goodIn_r _ [21, 22, 23, 24, 25, 26, 27, 28, 29, 30, 31, 32, 33, 34, 35, 36, 37, 38, 39, 40, 41, 42, 43, 8, 44, 45, 46, 47, 48, 49, 50, 51, 52, 66, 67, 68, 69, 70, 71, 72, 73, 74, 75, 76, 77, 78, 79, 80, 81, 82, 83, 84, 85, 86] (by decide +kernel) (by decide +kernel)
set_option maxRecDepth 20000 in
theorem gX5_from_X4_copyFrom : GoodIn wsX5_from (wsV RX5 110 RX4 yX4_copyFrom wsX4_copyFrom) := goodIn_app (goodIn_of _ (by decide +kernel)) ggX5_from_X4_copyFrom
theorem hd5_from : yX5_from.cls = RX5 ∧ yX5_from.cls ≠ "java/lang/invoke/MethodHandle" ∧ yX5_from.cls ≠ "java/lang/invoke/VarHandle" ∧ (parseMethodDescriptor yX5_from.desc).map (fun d => d.parameters.length) = some 1 := by decide +kernel
abbrev rm5_from : Room := { frames := 3, cells := 0, slots := 0, locals := 102 }
theorem in5_from_5 : ∀ w ∈ wsX50, w ∈ wsX5_from := fun w h => List.mem_cons_of_mem _ (List.mem_append_left _ (List.mem_append_left _ (List.mem_append_right _ h)))
set_option maxHeartbeats 4000000 in
set_option maxRecDepth 100000 in
theorem c5_from {l : Launch} {D : va_G} {cI cZ cB : ClassId} {q : Nat → Nat} {qw : Nat → Nat} {qi : Nat → Nat} {qj : Nat → Nat} {qt : Nat → Nat} {qb : Nat → Nat} {qx : Nat → Nat} {sz : Nat} {kept0 : Int32} {kept1 : Int32} {fabove : Int64} {fbelow : Int64} {bads : Int32} {noes : Int32} {fulls : Int32} {w_things : Int32} {w_gifts : Int32} {w_days : Int32} {w_size : Nat → Int32} {w_weight : Nat → Int32} {w_sound : Nat → Int32} {w_harm : Nat → Int32} {w_in_ : Nat → Int32} {w_kind : Nat → Int32} {w_owner : Nat → Int32} {w_empty : Nat → Int32} {w_room : Nat → Int32} {w_told : Nat → Int32} {w_gate : Nat → Int32} {w_ear : Nat → Int32} {w_scale : Nat → Int32} {w_lost : Nat → Int32} {w_watch : Nat → Int32} {w_moments : Int32} {w_kept : Nat → Int32} {i_things : Int32} {i_gifts : Int32} {i_days : Int32} {i_size : Nat → Int32} {i_weight : Nat → Int32} {i_sound : Nat → Int32} {i_harm : Nat → Int32} {i_in_ : Nat → Int32} {i_kind : Nat → Int32} {i_owner : Nat → Int32} {i_empty : Nat → Int32} {i_room : Nat → Int32} {i_told : Nat → Int32} {i_gate : Nat → Int32} {i_ear : Nat → Int32} {i_scale : Nat → Int32} {i_lost : Nat → Int32} {i_watch : Nat → Int32} {i_moments : Int32} {i_kept : Nat → Int32} {j_things : Int32} {j_gifts : Int32} {j_days : Int32} {j_size : Nat → Int32} {j_weight : Nat → Int32} {j_sound : Nat → Int32} {j_harm : Nat → Int32} {j_in_ : Nat → Int32} {j_kind : Nat → Int32} {j_owner : Nat → Int32} {j_empty : Nat → Int32} {j_room : Nat → Int32} {j_told : Nat → Int32} {j_gate : Nat → Int32} {j_ear : Nat → Int32} {j_scale : Nat → Int32} {j_lost : Nat → Int32} {j_watch : Nat → Int32} {j_moments : Int32} {j_kept : Nat → Int32} {a_i : Int32} {r : Int32} {d_bads : Int32} {d_noes : Int32} {d_fulls : Int32} {d_w_things : Int32} {d_w_gifts : Int32} {d_w_days : Int32} {d_w_size : Nat → Int32} {d_w_weight : Nat → Int32} {d_w_sound : Nat → Int32} {d_w_harm : Nat → Int32} {d_w_in_ : Nat → Int32} {d_w_kind : Nat → Int32} {d_w_owner : Nat → Int32} {d_w_empty : Nat → Int32} {d_w_room : Nat → Int32} {d_w_told : Nat → Int32} {d_w_gate : Nat → Int32} {d_w_ear : Nat → Int32} {d_w_scale : Nat → Int32} {d_w_lost : Nat → Int32} {d_w_watch : Nat → Int32} {d_w_moments : Int32} {d_w_kept : Nat → Int32} (hf : f5_from kept0 kept1 bads noes fulls w_things w_gifts w_days w_size w_weight w_sound w_harm w_in_ w_kind w_owner w_empty w_room w_told w_gate w_ear w_scale w_lost w_watch w_moments w_kept i_things i_gifts i_days i_size i_weight i_sound i_harm i_in_ i_kind i_owner i_empty i_room i_told i_gate i_ear i_scale i_lost i_watch i_moments i_kept j_things j_gifts j_days j_size j_weight j_sound j_harm j_in_ j_kind j_owner j_empty j_room j_told j_gate j_ear j_scale j_lost j_watch j_moments j_kept a_i = some (r, d_bads, d_noes, d_fulls, d_w_things, d_w_gifts, d_w_days, d_w_size, d_w_weight, d_w_sound, d_w_harm, d_w_in_, d_w_kind, d_w_owner, d_w_empty, d_w_room, d_w_told, d_w_gate, d_w_ear, d_w_scale, d_w_lost, d_w_watch, d_w_moments, d_w_kept)) : Met l yX5_from wsX5_from rm5_from (zPm D cI cZ cB [.ref (q 0), .int a_i] sz (zcat [(cHG q (qw 0) (qt 0) (qi 0) (qj 0) (qb 0) (qx 0) kept0 kept1 fabove fbelow bads noes fulls), (cWar cI qw w_things w_gifts w_days w_size w_weight w_sound w_harm w_in_ w_kind w_owner w_empty w_room w_told w_gate w_ear w_scale w_lost w_watch w_moments w_kept), (cWar cI qi i_things i_gifts i_days i_size i_weight i_sound i_harm i_in_ i_kind i_owner i_empty i_room i_told i_gate i_ear i_scale i_lost i_watch i_moments i_kept), (cWar cI qj j_things j_gifts j_days j_size j_weight j_sound j_harm j_in_ j_kind j_owner j_empty j_room j_told j_gate j_ear j_scale j_lost j_watch j_moments j_kept)])) (zQm D (some (.int r)) (zcat [(cHG q (qw 0) (qt 0) (qi 0) (qj 0) (qb 0) (qx 0) kept0 kept1 fabove fbelow d_bads d_noes d_fulls), (cWar cI qw d_w_things d_w_gifts d_w_days d_w_size d_w_weight d_w_sound d_w_harm d_w_in_ d_w_kind d_w_owner d_w_empty d_w_room d_w_told d_w_gate d_w_ear d_w_scale d_w_lost d_w_watch d_w_moments d_w_kept), (cWar cI qi i_things i_gifts i_days i_size i_weight i_sound i_harm i_in_ i_kind i_owner i_empty i_room i_told i_gate i_ear i_scale i_lost i_watch i_moments i_kept), (cWar cI qj j_things j_gifts j_days j_size j_weight j_sound j_harm j_in_ j_kind j_owner j_empty j_room j_told j_gate j_ear j_scale j_lost j_watch j_moments j_kept)]) (va_A (zcat [(cHG q (qw 0) (qt 0) (qi 0) (qj 0) (qb 0) (qx 0) kept0 kept1 fabove fbelow bads noes fulls), (cWar cI qw w_things w_gifts w_days w_size w_weight w_sound w_harm w_in_ w_kind w_owner w_empty w_room w_told w_gate w_ear w_scale w_lost w_watch w_moments w_kept), (cWar cI qi i_things i_gifts i_days i_size i_weight i_sound i_harm i_in_ i_kind i_owner i_empty i_room i_told i_gate i_ear i_scale i_lost i_watch i_moments i_kept), (cWar cI qj j_things j_gifts j_days j_size j_weight j_sound j_harm j_in_ j_kind j_owner j_empty j_room j_told j_gate j_ear j_scale j_lost j_watch j_moments j_kept)]) sz)) 0 0 (va_A (zcat [(cHG q (qw 0) (qt 0) (qi 0) (qj 0) (qb 0) (qx 0) kept0 kept1 fabove fbelow bads noes fulls), (cWar cI qw w_things w_gifts w_days w_size w_weight w_sound w_harm w_in_ w_kind w_owner w_empty w_room w_told w_gate w_ear w_scale w_lost w_watch w_moments w_kept), (cWar cI qi i_things i_gifts i_days i_size i_weight i_sound i_harm i_in_ i_kind i_owner i_empty i_room i_told i_gate i_ear i_scale i_lost i_watch i_moments i_kept), (cWar cI qj j_things j_gifts j_days j_size j_weight j_sound j_harm j_in_ j_kind j_owner j_empty j_room j_told j_gate j_ear j_scale j_lost j_watch j_moments j_kept)]) sz) := by
  unfold f5_from at hf
  refine z_mutI RX5 (by decide +kernel) rfl rfl (Nat.le_of_ble_eq_true rfl) ?_
  intro p e s m args below meth c Q A ls hx hb hml hown hts hK hP hD hS hA hret hl
  have hl : lv_has ls 2 [(0, .ref (q 0)), (1, .int a_i)] := hl
  refine lv_iload_n hx hb (zD_g DX5_from 0 rfl) rfl (lv_at hl 1 rfl) ?_
  refine lv_iconst (v := (0 : Int32)) hx hb (zD_g DX5_from 1 rfl) (by decide) ?_
  refine lv_iconst (v := (1 : Int32)) hx hb (zD_g DX5_from 2 rfl) (by decide) ?_
  obtain ⟨r1, hc2, hf⟩ := zb1_s hf
  refine z_Sp (As := [.int a_i, .int (0 : Int32), .int (1 : Int32)]) (rest := []) ⟨hx, hb, hml, hown, hts⟩ hK (c5_within  hc2) (va_cwS 3 hts gX5_from_X5_within rfl rfl rfl hd5_within ⟨Nat.le_of_ble_eq_true rfl, Nat.le_of_ble_eq_true rfl⟩) (hP.sub [] rfl) rfl hl.1 rfl rfl (Nat.le_of_ble_eq_true rfl) (zD_g DX5_from 3 rfl) ⟨Nat.zero_le _, Nat.zero_le _⟩ ?_
  refine lv_if_ne (tgt := 16) hx hb (zD_g DX5_from 4 rfl) (by decide) (fun c3 => ?_) (fun c3 => ?_)
  · replace hf := z_f c3 hf
    refine lv_iload_n hx hb (zD_g DX5_from 9 rfl) rfl (lv_at hl 1 rfl) ?_
    refine lv_if_ne (tgt := 30) hx hb (zD_g DX5_from 10 rfl) (by decide) (fun c4 => ?_) (fun c4 => ?_)
    · replace hf := z_f c4 hf
      refine lv_aload_n hx hb (zD_g DX5_from 15 rfl) rfl (lv_at hl 0 rfl) ?_
      refine va_get (D := D) (ci := 4) (v := .int kept1) (C := RX5) (T := TX5) (N := 13) hx hb hts in5_from_5 hown hK.1 hP 0 rfl rfl 5 (by decide) (hts _ (List.mem_of_getElem? (i := 2) rfl)) (fun _ h9 => h9) rfl (zD_g DX5_from 16 rfl) ?_
      refine lv_if_ne (tgt := 44) hx hb (zD_g DX5_from 17 rfl) (by decide) (fun c5 => ?_) (fun c5 => ?_)
      · replace hf := z_f c5 hf
        refine lv_aload_n hx hb (zD_g DX5_from 22 rfl) rfl (lv_at hl 0 rfl) ?_
        refine va_get (D := D) (ci := 4) (v := .ref (qw 0)) (C := RX5) (T := TX5) (N := 13) hx hb hts in5_from_5 hown hK.1 hP 0 rfl rfl 0 (by decide) (hts _ (List.mem_of_getElem? (i := 3) rfl)) (fun _ h9 => h9) rfl (zD_g DX5_from 23 rfl) ?_
        refine lv_iload_n hx hb (zD_g DX5_from 24 rfl) rfl (lv_at hl 1 rfl) ?_
        refine lv_if_ne (tgt := 59) hx hb (zD_g DX5_from 25 rfl) (by decide) (fun c6 => ?_) (fun c6 => ?_)
        · replace hf := z_f c6 hf
          refine lv_aload_n hx hb (zD_g DX5_from 29 rfl) rfl (lv_at hl 0 rfl) ?_
          refine va_get (D := D) (ci := 4) (v := .ref (qj 0)) (C := RX5) (T := TX5) (N := 13) hx hb hts in5_from_5 hown hK.1 hP 0 rfl rfl 3 (by decide) (hts _ (List.mem_of_getElem? (i := 5) rfl)) (fun _ h9 => h9) rfl (zD_g DX5_from 30 rfl) ?_
          obtain ⟨w_things_7, w_gifts_8, w_days_9, w_size_10, w_weight_11, w_sound_12, w_harm_13, w_in_14, w_kind_15, w_owner_16, w_empty_17, w_room_18, w_told_19, w_gate_20, w_ear_21, w_scale_22, w_lost_23, w_watch_24, w_moments_25, w_kept_26, hc27, hf⟩ := zb20_s hf
          refine z_VB (As := [.ref (qj 0)]) (rest := []) (cs' := [(cWar cI qw w_things_7 w_gifts_8 w_days_9 w_size_10 w_weight_11 w_sound_12 w_harm_13 w_in_14 w_kind_15 w_owner_16 w_empty_17 w_room_18 w_told_19 w_gate_20 w_ear_21 w_scale_22 w_lost_23 w_watch_24 w_moments_25 w_kept_26), (cWar cI qj j_things j_gifts j_days j_size j_weight j_sound j_harm j_in_ j_kind j_owner j_empty j_room j_told j_gate j_ear j_scale j_lost j_watch j_moments j_kept)]) (ws' := (zcat [(cHG q (qw 0) (qt 0) (qi 0) (qj 0) (qb 0) (qx 0) kept0 kept1 fabove fbelow bads noes fulls), (cWar cI qw w_things_7 w_gifts_8 w_days_9 w_size_10 w_weight_11 w_sound_12 w_harm_13 w_in_14 w_kind_15 w_owner_16 w_empty_17 w_room_18 w_told_19 w_gate_20 w_ear_21 w_scale_22 w_lost_23 w_watch_24 w_moments_25 w_kept_26), (cWar cI qi i_things i_gifts i_days i_size i_weight i_sound i_harm i_in_ i_kind i_owner i_empty i_room i_told i_gate i_ear i_scale i_lost i_watch i_moments i_kept), (cWar cI qj j_things j_gifts j_days j_size j_weight j_sound j_harm j_in_ j_kind j_owner j_empty j_room j_told j_gate j_ear j_scale j_lost j_watch j_moments j_kept)])) ⟨hx, hb, hml, hown, hts⟩ hK (c4_copyFrom (things := w_things) (gifts := w_gifts) (days := w_days) (size := w_size) (weight := w_weight) (sound := w_sound) (harm := w_harm) (in_ := w_in_) (kind := w_kind) (owner := w_owner) (empty := w_empty) (room := w_room) (told := w_told) (gate := w_gate) (ear := w_ear) (scale := w_scale) (lost := w_lost) (watch := w_watch) (moments := w_moments) (kept := w_kept) (q := qw) (o_things := j_things) (o_gifts := j_gifts) (o_days := j_days) (o_size := j_size) (o_weight := j_weight) (o_sound := j_sound) (o_harm := j_harm) (o_in_ := j_in_) (o_kind := j_kind) (o_owner := j_owner) (o_empty := j_empty) (o_room := j_room) (o_told := j_told) (o_gate := j_gate) (o_ear := j_ear) (o_scale := j_scale) (o_lost := j_lost) (o_watch := j_watch) (o_moments := j_moments) (o_kept := j_kept) (q0 := qj) hc27) (cwV 1 hts gX5_from_X4_copyFrom rfl rfl rfl hd4_copyFrom ⟨Nat.le_of_ble_eq_true rfl, Nat.le_of_ble_eq_true rfl⟩) hP hD hS hA 4 [1, 3] [0, 2] [0, 2, 1, 3] (by decide +kernel) rfl rfl rfl rfl rfl rfl rfl rfl rfl hl.1 rfl rfl (Nat.le_of_ble_eq_true rfl) (zD_g DX5_from 31 rfl) ⟨Nat.zero_le _, Nat.zero_le _⟩ (fun H locs hP hD hS => ?_)
          refine lv_iconst (v := (1 : Int32)) hx hb (zD_g DX5_from 32 rfl) (by decide) ?_
          cases hf
          exact hret _ _ _ _ hP hD hS (zD_g DX5_from 33 rfl)
        · replace hf := z_t c6 hf
          refine lv_aload_n hx hb (zD_g DX5_from 26 rfl) rfl (lv_at hl 0 rfl) ?_
          refine va_get (D := D) (ci := 4) (v := .ref (qi 0)) (C := RX5) (T := TX5) (N := 13) hx hb hts in5_from_5 hown hK.1 hP 0 rfl rfl 2 (by decide) (hts _ (List.mem_of_getElem? (i := 4) rfl)) (fun _ h9 => h9) rfl (zD_g DX5_from 27 rfl) ?_
          refine lv_goto (tgt := 63) hx hb (zD_g DX5_from 28 rfl) (by decide) ?_
          obtain ⟨w_things_28, w_gifts_29, w_days_30, w_size_31, w_weight_32, w_sound_33, w_harm_34, w_in_35, w_kind_36, w_owner_37, w_empty_38, w_room_39, w_told_40, w_gate_41, w_ear_42, w_scale_43, w_lost_44, w_watch_45, w_moments_46, w_kept_47, hc48, hf⟩ := zb20_s hf
          refine z_VB (As := [.ref (qi 0)]) (rest := []) (cs' := [(cWar cI qw w_things_28 w_gifts_29 w_days_30 w_size_31 w_weight_32 w_sound_33 w_harm_34 w_in_35 w_kind_36 w_owner_37 w_empty_38 w_room_39 w_told_40 w_gate_41 w_ear_42 w_scale_43 w_lost_44 w_watch_45 w_moments_46 w_kept_47), (cWar cI qi i_things i_gifts i_days i_size i_weight i_sound i_harm i_in_ i_kind i_owner i_empty i_room i_told i_gate i_ear i_scale i_lost i_watch i_moments i_kept)]) (ws' := (zcat [(cHG q (qw 0) (qt 0) (qi 0) (qj 0) (qb 0) (qx 0) kept0 kept1 fabove fbelow bads noes fulls), (cWar cI qw w_things_28 w_gifts_29 w_days_30 w_size_31 w_weight_32 w_sound_33 w_harm_34 w_in_35 w_kind_36 w_owner_37 w_empty_38 w_room_39 w_told_40 w_gate_41 w_ear_42 w_scale_43 w_lost_44 w_watch_45 w_moments_46 w_kept_47), (cWar cI qi i_things i_gifts i_days i_size i_weight i_sound i_harm i_in_ i_kind i_owner i_empty i_room i_told i_gate i_ear i_scale i_lost i_watch i_moments i_kept), (cWar cI qj j_things j_gifts j_days j_size j_weight j_sound j_harm j_in_ j_kind j_owner j_empty j_room j_told j_gate j_ear j_scale j_lost j_watch j_moments j_kept)])) ⟨hx, hb, hml, hown, hts⟩ hK (c4_copyFrom (things := w_things) (gifts := w_gifts) (days := w_days) (size := w_size) (weight := w_weight) (sound := w_sound) (harm := w_harm) (in_ := w_in_) (kind := w_kind) (owner := w_owner) (empty := w_empty) (room := w_room) (told := w_told) (gate := w_gate) (ear := w_ear) (scale := w_scale) (lost := w_lost) (watch := w_watch) (moments := w_moments) (kept := w_kept) (q := qw) (o_things := i_things) (o_gifts := i_gifts) (o_days := i_days) (o_size := i_size) (o_weight := i_weight) (o_sound := i_sound) (o_harm := i_harm) (o_in_ := i_in_) (o_kind := i_kind) (o_owner := i_owner) (o_empty := i_empty) (o_room := i_room) (o_told := i_told) (o_gate := i_gate) (o_ear := i_ear) (o_scale := i_scale) (o_lost := i_lost) (o_watch := i_watch) (o_moments := i_moments) (o_kept := i_kept) (q0 := qi) hc48) (cwV 1 hts gX5_from_X4_copyFrom rfl rfl rfl hd4_copyFrom ⟨Nat.le_of_ble_eq_true rfl, Nat.le_of_ble_eq_true rfl⟩) hP hD hS hA 4 [1, 2] [0, 3] [0, 2, 3, 1] (by decide +kernel) rfl rfl rfl rfl rfl rfl rfl rfl rfl hl.1 rfl rfl (Nat.le_of_ble_eq_true rfl) (zD_g DX5_from 31 rfl) ⟨Nat.zero_le _, Nat.zero_le _⟩ (fun H locs hP hD hS => ?_)
          refine lv_iconst (v := (1 : Int32)) hx hb (zD_g DX5_from 32 rfl) (by decide) ?_
          cases hf
          exact hret _ _ _ _ hP hD hS (zD_g DX5_from 33 rfl)
      · replace hf := z_t c5 hf
        refine lv_aload_n hx hb (zD_g DX5_from 18 rfl) rfl (lv_at hl 0 rfl) ?_
        refine lv_bipush (v := (-3 : Int32)) hx hb (zD_g DX5_from 19 rfl) (by decide) ?_
        obtain ⟨r49, bads_50, noes_51, fulls_52, hc53, hf⟩ := zb4_s hf
        refine z_VB (As := [.int (-3 : Int32)]) (rest := []) (cs' := [(cHG q (qw 0) (qt 0) (qi 0) (qj 0) (qb 0) (qx 0) kept0 kept1 fabove fbelow bads_50 noes_51 fulls_52)]) (ws' := (zcat [(cHG q (qw 0) (qt 0) (qi 0) (qj 0) (qb 0) (qx 0) kept0 kept1 fabove fbelow bads_50 noes_51 fulls_52), (cWar cI qw w_things w_gifts w_days w_size w_weight w_sound w_harm w_in_ w_kind w_owner w_empty w_room w_told w_gate w_ear w_scale w_lost w_watch w_moments w_kept), (cWar cI qi i_things i_gifts i_days i_size i_weight i_sound i_harm i_in_ i_kind i_owner i_empty i_room i_told i_gate i_ear i_scale i_lost i_watch i_moments i_kept), (cWar cI qj j_things j_gifts j_days j_size j_weight j_sound j_harm j_in_ j_kind j_owner j_empty j_room j_told j_gate j_ear j_scale j_lost j_watch j_moments j_kept)])) ⟨hx, hb, hml, hown, hts⟩ hK (c5_counted (kept0 := kept0) (kept1 := kept1) (fabove := fabove) (fbelow := fbelow) (bads := bads) (noes := noes) (fulls := fulls) (q := q) (qw := qw) (qt := qt) (qi := qi) (qj := qj) (qb := qb) (qx := qx) hc53) (cwV 1 hts gX5_from_X5_counted rfl rfl rfl hd5_counted ⟨Nat.le_of_ble_eq_true rfl, Nat.le_of_ble_eq_true rfl⟩) hP hD hS hA 4 [0] [1, 2, 3] [3, 0, 1, 2] (by decide +kernel) rfl rfl rfl rfl rfl rfl rfl rfl rfl hl.1 rfl rfl (Nat.le_of_ble_eq_true rfl) (zD_g DX5_from 20 rfl) ⟨Nat.zero_le _, Nat.zero_le _⟩ (fun H locs hP hD hS => ?_)
        cases hf
        exact hret _ _ _ _ hP hD hS (zD_g DX5_from 21 rfl)
    · replace hf := z_t c4 hf
      refine lv_aload_n hx hb (zD_g DX5_from 11 rfl) rfl (lv_at hl 0 rfl) ?_
      refine va_get (D := D) (ci := 4) (v := .int kept0) (C := RX5) (T := TX5) (N := 13) hx hb hts in5_from_5 hown hK.1 hP 0 rfl rfl 4 (by decide) (hts _ (List.mem_of_getElem? (i := 1) rfl)) (fun _ h9 => h9) rfl (zD_g DX5_from 12 rfl) ?_
      refine lv_if_ne (tgt := 44) hx hb (zD_g DX5_from 13 rfl) (by decide) (fun c54 => ?_) (fun c54 => ?_)
      · replace hf := z_f c54 hf
        refine lv_aload_n hx hb (zD_g DX5_from 22 rfl) rfl (lv_at hl 0 rfl) ?_
        refine va_get (D := D) (ci := 4) (v := .ref (qw 0)) (C := RX5) (T := TX5) (N := 13) hx hb hts in5_from_5 hown hK.1 hP 0 rfl rfl 0 (by decide) (hts _ (List.mem_of_getElem? (i := 3) rfl)) (fun _ h9 => h9) rfl (zD_g DX5_from 23 rfl) ?_
        refine lv_iload_n hx hb (zD_g DX5_from 24 rfl) rfl (lv_at hl 1 rfl) ?_
        refine lv_if_ne (tgt := 59) hx hb (zD_g DX5_from 25 rfl) (by decide) (fun c55 => ?_) (fun c55 => ?_)
        · replace hf := z_f c55 hf
          refine lv_aload_n hx hb (zD_g DX5_from 29 rfl) rfl (lv_at hl 0 rfl) ?_
          refine va_get (D := D) (ci := 4) (v := .ref (qj 0)) (C := RX5) (T := TX5) (N := 13) hx hb hts in5_from_5 hown hK.1 hP 0 rfl rfl 3 (by decide) (hts _ (List.mem_of_getElem? (i := 5) rfl)) (fun _ h9 => h9) rfl (zD_g DX5_from 30 rfl) ?_
          obtain ⟨w_things_56, w_gifts_57, w_days_58, w_size_59, w_weight_60, w_sound_61, w_harm_62, w_in_63, w_kind_64, w_owner_65, w_empty_66, w_room_67, w_told_68, w_gate_69, w_ear_70, w_scale_71, w_lost_72, w_watch_73, w_moments_74, w_kept_75, hc76, hf⟩ := zb20_s hf
          refine z_VB (As := [.ref (qj 0)]) (rest := []) (cs' := [(cWar cI qw w_things_56 w_gifts_57 w_days_58 w_size_59 w_weight_60 w_sound_61 w_harm_62 w_in_63 w_kind_64 w_owner_65 w_empty_66 w_room_67 w_told_68 w_gate_69 w_ear_70 w_scale_71 w_lost_72 w_watch_73 w_moments_74 w_kept_75), (cWar cI qj j_things j_gifts j_days j_size j_weight j_sound j_harm j_in_ j_kind j_owner j_empty j_room j_told j_gate j_ear j_scale j_lost j_watch j_moments j_kept)]) (ws' := (zcat [(cHG q (qw 0) (qt 0) (qi 0) (qj 0) (qb 0) (qx 0) kept0 kept1 fabove fbelow bads noes fulls), (cWar cI qw w_things_56 w_gifts_57 w_days_58 w_size_59 w_weight_60 w_sound_61 w_harm_62 w_in_63 w_kind_64 w_owner_65 w_empty_66 w_room_67 w_told_68 w_gate_69 w_ear_70 w_scale_71 w_lost_72 w_watch_73 w_moments_74 w_kept_75), (cWar cI qi i_things i_gifts i_days i_size i_weight i_sound i_harm i_in_ i_kind i_owner i_empty i_room i_told i_gate i_ear i_scale i_lost i_watch i_moments i_kept), (cWar cI qj j_things j_gifts j_days j_size j_weight j_sound j_harm j_in_ j_kind j_owner j_empty j_room j_told j_gate j_ear j_scale j_lost j_watch j_moments j_kept)])) ⟨hx, hb, hml, hown, hts⟩ hK (c4_copyFrom (things := w_things) (gifts := w_gifts) (days := w_days) (size := w_size) (weight := w_weight) (sound := w_sound) (harm := w_harm) (in_ := w_in_) (kind := w_kind) (owner := w_owner) (empty := w_empty) (room := w_room) (told := w_told) (gate := w_gate) (ear := w_ear) (scale := w_scale) (lost := w_lost) (watch := w_watch) (moments := w_moments) (kept := w_kept) (q := qw) (o_things := j_things) (o_gifts := j_gifts) (o_days := j_days) (o_size := j_size) (o_weight := j_weight) (o_sound := j_sound) (o_harm := j_harm) (o_in_ := j_in_) (o_kind := j_kind) (o_owner := j_owner) (o_empty := j_empty) (o_room := j_room) (o_told := j_told) (o_gate := j_gate) (o_ear := j_ear) (o_scale := j_scale) (o_lost := j_lost) (o_watch := j_watch) (o_moments := j_moments) (o_kept := j_kept) (q0 := qj) hc76) (cwV 1 hts gX5_from_X4_copyFrom rfl rfl rfl hd4_copyFrom ⟨Nat.le_of_ble_eq_true rfl, Nat.le_of_ble_eq_true rfl⟩) hP hD hS hA 4 [1, 3] [0, 2] [0, 2, 1, 3] (by decide +kernel) rfl rfl rfl rfl rfl rfl rfl rfl rfl hl.1 rfl rfl (Nat.le_of_ble_eq_true rfl) (zD_g DX5_from 31 rfl) ⟨Nat.zero_le _, Nat.zero_le _⟩ (fun H locs hP hD hS => ?_)
          refine lv_iconst (v := (1 : Int32)) hx hb (zD_g DX5_from 32 rfl) (by decide) ?_
          cases hf
          exact hret _ _ _ _ hP hD hS (zD_g DX5_from 33 rfl)
        · replace hf := z_t c55 hf
          refine lv_aload_n hx hb (zD_g DX5_from 26 rfl) rfl (lv_at hl 0 rfl) ?_
          refine va_get (D := D) (ci := 4) (v := .ref (qi 0)) (C := RX5) (T := TX5) (N := 13) hx hb hts in5_from_5 hown hK.1 hP 0 rfl rfl 2 (by decide) (hts _ (List.mem_of_getElem? (i := 4) rfl)) (fun _ h9 => h9) rfl (zD_g DX5_from 27 rfl) ?_
          refine lv_goto (tgt := 63) hx hb (zD_g DX5_from 28 rfl) (by decide) ?_
          obtain ⟨w_things_77, w_gifts_78, w_days_79, w_size_80, w_weight_81, w_sound_82, w_harm_83, w_in_84, w_kind_85, w_owner_86, w_empty_87, w_room_88, w_told_89, w_gate_90, w_ear_91, w_scale_92, w_lost_93, w_watch_94, w_moments_95, w_kept_96, hc97, hf⟩ := zb20_s hf
          refine z_VB (As := [.ref (qi 0)]) (rest := []) (cs' := [(cWar cI qw w_things_77 w_gifts_78 w_days_79 w_size_80 w_weight_81 w_sound_82 w_harm_83 w_in_84 w_kind_85 w_owner_86 w_empty_87 w_room_88 w_told_89 w_gate_90 w_ear_91 w_scale_92 w_lost_93 w_watch_94 w_moments_95 w_kept_96), (cWar cI qi i_things i_gifts i_days i_size i_weight i_sound i_harm i_in_ i_kind i_owner i_empty i_room i_told i_gate i_ear i_scale i_lost i_watch i_moments i_kept)]) (ws' := (zcat [(cHG q (qw 0) (qt 0) (qi 0) (qj 0) (qb 0) (qx 0) kept0 kept1 fabove fbelow bads noes fulls), (cWar cI qw w_things_77 w_gifts_78 w_days_79 w_size_80 w_weight_81 w_sound_82 w_harm_83 w_in_84 w_kind_85 w_owner_86 w_empty_87 w_room_88 w_told_89 w_gate_90 w_ear_91 w_scale_92 w_lost_93 w_watch_94 w_moments_95 w_kept_96), (cWar cI qi i_things i_gifts i_days i_size i_weight i_sound i_harm i_in_ i_kind i_owner i_empty i_room i_told i_gate i_ear i_scale i_lost i_watch i_moments i_kept), (cWar cI qj j_things j_gifts j_days j_size j_weight j_sound j_harm j_in_ j_kind j_owner j_empty j_room j_told j_gate j_ear j_scale j_lost j_watch j_moments j_kept)])) ⟨hx, hb, hml, hown, hts⟩ hK (c4_copyFrom (things := w_things) (gifts := w_gifts) (days := w_days) (size := w_size) (weight := w_weight) (sound := w_sound) (harm := w_harm) (in_ := w_in_) (kind := w_kind) (owner := w_owner) (empty := w_empty) (room := w_room) (told := w_told) (gate := w_gate) (ear := w_ear) (scale := w_scale) (lost := w_lost) (watch := w_watch) (moments := w_moments) (kept := w_kept) (q := qw) (o_things := i_things) (o_gifts := i_gifts) (o_days := i_days) (o_size := i_size) (o_weight := i_weight) (o_sound := i_sound) (o_harm := i_harm) (o_in_ := i_in_) (o_kind := i_kind) (o_owner := i_owner) (o_empty := i_empty) (o_room := i_room) (o_told := i_told) (o_gate := i_gate) (o_ear := i_ear) (o_scale := i_scale) (o_lost := i_lost) (o_watch := i_watch) (o_moments := i_moments) (o_kept := i_kept) (q0 := qi) hc97) (cwV 1 hts gX5_from_X4_copyFrom rfl rfl rfl hd4_copyFrom ⟨Nat.le_of_ble_eq_true rfl, Nat.le_of_ble_eq_true rfl⟩) hP hD hS hA 4 [1, 2] [0, 3] [0, 2, 3, 1] (by decide +kernel) rfl rfl rfl rfl rfl rfl rfl rfl rfl hl.1 rfl rfl (Nat.le_of_ble_eq_true rfl) (zD_g DX5_from 31 rfl) ⟨Nat.zero_le _, Nat.zero_le _⟩ (fun H locs hP hD hS => ?_)
          refine lv_iconst (v := (1 : Int32)) hx hb (zD_g DX5_from 32 rfl) (by decide) ?_
          cases hf
          exact hret _ _ _ _ hP hD hS (zD_g DX5_from 33 rfl)
      · replace hf := z_t c54 hf
        refine lv_goto (tgt := 37) hx hb (zD_g DX5_from 14 rfl) (by decide) ?_
        refine lv_aload_n hx hb (zD_g DX5_from 18 rfl) rfl (lv_at hl 0 rfl) ?_
        refine lv_bipush (v := (-3 : Int32)) hx hb (zD_g DX5_from 19 rfl) (by decide) ?_
        obtain ⟨r98, bads_99, noes_100, fulls_101, hc102, hf⟩ := zb4_s hf
        refine z_VB (As := [.int (-3 : Int32)]) (rest := []) (cs' := [(cHG q (qw 0) (qt 0) (qi 0) (qj 0) (qb 0) (qx 0) kept0 kept1 fabove fbelow bads_99 noes_100 fulls_101)]) (ws' := (zcat [(cHG q (qw 0) (qt 0) (qi 0) (qj 0) (qb 0) (qx 0) kept0 kept1 fabove fbelow bads_99 noes_100 fulls_101), (cWar cI qw w_things w_gifts w_days w_size w_weight w_sound w_harm w_in_ w_kind w_owner w_empty w_room w_told w_gate w_ear w_scale w_lost w_watch w_moments w_kept), (cWar cI qi i_things i_gifts i_days i_size i_weight i_sound i_harm i_in_ i_kind i_owner i_empty i_room i_told i_gate i_ear i_scale i_lost i_watch i_moments i_kept), (cWar cI qj j_things j_gifts j_days j_size j_weight j_sound j_harm j_in_ j_kind j_owner j_empty j_room j_told j_gate j_ear j_scale j_lost j_watch j_moments j_kept)])) ⟨hx, hb, hml, hown, hts⟩ hK (c5_counted (kept0 := kept0) (kept1 := kept1) (fabove := fabove) (fbelow := fbelow) (bads := bads) (noes := noes) (fulls := fulls) (q := q) (qw := qw) (qt := qt) (qi := qi) (qj := qj) (qb := qb) (qx := qx) hc102) (cwV 1 hts gX5_from_X5_counted rfl rfl rfl hd5_counted ⟨Nat.le_of_ble_eq_true rfl, Nat.le_of_ble_eq_true rfl⟩) hP hD hS hA 4 [0] [1, 2, 3] [3, 0, 1, 2] (by decide +kernel) rfl rfl rfl rfl rfl rfl rfl rfl rfl hl.1 rfl rfl (Nat.le_of_ble_eq_true rfl) (zD_g DX5_from 20 rfl) ⟨Nat.zero_le _, Nat.zero_le _⟩ (fun H locs hP hD hS => ?_)
        cases hf
        exact hret _ _ _ _ hP hD hS (zD_g DX5_from 21 rfl)
  · replace hf := z_t c3 hf
    refine lv_aload_n hx hb (zD_g DX5_from 5 rfl) rfl (lv_at hl 0 rfl) ?_
    refine lv_bipush (v := (-2 : Int32)) hx hb (zD_g DX5_from 6 rfl) (by decide) ?_
    obtain ⟨r103, bads_104, noes_105, fulls_106, hc107, hf⟩ := zb4_s hf
    refine z_VB (As := [.int (-2 : Int32)]) (rest := []) (cs' := [(cHG q (qw 0) (qt 0) (qi 0) (qj 0) (qb 0) (qx 0) kept0 kept1 fabove fbelow bads_104 noes_105 fulls_106)]) (ws' := (zcat [(cHG q (qw 0) (qt 0) (qi 0) (qj 0) (qb 0) (qx 0) kept0 kept1 fabove fbelow bads_104 noes_105 fulls_106), (cWar cI qw w_things w_gifts w_days w_size w_weight w_sound w_harm w_in_ w_kind w_owner w_empty w_room w_told w_gate w_ear w_scale w_lost w_watch w_moments w_kept), (cWar cI qi i_things i_gifts i_days i_size i_weight i_sound i_harm i_in_ i_kind i_owner i_empty i_room i_told i_gate i_ear i_scale i_lost i_watch i_moments i_kept), (cWar cI qj j_things j_gifts j_days j_size j_weight j_sound j_harm j_in_ j_kind j_owner j_empty j_room j_told j_gate j_ear j_scale j_lost j_watch j_moments j_kept)])) ⟨hx, hb, hml, hown, hts⟩ hK (c5_counted (kept0 := kept0) (kept1 := kept1) (fabove := fabove) (fbelow := fbelow) (bads := bads) (noes := noes) (fulls := fulls) (q := q) (qw := qw) (qt := qt) (qi := qi) (qj := qj) (qb := qb) (qx := qx) hc107) (cwV 1 hts gX5_from_X5_counted rfl rfl rfl hd5_counted ⟨Nat.le_of_ble_eq_true rfl, Nat.le_of_ble_eq_true rfl⟩) hP hD hS hA 4 [0] [1, 2, 3] [3, 0, 1, 2] (by decide +kernel) rfl rfl rfl rfl rfl rfl rfl rfl rfl hl.1 rfl rfl (Nat.le_of_ble_eq_true rfl) (zD_g DX5_from 7 rfl) ⟨Nat.zero_le _, Nat.zero_le _⟩ (fun H locs hP hD hS => ?_)
    cases hf
    exact hret _ _ _ _ hP hD hS (zD_g DX5_from 8 rfl)
abbrev dlX5_status : List (Nat × Instr × Nat) := [(0, .iload_n 1, 1), (1, .tableswitch 42 0 2 #[27, 32, 37], 27), (28, .aload_n 0, 1), (29, .getfield 53, 3), (32, .ireturn, 1), (33, .aload_n 0, 1), (34, .getfield 57, 3), (37, .ireturn, 1), (38, .aload_n 0, 1), (39, .getfield 60, 3), (42, .ireturn, 1), (43, .aload_n 0, 1), (44, .bipush (-2), 2), (46, .invokevirtual 67, 3), (49, .pop, 1), (50, .iconst (-1), 1), (51, .ireturn, 1)]
theorem DX5_status : zD cX5_status dlX5_status = true := by decide +kernel
set_option maxRecDepth 20000 in
theorem ggX5_status_X5_counted : GoodIn wsX5_status wsX5_counted := goodIn_r _ [8, 1, 2, 3, 9, 10, 11, 12, 13, 14, 15, 16, 17, 18, 19, 20, 21] (by decide +kernel) (by decide +kernel)
set_option maxRecDepth 20000 in
theorem gX5_status_X5_counted : GoodIn wsX5_status (wsV RX5 67 RX5 yX5_counted wsX5_counted) := goodIn_app (goodIn_of _ (by decide +kernel)) ggX5_status_X5_counted
theorem hd5_status : yX5_status.cls = RX5 ∧ yX5_status.cls ≠ "java/lang/invoke/MethodHandle" ∧ yX5_status.cls ≠ "java/lang/invoke/VarHandle" ∧ (parseMethodDescriptor yX5_status.desc).map (fun d => d.parameters.length) = some 1 := by decide +kernel
abbrev rm5_status : Room := { frames := 1, cells := 0, slots := 0, locals := 21 }
theorem in5_status_5 : ∀ w ∈ wsX50, w ∈ wsX5_status := fun w h => List.mem_cons_of_mem _ (List.mem_append_right _ h)
set_option maxHeartbeats 4000000 in
set_option maxRecDepth 100000 in
theorem c5_status {l : Launch} {D : va_G} {cI cZ cB : ClassId} {q : Nat → Nat} {qw : Nat → Nat} {qt : Nat → Nat} {qi : Nat → Nat} {qj : Nat → Nat} {qb : Nat → Nat} {qx : Nat → Nat} {sz : Nat} {kept0 : Int32} {kept1 : Int32} {fabove : Int64} {fbelow : Int64} {bads : Int32} {noes : Int32} {fulls : Int32} {a_what : Int32} {r : Int32} {d_bads : Int32} {d_noes : Int32} {d_fulls : Int32} (hf : f5_status bads noes fulls a_what = some (r, d_bads, d_noes, d_fulls)) : Met l yX5_status wsX5_status rm5_status (zPm D cI cZ cB [.ref (q 0), .int a_what] sz (cHG q (qw 0) (qt 0) (qi 0) (qj 0) (qb 0) (qx 0) kept0 kept1 fabove fbelow bads noes fulls)) (zQm D (some (.int r)) (cHG q (qw 0) (qt 0) (qi 0) (qj 0) (qb 0) (qx 0) kept0 kept1 fabove fbelow d_bads d_noes d_fulls) (va_A (cHG q (qw 0) (qt 0) (qi 0) (qj 0) (qb 0) (qx 0) kept0 kept1 fabove fbelow bads noes fulls) sz)) 0 0 (va_A (cHG q (qw 0) (qt 0) (qi 0) (qj 0) (qb 0) (qx 0) kept0 kept1 fabove fbelow bads noes fulls) sz) := by
  unfold f5_status at hf
  refine z_mutI RX5 (by decide +kernel) rfl rfl (Nat.le_of_ble_eq_true rfl) ?_
  intro p e s m args below meth c Q A ls hx hb hml hown hts hK hP hD hS hA hret hl
  have hl : lv_has ls 2 [(0, .ref (q 0)), (1, .int a_what)] := hl
  refine lv_iload_n hx hb (zD_g DX5_status 0 rfl) rfl (lv_at hl 1 rfl) ?_
  by_cases c1 : a_what = 0
  · replace hf := z_t c1 hf
    refine lv_tableIn (off := 27) (tgt := 28) hx hb (zD_g DX5_status 1 rfl) (by rw [c1]; decide) (by rw [c1]; decide) (by rw [c1]; decide) (by decide) ?_
    refine lv_aload_n hx hb (zD_g DX5_status 2 rfl) rfl (lv_at hl 0 rfl) ?_
    refine va_get (D := D) (ci := 4) (v := .int bads) (C := RX5) (T := TX5) (N := 13) hx hb hts in5_status_5 hown hK.1 hP 0 rfl rfl 10 (by decide) (hts _ (List.mem_of_getElem? (i := 1) rfl)) (fun _ h9 => h9) rfl (zD_g DX5_status 3 rfl) ?_
    cases hf
    exact hret _ _ _ _ hP hD hS (zD_g DX5_status 4 rfl)
  · replace hf := z_f c1 hf
    by_cases c2 : a_what = 1
    · replace hf := z_t c2 hf
      refine lv_tableIn (off := 32) (tgt := 33) hx hb (zD_g DX5_status 1 rfl) (by rw [c2]; decide) (by rw [c2]; decide) (by rw [c2]; decide) (by decide) ?_
      refine lv_aload_n hx hb (zD_g DX5_status 5 rfl) rfl (lv_at hl 0 rfl) ?_
      refine va_get (D := D) (ci := 4) (v := .int noes) (C := RX5) (T := TX5) (N := 13) hx hb hts in5_status_5 hown hK.1 hP 0 rfl rfl 11 (by decide) (hts _ (List.mem_of_getElem? (i := 2) rfl)) (fun _ h9 => h9) rfl (zD_g DX5_status 6 rfl) ?_
      cases hf
      exact hret _ _ _ _ hP hD hS (zD_g DX5_status 7 rfl)
    · replace hf := z_f c2 hf
      by_cases c3 : a_what = 2
      · replace hf := z_t c3 hf
        refine lv_tableIn (off := 37) (tgt := 38) hx hb (zD_g DX5_status 1 rfl) (by rw [c3]; decide) (by rw [c3]; decide) (by rw [c3]; decide) (by decide) ?_
        refine lv_aload_n hx hb (zD_g DX5_status 8 rfl) rfl (lv_at hl 0 rfl) ?_
        refine va_get (D := D) (ci := 4) (v := .int fulls) (C := RX5) (T := TX5) (N := 13) hx hb hts in5_status_5 hown hK.1 hP 0 rfl rfl 12 (by decide) (hts _ (List.mem_of_getElem? (i := 3) rfl)) (fun _ h9 => h9) rfl (zD_g DX5_status 9 rfl) ?_
        cases hf
        exact hret _ _ _ _ hP hD hS (zD_g DX5_status 10 rfl)
      · replace hf := z_f c3 hf
        have z0 : a_what.toInt ≠ 0 := z_ni c1
        have z1 : a_what.toInt ≠ 1 := z_ni c2
        have z2 : a_what.toInt ≠ 2 := z_ni c3
        refine lv_tableOut (tgt := 43) hx hb (zD_g DX5_status 1 rfl) (by omega) (by decide) ?_
        refine lv_aload_n hx hb (zD_g DX5_status 11 rfl) rfl (lv_at hl 0 rfl) ?_
        refine lv_bipush (v := (-2 : Int32)) hx hb (zD_g DX5_status 12 rfl) (by decide) ?_
        obtain ⟨r4, bads_5, noes_6, fulls_7, hc8, hf⟩ := zb4_s hf
        refine z_Vm (As := [.int (-2 : Int32)]) (rest := []) (ws' := (cHG q (qw 0) (qt 0) (qi 0) (qj 0) (qb 0) (qx 0) kept0 kept1 fabove fbelow bads_5 noes_6 fulls_7)) ⟨hx, hb, hml, hown, hts⟩ hK (c5_counted (kept0 := kept0) (kept1 := kept1) (fabove := fabove) (fbelow := fbelow) (bads := bads) (noes := noes) (fulls := fulls) (q := q) (qw := qw) (qt := qt) (qi := qi) (qj := qj) (qb := qb) (qx := qx) hc8) (cwV 1 hts gX5_status_X5_counted rfl rfl rfl hd5_counted ⟨Nat.le_of_ble_eq_true rfl, Nat.le_of_ble_eq_true rfl⟩) hP hD hS hA 1 [0] [] [0] (by decide +kernel) rfl rfl rfl rfl rfl rfl rfl hl.1 rfl rfl (Nat.le_of_ble_eq_true rfl) (zD_g DX5_status 13 rfl) ⟨Nat.zero_le _, Nat.zero_le _⟩ (fun H locs hP hD hS => ?_)
        refine lv_pop hx hb (zD_g DX5_status 14 rfl) rfl ?_
        refine lv_iconst (v := (-1 : Int32)) hx hb (zD_g DX5_status 15 rfl) (by decide) ?_
        cases hf
        exact hret _ _ _ _ hP hD hS (zD_g DX5_status 16 rfl)
abbrev dlX5_howMany : List (Nat × Instr × Nat) := [(0, .iload_n 1, 1), (1, .tableswitch 78 0 4 #[35, 43, 51, 59, 67], 35), (36, .aload_n 0, 1), (37, .getfield 10, 3), (40, .getfield 205, 3), (43, .ireturn, 1), (44, .aload_n 0, 1), (45, .getfield 10, 3), (48, .getfield 249, 3), (51, .ireturn, 1), (52, .aload_n 0, 1), (53, .getfield 10, 3), (56, .getfield 286, 3), (59, .ireturn, 1), (60, .aload_n 0, 1), (61, .getfield 10, 3), (64, .invokevirtual 289, 3), (67, .ireturn, 1), (68, .aload_n 0, 1), (69, .getfield 10, 3), (72, .getfield 292, 3), (75, .getfield 296, 3), (78, .ireturn, 1), (79, .aload_n 0, 1), (80, .getfield 42, 3), (83, .getfield 301, 3), (86, .ireturn, 1)]
theorem DX5_howMany : zD cX5_howMany dlX5_howMany = true := by decide +kernel
set_option maxRecDepth 20000 in
theorem ggX5_howMany_X4_thingsInGifts : GoodIn wsX5_howMany wsX4_thingsInGifts := goodIn_r _ [13, 14, 15, 16, 17, 12, 18, 19, 20, 21, 22, 23, 24, 25, 26, 40, 41, 42, 43, 44, 45, 46, 47, 48, 49, 50, 51, 52, 53, 54, 55, 56, 57, 58] (by decide +kernel) (by decide +kernel)
set_option maxRecDepth 20000 in
theorem gX5_howMany_X4_thingsInGifts : GoodIn wsX5_howMany (wsV RX5 289 RX4 yX4_thingsInGifts wsX4_thingsInGifts) := goodIn_app (goodIn_of _ (by decide +kernel)) ggX5_howMany_X4_thingsInGifts
theorem hd5_howMany : yX5_howMany.cls = RX5 ∧ yX5_howMany.cls ≠ "java/lang/invoke/MethodHandle" ∧ yX5_howMany.cls ≠ "java/lang/invoke/VarHandle" ∧ (parseMethodDescriptor yX5_howMany.desc).map (fun d => d.parameters.length) = some 1 := by decide +kernel
abbrev rm5_howMany : Room := { frames := 2, cells := 0, slots := 0, locals := 43 }
theorem in5_howMany_2 : ∀ w ∈ wsX20, w ∈ wsX5_howMany := fun w h => List.mem_cons_of_mem _ (List.mem_append_left _ (List.mem_append_right _ h))
theorem in5_howMany_3 : ∀ w ∈ wsX30, w ∈ wsX5_howMany := fun w h => List.mem_cons_of_mem _ (List.mem_append_right _ h)
theorem in5_howMany_4 : ∀ w ∈ wsX40, w ∈ wsX5_howMany := fun w h => List.mem_cons_of_mem _ (List.mem_append_left _ (List.mem_append_left _ (List.mem_append_right _ h)))
theorem in5_howMany_5 : ∀ w ∈ wsX50, w ∈ wsX5_howMany := fun w h => List.mem_cons_of_mem _ (List.mem_append_left _ (List.mem_append_left _ (List.mem_append_left _ (List.mem_append_right _ h))))
set_option maxHeartbeats 4000000 in
set_option maxRecDepth 100000 in
theorem c5_howMany {l : Launch} {D : va_G} {cI cZ cB : ClassId} {q : Nat → Nat} {qw : Nat → Nat} {qx : Nat → Nat} {qt : Nat → Nat} {qi : Nat → Nat} {qj : Nat → Nat} {qb : Nat → Nat} {kept0 : Int32} {kept1 : Int32} {fabove : Int64} {fbelow : Int64} {bads : Int32} {noes : Int32} {fulls : Int32} {w_things : Int32} {w_gifts : Int32} {w_days : Int32} {w_size : Nat → Int32} {w_weight : Nat → Int32} {w_sound : Nat → Int32} {w_harm : Nat → Int32} {w_in_ : Nat → Int32} {w_kind : Nat → Int32} {w_owner : Nat → Int32} {w_empty : Nat → Int32} {w_room : Nat → Int32} {w_told : Nat → Int32} {w_gate : Nat → Int32} {w_ear : Nat → Int32} {w_scale : Nat → Int32} {w_lost : Nat → Int32} {w_watch : Nat → Int32} {w_moments : Int32} {w_kept : Nat → Int32} {tlen : Int32} {titems : Int32} {tfault : Int32} {tbytes : Nat → Int32} {twords : Nat → Int32} {tnumbers : Nat → Int32} {a_what : Int32} {r : Int32}  (hf : f5_howMany w_things w_gifts w_days w_in_ w_moments tlen a_what = some r) : Met l yX5_howMany wsX5_howMany rm5_howMany (zPp D cI cZ cB [.ref (q 0), .int a_what] (zcat [(cHG q (qw 0) (qt 0) (qi 0) (qj 0) (qb 0) (qx 0) kept0 kept1 fabove fbelow bads noes fulls), (cWar cI qw w_things w_gifts w_days w_size w_weight w_sound w_harm w_in_ w_kind w_owner w_empty w_room w_told w_gate w_ear w_scale w_lost w_watch w_moments w_kept), (cTell cI cB qx tlen titems tfault tbytes twords tnumbers)])) (zQp (some (.int r))) 0 0 (fun _ => False) := by
  unfold f5_howMany at hf
  refine z_pureI RX5 (by decide +kernel) rfl rfl (Nat.le_of_ble_eq_true rfl) ?_
  intro p e s m args below meth c Q ls hx hb hml hown hts hK hP hret hl
  have hl : lv_has ls 2 [(0, .ref (q 0)), (1, .int a_what)] := hl
  refine lv_iload_n hx hb (zD_g DX5_howMany 0 rfl) rfl (lv_at hl 1 rfl) ?_
  by_cases c1 : a_what = 0
  · replace hf := z_t c1 hf
    refine lv_tableIn (off := 35) (tgt := 36) hx hb (zD_g DX5_howMany 1 rfl) (by rw [c1]; decide) (by rw [c1]; decide) (by rw [c1]; decide) (by decide) ?_
    refine lv_aload_n hx hb (zD_g DX5_howMany 2 rfl) rfl (lv_at hl 0 rfl) ?_
    refine va_get (D := D) (ci := 4) (v := .ref (qw 0)) (C := RX5) (T := TX5) (N := 13) hx hb hts in5_howMany_5 hown hK.1 hP 0 rfl rfl 0 (by decide) (hts _ (List.mem_of_getElem? (i := 1) rfl)) (fun _ h9 => h9) rfl (zD_g DX5_howMany 3 rfl) ?_
    refine va_get (D := D) (ci := 3) (v := .int w_things) (C := RX4) (T := TX4) (N := 19) hx hb hts in5_howMany_4 hown hK.1 hP 1 rfl rfl 0 (by decide) (hts _ (List.mem_of_getElem? (i := 2) rfl)) (fun _ h9 => h9) rfl (zD_g DX5_howMany 4 rfl) ?_
    cases hf
    exact hret _ _ (zD_g DX5_howMany 5 rfl)
  · replace hf := z_f c1 hf
    by_cases c2 : a_what = 1
    · replace hf := z_t c2 hf
      refine lv_tableIn (off := 43) (tgt := 44) hx hb (zD_g DX5_howMany 1 rfl) (by rw [c2]; decide) (by rw [c2]; decide) (by rw [c2]; decide) (by decide) ?_
      refine lv_aload_n hx hb (zD_g DX5_howMany 6 rfl) rfl (lv_at hl 0 rfl) ?_
      refine va_get (D := D) (ci := 4) (v := .ref (qw 0)) (C := RX5) (T := TX5) (N := 13) hx hb hts in5_howMany_5 hown hK.1 hP 0 rfl rfl 0 (by decide) (hts _ (List.mem_of_getElem? (i := 1) rfl)) (fun _ h9 => h9) rfl (zD_g DX5_howMany 7 rfl) ?_
      refine va_get (D := D) (ci := 3) (v := .int w_gifts) (C := RX4) (T := TX4) (N := 19) hx hb hts in5_howMany_4 hown hK.1 hP 1 rfl rfl 1 (by decide) (hts _ (List.mem_of_getElem? (i := 3) rfl)) (fun _ h9 => h9) rfl (zD_g DX5_howMany 8 rfl) ?_
      cases hf
      exact hret _ _ (zD_g DX5_howMany 9 rfl)
    · replace hf := z_f c2 hf
      by_cases c3 : a_what = 2
      · replace hf := z_t c3 hf
        refine lv_tableIn (off := 51) (tgt := 52) hx hb (zD_g DX5_howMany 1 rfl) (by rw [c3]; decide) (by rw [c3]; decide) (by rw [c3]; decide) (by decide) ?_
        refine lv_aload_n hx hb (zD_g DX5_howMany 10 rfl) rfl (lv_at hl 0 rfl) ?_
        refine va_get (D := D) (ci := 4) (v := .ref (qw 0)) (C := RX5) (T := TX5) (N := 13) hx hb hts in5_howMany_5 hown hK.1 hP 0 rfl rfl 0 (by decide) (hts _ (List.mem_of_getElem? (i := 1) rfl)) (fun _ h9 => h9) rfl (zD_g DX5_howMany 11 rfl) ?_
        refine va_get (D := D) (ci := 3) (v := .int w_days) (C := RX4) (T := TX4) (N := 19) hx hb hts in5_howMany_4 hown hK.1 hP 1 rfl rfl 2 (by decide) (hts _ (List.mem_of_getElem? (i := 4) rfl)) (fun _ h9 => h9) rfl (zD_g DX5_howMany 12 rfl) ?_
        cases hf
        exact hret _ _ (zD_g DX5_howMany 13 rfl)
      · replace hf := z_f c3 hf
        by_cases c4 : a_what = 3
        · replace hf := z_t c4 hf
          refine lv_tableIn (off := 59) (tgt := 60) hx hb (zD_g DX5_howMany 1 rfl) (by rw [c4]; decide) (by rw [c4]; decide) (by rw [c4]; decide) (by decide) ?_
          refine lv_aload_n hx hb (zD_g DX5_howMany 14 rfl) rfl (lv_at hl 0 rfl) ?_
          refine va_get (D := D) (ci := 4) (v := .ref (qw 0)) (C := RX5) (T := TX5) (N := 13) hx hb hts in5_howMany_5 hown hK.1 hP 0 rfl rfl 0 (by decide) (hts _ (List.mem_of_getElem? (i := 1) rfl)) (fun _ h9 => h9) rfl (zD_g DX5_howMany 15 rfl) ?_
          obtain ⟨r5, hc6, hf⟩ := zb1_s hf
          refine z_Vp (As := []) (rest := []) ⟨hx, hb, hml, hown, hts⟩ hK (c4_thingsInGifts (things := w_things) (gifts := w_gifts) (days := w_days) (size := w_size) (weight := w_weight) (sound := w_sound) (harm := w_harm) (in_ := w_in_) (kind := w_kind) (owner := w_owner) (empty := w_empty) (room := w_room) (told := w_told) (gate := w_gate) (ear := w_ear) (scale := w_scale) (lost := w_lost) (watch := w_watch) (moments := w_moments) (kept := w_kept) (q := qw) hc6) (cwV 0 hts gX5_howMany_X4_thingsInGifts rfl rfl rfl hd4_thingsInGifts ⟨Nat.le_of_ble_eq_true rfl, Nat.le_of_ble_eq_true rfl⟩) (zsubP hP [1] rfl) rfl rfl rfl rfl hl.1 rfl rfl (Nat.le_of_ble_eq_true rfl) (zD_g DX5_howMany 16 rfl) ⟨Nat.zero_le _, Nat.zero_le _⟩ ?_
          cases hf
          exact hret _ _ (zD_g DX5_howMany 17 rfl)
        · replace hf := z_f c4 hf
          by_cases c7 : a_what = 4
          · replace hf := z_t c7 hf
            refine lv_tableIn (off := 67) (tgt := 68) hx hb (zD_g DX5_howMany 1 rfl) (by rw [c7]; decide) (by rw [c7]; decide) (by rw [c7]; decide) (by decide) ?_
            refine lv_aload_n hx hb (zD_g DX5_howMany 18 rfl) rfl (lv_at hl 0 rfl) ?_
            refine va_get (D := D) (ci := 4) (v := .ref (qw 0)) (C := RX5) (T := TX5) (N := 13) hx hb hts in5_howMany_5 hown hK.1 hP 0 rfl rfl 0 (by decide) (hts _ (List.mem_of_getElem? (i := 1) rfl)) (fun _ h9 => h9) rfl (zD_g DX5_howMany 19 rfl) ?_
            refine va_get (D := D) (ci := 3) (v := .ref (qw 16)) (C := RX4) (T := TX4) (N := 19) hx hb hts in5_howMany_4 hown hK.1 hP 1 rfl rfl 18 (by decide) (hts _ (List.mem_of_getElem? (i := 5) rfl)) (fun _ h9 => h9) rfl (zD_g DX5_howMany 20 rfl) ?_
            refine va_get (D := D) (ci := 1) (v := .int w_moments) (C := RX2) (T := TX2) (N := 2) hx hb hts in5_howMany_2 hown hK.1 hP 17 rfl rfl 0 (by decide) (hts _ (List.mem_of_getElem? (i := 6) rfl)) (fun _ h9 => h9) rfl (zD_g DX5_howMany 21 rfl) ?_
            cases hf
            exact hret _ _ (zD_g DX5_howMany 22 rfl)
          · replace hf := z_f c7 hf
            have z0 : a_what.toInt ≠ 0 := z_ni c1
            have z1 : a_what.toInt ≠ 1 := z_ni c2
            have z2 : a_what.toInt ≠ 2 := z_ni c3
            have z3 : a_what.toInt ≠ 3 := z_ni c4
            have z4 : a_what.toInt ≠ 4 := z_ni c7
            refine lv_tableOut (tgt := 79) hx hb (zD_g DX5_howMany 1 rfl) (by omega) (by decide) ?_
            refine lv_aload_n hx hb (zD_g DX5_howMany 23 rfl) rfl (lv_at hl 0 rfl) ?_
            refine va_get (D := D) (ci := 4) (v := .ref (qx 0)) (C := RX5) (T := TX5) (N := 13) hx hb hts in5_howMany_5 hown hK.1 hP 0 rfl rfl 7 (by decide) (hts _ (List.mem_of_getElem? (i := 7) rfl)) (fun _ h9 => h9) rfl (zD_g DX5_howMany 24 rfl) ?_
            refine va_get (D := D) (ci := 2) (v := .int tlen) (C := RX3) (T := TX3) (N := 6) hx hb hts in5_howMany_3 hown hK.1 hP 19 rfl rfl 0 (by decide) (hts _ (List.mem_of_getElem? (i := 8) rfl)) (fun _ h9 => h9) rfl (zD_g DX5_howMany 25 rfl) ?_
            cases hf
            exact hret _ _ (zD_g DX5_howMany 26 rfl)
abbrev dlX5_count : List (Nat × Instr × Nat) := [(0, .iload_n 1, 1), (1, .iconst 0, 1), (2, .iconst 5, 1), (3, .invokestatic 174, 3), (6, .ifCond .eq 11, 3), (9, .aload_n 0, 1), (10, .iload_n 1, 1), (11, .invokevirtual 260, 3), (14, .goto 9, 3), (17, .aload_n 0, 1), (18, .bipush (-2), 2), (20, .invokevirtual 67, 3), (23, .ireturn, 1)]
theorem DX5_count : zD cX5_count dlX5_count = true := by decide +kernel
set_option maxRecDepth 20000 in
theorem ggX5_count_X5_within : GoodIn wsX5_count wsX5_within := goodIn_r _ [4] (by decide +kernel) (by decide +kernel)
set_option maxRecDepth 20000 in
theorem gX5_count_X5_within : GoodIn wsX5_count (va_wsS RX5 174 yX5_within wsX5_within) := goodIn_app (goodIn_of _ (by decide +kernel)) ggX5_count_X5_within
set_option maxRecDepth 20000 in
theorem ggX5_count_X5_howMany : GoodIn wsX5_count wsX5_howMany := goodIn_r _ [8, 9, 10, 11, 12, 13, 14, 15, 16, 17, 18, 19, 20, 21, 22, 23, 24, 25, 26, 27, 28, 29, 30, 31, 32, 33, 34, 42, 43, 44, 45, 46, 47, 48, 49, 50, 51, 52, 53, 54, 55, 56, 57, 58, 59, 60, 61, 62, 63, 64, 65, 66, 67, 68, 69, 70, 71, 72, 73, 74, 75, 76, 77, 78, 79, 80, 81] (by decide +kernel) (by decide +kernel)
set_option maxRecDepth 20000 in
theorem gX5_count_X5_howMany : GoodIn wsX5_count (wsV RX5 260 RX5 yX5_howMany wsX5_howMany) := goodIn_app (goodIn_of _ (by decide +kernel)) ggX5_count_X5_howMany
set_option maxRecDepth 20000 in
theorem ggX5_count_X5_counted : GoodIn wsX5_count wsX5_counted := goodIn_r _ [38, 39, 40, 41, 42, 43, 44, 45, 46, 47, 48, 49, 50, 51, 52, 53, 54] (by decide +kernel) (by decide +kernel)
set_option maxRecDepth 20000 in
theorem gX5_count_X5_counted : GoodIn wsX5_count (wsV RX5 67 RX5 yX5_counted wsX5_counted) := goodIn_app (goodIn_of _ (by decide +kernel)) ggX5_count_X5_counted
theorem hd5_count : yX5_count.cls = RX5 ∧ yX5_count.cls ≠ "java/lang/invoke/MethodHandle" ∧ yX5_count.cls ≠ "java/lang/invoke/VarHandle" ∧ (parseMethodDescriptor yX5_count.desc).map (fun d => d.parameters.length) = some 1 := by decide +kernel
abbrev rm5_count : Room := { frames := 3, cells := 0, slots := 0, locals := 64 }
set_option maxHeartbeats 4000000 in
set_option maxRecDepth 100000 in
theorem c5_count {l : Launch} {D : va_G} {cI cZ cB : ClassId} {q : Nat → Nat} {qw : Nat → Nat} {qx : Nat → Nat} {qt : Nat → Nat} {qi : Nat → Nat} {qj : Nat → Nat} {qb : Nat → Nat} {sz : Nat} {kept0 : Int32} {kept1 : Int32} {fabove : Int64} {fbelow : Int64} {bads : Int32} {noes : Int32} {fulls : Int32} {w_things : Int32} {w_gifts : Int32} {w_days : Int32} {w_size : Nat → Int32} {w_weight : Nat → Int32} {w_sound : Nat → Int32} {w_harm : Nat → Int32} {w_in_ : Nat → Int32} {w_kind : Nat → Int32} {w_owner : Nat → Int32} {w_empty : Nat → Int32} {w_room : Nat → Int32} {w_told : Nat → Int32} {w_gate : Nat → Int32} {w_ear : Nat → Int32} {w_scale : Nat → Int32} {w_lost : Nat → Int32} {w_watch : Nat → Int32} {w_moments : Int32} {w_kept : Nat → Int32} {tlen : Int32} {titems : Int32} {tfault : Int32} {tbytes : Nat → Int32} {twords : Nat → Int32} {tnumbers : Nat → Int32} {a_what : Int32} {r : Int32} {d_bads : Int32} {d_noes : Int32} {d_fulls : Int32} (hf : f5_count bads noes fulls w_things w_gifts w_days w_in_ w_moments tlen a_what = some (r, d_bads, d_noes, d_fulls)) : Met l yX5_count wsX5_count rm5_count (zPm D cI cZ cB [.ref (q 0), .int a_what] sz (zcat [(cHG q (qw 0) (qt 0) (qi 0) (qj 0) (qb 0) (qx 0) kept0 kept1 fabove fbelow bads noes fulls), (cWar cI qw w_things w_gifts w_days w_size w_weight w_sound w_harm w_in_ w_kind w_owner w_empty w_room w_told w_gate w_ear w_scale w_lost w_watch w_moments w_kept), (cTell cI cB qx tlen titems tfault tbytes twords tnumbers)])) (zQm D (some (.int r)) (zcat [(cHG q (qw 0) (qt 0) (qi 0) (qj 0) (qb 0) (qx 0) kept0 kept1 fabove fbelow d_bads d_noes d_fulls), (cWar cI qw w_things w_gifts w_days w_size w_weight w_sound w_harm w_in_ w_kind w_owner w_empty w_room w_told w_gate w_ear w_scale w_lost w_watch w_moments w_kept), (cTell cI cB qx tlen titems tfault tbytes twords tnumbers)]) (va_A (zcat [(cHG q (qw 0) (qt 0) (qi 0) (qj 0) (qb 0) (qx 0) kept0 kept1 fabove fbelow bads noes fulls), (cWar cI qw w_things w_gifts w_days w_size w_weight w_sound w_harm w_in_ w_kind w_owner w_empty w_room w_told w_gate w_ear w_scale w_lost w_watch w_moments w_kept), (cTell cI cB qx tlen titems tfault tbytes twords tnumbers)]) sz)) 0 0 (va_A (zcat [(cHG q (qw 0) (qt 0) (qi 0) (qj 0) (qb 0) (qx 0) kept0 kept1 fabove fbelow bads noes fulls), (cWar cI qw w_things w_gifts w_days w_size w_weight w_sound w_harm w_in_ w_kind w_owner w_empty w_room w_told w_gate w_ear w_scale w_lost w_watch w_moments w_kept), (cTell cI cB qx tlen titems tfault tbytes twords tnumbers)]) sz) := by
  unfold f5_count at hf
  refine z_mutI RX5 (by decide +kernel) rfl rfl (Nat.le_of_ble_eq_true rfl) ?_
  intro p e s m args below meth c Q A ls hx hb hml hown hts hK hP hD hS hA hret hl
  have hl : lv_has ls 2 [(0, .ref (q 0)), (1, .int a_what)] := hl
  refine lv_iload_n hx hb (zD_g DX5_count 0 rfl) rfl (lv_at hl 1 rfl) ?_
  refine lv_iconst (v := (0 : Int32)) hx hb (zD_g DX5_count 1 rfl) (by decide) ?_
  refine lv_iconst (v := (5 : Int32)) hx hb (zD_g DX5_count 2 rfl) (by decide) ?_
  obtain ⟨r1, hc2, hf⟩ := zb1_s hf
  refine z_Sp (As := [.int a_what, .int (0 : Int32), .int (5 : Int32)]) (rest := []) ⟨hx, hb, hml, hown, hts⟩ hK (c5_within  hc2) (va_cwS 3 hts gX5_count_X5_within rfl rfl rfl hd5_within ⟨Nat.le_of_ble_eq_true rfl, Nat.le_of_ble_eq_true rfl⟩) (hP.sub [] rfl) rfl hl.1 rfl rfl (Nat.le_of_ble_eq_true rfl) (zD_g DX5_count 3 rfl) ⟨Nat.zero_le _, Nat.zero_le _⟩ ?_
  refine lv_if_eq (tgt := 17) hx hb (zD_g DX5_count 4 rfl) (by decide) (fun c3 => ?_) (fun c3 => ?_)
  · replace hf := z_t c3 hf
    refine lv_aload_n hx hb (zD_g DX5_count 9 rfl) rfl (lv_at hl 0 rfl) ?_
    refine lv_bipush (v := (-2 : Int32)) hx hb (zD_g DX5_count 10 rfl) (by decide) ?_
    obtain ⟨r4, bads_5, noes_6, fulls_7, hc8, hf⟩ := zb4_s hf
    refine z_VB (As := [.int (-2 : Int32)]) (rest := []) (cs' := [(cHG q (qw 0) (qt 0) (qi 0) (qj 0) (qb 0) (qx 0) kept0 kept1 fabove fbelow bads_5 noes_6 fulls_7)]) (ws' := (zcat [(cHG q (qw 0) (qt 0) (qi 0) (qj 0) (qb 0) (qx 0) kept0 kept1 fabove fbelow bads_5 noes_6 fulls_7), (cWar cI qw w_things w_gifts w_days w_size w_weight w_sound w_harm w_in_ w_kind w_owner w_empty w_room w_told w_gate w_ear w_scale w_lost w_watch w_moments w_kept), (cTell cI cB qx tlen titems tfault tbytes twords tnumbers)])) ⟨hx, hb, hml, hown, hts⟩ hK (c5_counted (kept0 := kept0) (kept1 := kept1) (fabove := fabove) (fbelow := fbelow) (bads := bads) (noes := noes) (fulls := fulls) (q := q) (qw := qw) (qt := qt) (qi := qi) (qj := qj) (qb := qb) (qx := qx) hc8) (cwV 1 hts gX5_count_X5_counted rfl rfl rfl hd5_counted ⟨Nat.le_of_ble_eq_true rfl, Nat.le_of_ble_eq_true rfl⟩) hP hD hS hA 3 [0] [1, 2] [2, 0, 1] (by decide +kernel) rfl rfl rfl rfl rfl rfl rfl rfl rfl hl.1 rfl rfl (Nat.le_of_ble_eq_true rfl) (zD_g DX5_count 11 rfl) ⟨Nat.zero_le _, Nat.zero_le _⟩ (fun H locs hP hD hS => ?_)
    cases hf
    exact hret _ _ _ _ hP hD hS (zD_g DX5_count 12 rfl)
  · replace hf := z_f c3 hf
    refine lv_aload_n hx hb (zD_g DX5_count 5 rfl) rfl (lv_at hl 0 rfl) ?_
    refine lv_iload_n hx hb (zD_g DX5_count 6 rfl) rfl (lv_at hl 1 rfl) ?_
    obtain ⟨r9, hc10, hf⟩ := zb1_s hf
    refine z_Vp (As := [.int a_what]) (rest := []) ⟨hx, hb, hml, hown, hts⟩ hK (c5_howMany (kept0 := kept0) (kept1 := kept1) (fabove := fabove) (fbelow := fbelow) (bads := bads) (noes := noes) (fulls := fulls) (q := q) (w_things := w_things) (w_gifts := w_gifts) (w_days := w_days) (w_size := w_size) (w_weight := w_weight) (w_sound := w_sound) (w_harm := w_harm) (w_in_ := w_in_) (w_kind := w_kind) (w_owner := w_owner) (w_empty := w_empty) (w_room := w_room) (w_told := w_told) (w_gate := w_gate) (w_ear := w_ear) (w_scale := w_scale) (w_lost := w_lost) (w_watch := w_watch) (w_moments := w_moments) (w_kept := w_kept) (qw := qw) (tlen := tlen) (titems := titems) (tfault := tfault) (tbytes := tbytes) (twords := twords) (tnumbers := tnumbers) (qx := qx) (qt := qt) (qi := qi) (qj := qj) (qb := qb) hc10) (cwV 1 hts gX5_count_X5_howMany rfl rfl rfl hd5_howMany ⟨Nat.le_of_ble_eq_true rfl, Nat.le_of_ble_eq_true rfl⟩) hP rfl rfl rfl rfl hl.1 rfl rfl (Nat.le_of_ble_eq_true rfl) (zD_g DX5_count 7 rfl) ⟨Nat.zero_le _, Nat.zero_le _⟩ ?_
    refine lv_goto (tgt := 23) hx hb (zD_g DX5_count 8 rfl) (by decide) ?_
    cases hf
    exact hret _ _ _ _ hP hD hS (zD_g DX5_count 12 rfl)
abbrev dlX5_digest : List (Nat × Instr × Nat) := [(0, .ldc2_w 263, 3), (3, .lstore_n 1, 1), (4, .iconst 0, 1), (5, .istore_n 3, 1), (6, .iload_n 3, 1), (7, .iconst 5, 1), (8, .if_icmp .gt 22, 3), (11, .ldc2_w 265, 3), (14, .lload_n 1, 1), (15, .lmul, 1), (16, .aload_n 0, 1), (17, .iload_n 3, 1), (18, .invokevirtual 260, 3), (21, .i2l, 1), (22, .ladd, 1), (23, .lstore_n 1, 1), (24, .iinc 3 1, 3), (27, .goto (-21), 3), (30, .aload_n 0, 1), (31, .getfield 10, 3), (34, .lload_n 1, 1), (35, .invokevirtual 267, 3), (38, .lstore_n 1, 1), (39, .aload_n 0, 1), (40, .getfield 10, 3), (43, .lload_n 1, 1), (44, .invokevirtual 270, 3), (47, .lstore_n 1, 1), (48, .aload_n 0, 1), (49, .getfield 10, 3), (52, .lload_n 1, 1), (53, .invokevirtual 273, 3), (56, .lstore_n 1, 1), (57, .ldc2_w 265, 3), (60, .lload_n 1, 1), (61, .lmul, 1), (62, .aload_n 0, 1), (63, .getfield 46, 3), (66, .ladd, 1), (67, .lstore_n 1, 1), (68, .ldc2_w 265, 3), (71, .lload_n 1, 1), (72, .lmul, 1), (73, .aload_n 0, 1), (74, .getfield 50, 3), (77, .ladd, 1), (78, .lreturn, 1)]
theorem DX5_digest : zD cX5_digest dlX5_digest = true := by decide +kernel
set_option maxRecDepth 20000 in
theorem ggX5_digest_X5_howMany : GoodIn wsX5_digest wsX5_howMany := goodIn_r _ [10, 3, 11, 12, 13, 14, 15, 16, 17, 18, 19, 20, 21, 22, 23, 24, 25, 26, 27, 28, 29, 30, 31, 32, 33, 34, 35, 64, 65, 66, 67, 68, 69, 70, 71, 72, 73, 74, 75, 76, 77, 78, 79, 80, 81, 82, 83, 84, 85, 86, 87, 88, 89, 90, 91, 92, 93, 94, 95, 96, 97, 98, 99, 100, 101, 102, 103] (by decide +kernel) (by decide +kernel)
set_option maxRecDepth 20000 in
theorem gX5_digest_X5_howMany : GoodIn wsX5_digest (wsV RX5 260 RX5 yX5_howMany wsX5_howMany) := goodIn_app (goodIn_of _ (by decide +kernel)) ggX5_digest_X5_howMany
set_option maxRecDepth 20000 in
theorem ggX5_digest_X4_digestThings : GoodIn wsX5_digest wsX4_digestThings := goodIn_r _ [39, 23, 40, 41, 42, 43, 44, 28, 77, 78, 79, 80, 81, 82, 83, 84, 85, 86, 87, 88, 89, 90, 91, 92, 93, 94, 95] (by decide +kernel) (by decide +kernel)
set_option maxRecDepth 20000 in
theorem gX5_digest_X4_digestThings : GoodIn wsX5_digest (wsV RX5 267 RX4 yX4_digestThings wsX4_digestThings) := goodIn_app (goodIn_of _ (by decide +kernel)) ggX5_digest_X4_digestThings
set_option maxRecDepth 20000 in
theorem ggX5_digest_X4_digestGifts : GoodIn wsX5_digest wsX4_digestGifts := goodIn_r _ [48, 49, 40, 50, 51, 52, 53, 54, 77, 78, 79, 80, 81, 82, 83, 84, 85, 86, 87, 88, 89, 90, 91, 92, 93, 94, 95] (by decide +kernel) (by decide +kernel)
set_option maxRecDepth 20000 in
theorem gX5_digest_X4_digestGifts : GoodIn wsX5_digest (wsV RX5 270 RX4 yX4_digestGifts wsX4_digestGifts) := goodIn_app (goodIn_of _ (by decide +kernel)) ggX5_digest_X4_digestGifts
set_option maxRecDepth 20000 in
theorem ggX5_digest_X4_digestCities : GoodIn wsX5_digest wsX4_digestCities := goodIn_r _ [58, 40, 59, 60, 61, 62, 63, 77, 78, 79, 80, 81, 82, 83, 84, 85, 86, 87, 88, 89, 90, 91, 92, 93, 94, 95] (by decide +kernel) (by decide +kernel)
set_option maxRecDepth 20000 in
theorem gX5_digest_X4_digestCities : GoodIn wsX5_digest (wsV RX5 273 RX4 yX4_digestCities wsX4_digestCities) := goodIn_app (goodIn_of _ (by decide +kernel)) ggX5_digest_X4_digestCities
theorem hd5_digest : yX5_digest.cls = RX5 ∧ yX5_digest.cls ≠ "java/lang/invoke/MethodHandle" ∧ yX5_digest.cls ≠ "java/lang/invoke/VarHandle" ∧ (parseMethodDescriptor yX5_digest.desc).map (fun d => d.parameters.length) = some 0 := by decide +kernel
abbrev rm5_digest : Room := { frames := 3, cells := 0, slots := 0, locals := 64 }
theorem in5_digest_5 : ∀ w ∈ wsX50, w ∈ wsX5_digest := fun w h => List.mem_cons_of_mem _ (List.mem_append_left _ (List.mem_append_left _ (List.mem_append_left _ (List.mem_append_right _ h))))
set_option maxHeartbeats 4000000 in
set_option maxRecDepth 100000 in
theorem c5_digest {l : Launch} {D : va_G} {cI cZ cB : ClassId} {q : Nat → Nat} {qw : Nat → Nat} {qx : Nat → Nat} {qt : Nat → Nat} {qi : Nat → Nat} {qj : Nat → Nat} {qb : Nat → Nat} {kept0 : Int32} {kept1 : Int32} {fabove : Int64} {fbelow : Int64} {bads : Int32} {noes : Int32} {fulls : Int32} {w_things : Int32} {w_gifts : Int32} {w_days : Int32} {w_size : Nat → Int32} {w_weight : Nat → Int32} {w_sound : Nat → Int32} {w_harm : Nat → Int32} {w_in_ : Nat → Int32} {w_kind : Nat → Int32} {w_owner : Nat → Int32} {w_empty : Nat → Int32} {w_room : Nat → Int32} {w_told : Nat → Int32} {w_gate : Nat → Int32} {w_ear : Nat → Int32} {w_scale : Nat → Int32} {w_lost : Nat → Int32} {w_watch : Nat → Int32} {w_moments : Int32} {w_kept : Nat → Int32} {tlen : Int32} {titems : Int32} {tfault : Int32} {tbytes : Nat → Int32} {twords : Nat → Int32} {tnumbers : Nat → Int32}  {r : Int64}  (hf : f5_digest fabove fbelow w_things w_gifts w_days w_size w_weight w_sound w_harm w_in_ w_kind w_owner w_empty w_room w_told w_gate w_ear w_scale w_lost w_watch w_moments tlen = some r) : Met l yX5_digest wsX5_digest rm5_digest (zPp D cI cZ cB [.ref (q 0)] (zcat [(cHG q (qw 0) (qt 0) (qi 0) (qj 0) (qb 0) (qx 0) kept0 kept1 fabove fbelow bads noes fulls), (cWar cI qw w_things w_gifts w_days w_size w_weight w_sound w_harm w_in_ w_kind w_owner w_empty w_room w_told w_gate w_ear w_scale w_lost w_watch w_moments w_kept), (cTell cI cB qx tlen titems tfault tbytes twords tnumbers)])) (zQp (some (.long r))) 0 0 (fun _ => False) := by
  unfold f5_digest at hf
  refine z_pureL RX5 (by decide +kernel) rfl rfl (Nat.le_of_ble_eq_true rfl) ?_
  intro p e s m args below meth c Q ls hx hb hml hown hts hK hP hret hl
  have hl : lv_has ls 4 [(0, .ref (q 0))] := hl
  refine lv_ldc2 (v := (863 : Int64)) hx hb hown (hts _ (List.mem_of_getElem? (i := 1) rfl)) (zD_g DX5_digest 0 rfl) ?_
  refine lv_lstore_n (lv' := [(1, .long (863 : Int64)), (0, .ref (q 0))]) hx hb (zD_g DX5_digest 1 rfl) rfl hl (by decide) rfl (fun ls hl => ?_)
  refine lv_iconst (v := (0 : Int32)) hx hb (zD_g DX5_digest 2 rfl) (by decide) ?_
  refine lv_istore_n (lv' := [(3, .int (0 : Int32)), (1, .long (863 : Int64)), (0, .ref (q 0))]) hx hb (zD_g DX5_digest 3 rfl) rfl hl (by decide) rfl (fun ls hl => ?_)
  have hL3 : ∀ (k3 : Int64 → Option (Int64)) (hk3 : ∀ (y8 : Int64), k3 y8 = some r → ∀ (ls : Array Slot), lv_has ls 4 [(0, .ref (q 0)), (1, .long y8)] → W p l e rm5_digest s m args below meth c s.heap [] 0 0 Q (F0 m 30 ls [])) (n3 : Nat) (y1 : Int64) (y2 : Int32), L5_digest_6 k3 w_things w_gifts w_days w_in_ w_moments tlen n3 y1 y2 = some r → ∀ (ls : Array Slot), lv_has ls 4 [(0, .ref (q 0)), (1, .long y1), (3, .int y2)] → W p l e rm5_digest s m args below meth c s.heap [] 0 0 Q (F0 m 6 ls []) := by
    intro k3 hk3 n3
    induction n3 with
    | zero =>
      intro y1 y2 hf
      cases hf
    | succ n3 ih3 =>
      intro y1 y2 hf ls hl
      rw [L5_digest_6] at hf
      refine lv_iload_n hx hb (zD_g DX5_digest 4 rfl) rfl (lv_at hl 2 rfl) ?_
      refine lv_iconst (v := (5 : Int32)) hx hb (zD_g DX5_digest 5 rfl) (by decide) ?_
      refine lv_icmp_gt (tgt := 30) hx hb (zD_g DX5_digest 6 rfl) (by decide) (fun c4 => ?_) (fun c4 => ?_)
      · replace hf := z_t c4 hf
        exact hk3 _ hf ls (lv_sub hl [0, 1] rfl)
      · replace hf := z_f c4 hf
        refine lv_ldc2 (v := (31 : Int64)) hx hb hown (hts _ (List.mem_of_getElem? (i := 2) rfl)) (zD_g DX5_digest 7 rfl) ?_
        refine lv_lload_n hx hb (zD_g DX5_digest 8 rfl) rfl (lv_at hl 1 rfl) ?_
        refine lv_lmul hx hb (zD_g DX5_digest 9 rfl) ?_
        refine lv_aload_n hx hb (zD_g DX5_digest 10 rfl) rfl (lv_at hl 0 rfl) ?_
        refine lv_iload_n hx hb (zD_g DX5_digest 11 rfl) rfl (lv_at hl 2 rfl) ?_
        obtain ⟨r5, hc6, hf⟩ := zb1_s hf
        refine z_Vp (As := [.int y2]) (rest := [.long ((31 : Int64) * y1)]) ⟨hx, hb, hml, hown, hts⟩ hK (c5_howMany (kept0 := kept0) (kept1 := kept1) (fabove := fabove) (fbelow := fbelow) (bads := bads) (noes := noes) (fulls := fulls) (q := q) (w_things := w_things) (w_gifts := w_gifts) (w_days := w_days) (w_size := w_size) (w_weight := w_weight) (w_sound := w_sound) (w_harm := w_harm) (w_in_ := w_in_) (w_kind := w_kind) (w_owner := w_owner) (w_empty := w_empty) (w_room := w_room) (w_told := w_told) (w_gate := w_gate) (w_ear := w_ear) (w_scale := w_scale) (w_lost := w_lost) (w_watch := w_watch) (w_moments := w_moments) (w_kept := w_kept) (qw := qw) (tlen := tlen) (titems := titems) (tfault := tfault) (tbytes := tbytes) (twords := twords) (tnumbers := tnumbers) (qx := qx) (qt := qt) (qi := qi) (qj := qj) (qb := qb) hc6) (cwV 1 hts gX5_digest_X5_howMany rfl rfl rfl hd5_howMany ⟨Nat.le_of_ble_eq_true rfl, Nat.le_of_ble_eq_true rfl⟩) hP rfl rfl rfl rfl hl.1 rfl rfl (Nat.le_of_ble_eq_true rfl) (zD_g DX5_digest 12 rfl) ⟨Nat.zero_le _, Nat.zero_le _⟩ ?_
        refine lv_i2l (v := (r5).toInt64) hx hb (zD_g DX5_digest 13 rfl) rfl ?_
        refine lv_ladd hx hb (zD_g DX5_digest 14 rfl) ?_
        refine lv_topl (fun x7 ex7 => ?_)
        replace hf := zl_s hf x7 ex7
        refine lv_lstore_n (lv' := [(1, .long x7), (0, .ref (q 0)), (3, .int y2)]) hx hb (zD_g DX5_digest 15 rfl) rfl hl (by decide) rfl (fun ls hl => ?_)
        refine lv_iinc (v := y2 + 1) (lv' := [(3, .int (y2 + 1)), (1, .long x7), (0, .ref (q 0))]) (k := 2) hx hb (zD_g DX5_digest 16 rfl) hl rfl rfl (by decide) rfl (fun ls hl => ?_)
        refine lv_goto (tgt := 6) hx hb (zD_g DX5_digest 17 rfl) (by decide) ?_
        exact ih3 _ _ hf ls (lv_sub hl [2, 1, 0] rfl)
  refine hL3 _ (fun y8 hf ls hl => ?_) _ _ _ hf ls (lv_sub hl [2, 1, 0] rfl)
  refine lv_aload_n hx hb (zD_g DX5_digest 18 rfl) rfl (lv_at hl 0 rfl) ?_
  refine va_get (D := D) (ci := 4) (v := .ref (qw 0)) (C := RX5) (T := TX5) (N := 13) hx hb hts in5_digest_5 hown hK.1 hP 0 rfl rfl 0 (by decide) (hts _ (List.mem_of_getElem? (i := 3) rfl)) (fun _ h9 => h9) rfl (zD_g DX5_digest 19 rfl) ?_
  refine lv_lload_n hx hb (zD_g DX5_digest 20 rfl) rfl (lv_at hl 1 rfl) ?_
  obtain ⟨r9, hc10, hf⟩ := zb1_s hf
  refine z_Vp (As := [.long y8]) (rest := []) ⟨hx, hb, hml, hown, hts⟩ hK (c4_digestThings (things := w_things) (gifts := w_gifts) (days := w_days) (size := w_size) (weight := w_weight) (sound := w_sound) (harm := w_harm) (in_ := w_in_) (kind := w_kind) (owner := w_owner) (empty := w_empty) (room := w_room) (told := w_told) (gate := w_gate) (ear := w_ear) (scale := w_scale) (lost := w_lost) (watch := w_watch) (moments := w_moments) (kept := w_kept) (q := qw) hc10) (cwV 1 hts gX5_digest_X4_digestThings rfl rfl rfl hd4_digestThings ⟨Nat.le_of_ble_eq_true rfl, Nat.le_of_ble_eq_true rfl⟩) (zsubP hP [1] rfl) rfl rfl rfl rfl hl.1 rfl rfl (Nat.le_of_ble_eq_true rfl) (zD_g DX5_digest 21 rfl) ⟨Nat.zero_le _, Nat.zero_le _⟩ ?_
  refine lv_lstore_n (lv' := [(1, .long r9), (0, .ref (q 0))]) hx hb (zD_g DX5_digest 22 rfl) rfl hl (by decide) rfl (fun ls hl => ?_)
  refine lv_aload_n hx hb (zD_g DX5_digest 23 rfl) rfl (lv_at hl 1 rfl) ?_
  refine va_get (D := D) (ci := 4) (v := .ref (qw 0)) (C := RX5) (T := TX5) (N := 13) hx hb hts in5_digest_5 hown hK.1 hP 0 rfl rfl 0 (by decide) (hts _ (List.mem_of_getElem? (i := 3) rfl)) (fun _ h9 => h9) rfl (zD_g DX5_digest 24 rfl) ?_
  refine lv_lload_n hx hb (zD_g DX5_digest 25 rfl) rfl (lv_at hl 0 rfl) ?_
  obtain ⟨r11, hc12, hf⟩ := zb1_s hf
  refine z_Vp (As := [.long r9]) (rest := []) ⟨hx, hb, hml, hown, hts⟩ hK (c4_digestGifts (things := w_things) (gifts := w_gifts) (days := w_days) (size := w_size) (weight := w_weight) (sound := w_sound) (harm := w_harm) (in_ := w_in_) (kind := w_kind) (owner := w_owner) (empty := w_empty) (room := w_room) (told := w_told) (gate := w_gate) (ear := w_ear) (scale := w_scale) (lost := w_lost) (watch := w_watch) (moments := w_moments) (kept := w_kept) (q := qw) hc12) (cwV 1 hts gX5_digest_X4_digestGifts rfl rfl rfl hd4_digestGifts ⟨Nat.le_of_ble_eq_true rfl, Nat.le_of_ble_eq_true rfl⟩) (zsubP hP [1] rfl) rfl rfl rfl rfl hl.1 rfl rfl (Nat.le_of_ble_eq_true rfl) (zD_g DX5_digest 26 rfl) ⟨Nat.zero_le _, Nat.zero_le _⟩ ?_
  refine lv_lstore_n (lv' := [(1, .long r11), (0, .ref (q 0))]) hx hb (zD_g DX5_digest 27 rfl) rfl hl (by decide) rfl (fun ls hl => ?_)
  refine lv_aload_n hx hb (zD_g DX5_digest 28 rfl) rfl (lv_at hl 1 rfl) ?_
  refine va_get (D := D) (ci := 4) (v := .ref (qw 0)) (C := RX5) (T := TX5) (N := 13) hx hb hts in5_digest_5 hown hK.1 hP 0 rfl rfl 0 (by decide) (hts _ (List.mem_of_getElem? (i := 3) rfl)) (fun _ h9 => h9) rfl (zD_g DX5_digest 29 rfl) ?_
  refine lv_lload_n hx hb (zD_g DX5_digest 30 rfl) rfl (lv_at hl 0 rfl) ?_
  obtain ⟨r13, hc14, hf⟩ := zb1_s hf
  refine z_Vp (As := [.long r11]) (rest := []) ⟨hx, hb, hml, hown, hts⟩ hK (c4_digestCities (things := w_things) (gifts := w_gifts) (days := w_days) (size := w_size) (weight := w_weight) (sound := w_sound) (harm := w_harm) (in_ := w_in_) (kind := w_kind) (owner := w_owner) (empty := w_empty) (room := w_room) (told := w_told) (gate := w_gate) (ear := w_ear) (scale := w_scale) (lost := w_lost) (watch := w_watch) (moments := w_moments) (kept := w_kept) (q := qw) hc14) (cwV 1 hts gX5_digest_X4_digestCities rfl rfl rfl hd4_digestCities ⟨Nat.le_of_ble_eq_true rfl, Nat.le_of_ble_eq_true rfl⟩) (zsubP hP [1] rfl) rfl rfl rfl rfl hl.1 rfl rfl (Nat.le_of_ble_eq_true rfl) (zD_g DX5_digest 31 rfl) ⟨Nat.zero_le _, Nat.zero_le _⟩ ?_
  refine lv_lstore_n (lv' := [(1, .long r13), (0, .ref (q 0))]) hx hb (zD_g DX5_digest 32 rfl) rfl hl (by decide) rfl (fun ls hl => ?_)
  refine lv_ldc2 (v := (31 : Int64)) hx hb hown (hts _ (List.mem_of_getElem? (i := 2) rfl)) (zD_g DX5_digest 33 rfl) ?_
  refine lv_lload_n hx hb (zD_g DX5_digest 34 rfl) rfl (lv_at hl 0 rfl) ?_
  refine lv_lmul hx hb (zD_g DX5_digest 35 rfl) ?_
  refine lv_aload_n hx hb (zD_g DX5_digest 36 rfl) rfl (lv_at hl 1 rfl) ?_
  refine va_get (D := D) (ci := 4) (v := .long fabove) (C := RX5) (T := TX5) (N := 13) hx hb hts in5_digest_5 hown hK.1 hP 0 rfl rfl 8 (by decide) (hts _ (List.mem_of_getElem? (i := 4) rfl)) (fun _ h9 => h9) rfl (zD_g DX5_digest 37 rfl) ?_
  refine lv_ladd hx hb (zD_g DX5_digest 38 rfl) ?_
  refine lv_topl (fun x15 ex15 => ?_)
  replace hf := zl_s hf x15 ex15
  refine lv_lstore_n (lv' := [(1, .long x15), (0, .ref (q 0))]) hx hb (zD_g DX5_digest 39 rfl) rfl hl (by decide) rfl (fun ls hl => ?_)
  refine lv_ldc2 (v := (31 : Int64)) hx hb hown (hts _ (List.mem_of_getElem? (i := 2) rfl)) (zD_g DX5_digest 40 rfl) ?_
  refine lv_lload_n hx hb (zD_g DX5_digest 41 rfl) rfl (lv_at hl 0 rfl) ?_
  refine lv_lmul hx hb (zD_g DX5_digest 42 rfl) ?_
  refine lv_aload_n hx hb (zD_g DX5_digest 43 rfl) rfl (lv_at hl 1 rfl) ?_
  refine va_get (D := D) (ci := 4) (v := .long fbelow) (C := RX5) (T := TX5) (N := 13) hx hb hts in5_digest_5 hown hK.1 hP 0 rfl rfl 9 (by decide) (hts _ (List.mem_of_getElem? (i := 5) rfl)) (fun _ h9 => h9) rfl (zD_g DX5_digest 44 rfl) ?_
  refine lv_ladd hx hb (zD_g DX5_digest 45 rfl) ?_
  refine lv_topl (fun x16 ex16 => ?_)
  replace hf := zl_s hf x16 ex16
  cases hf
  exact hret _ _ (zD_g DX5_digest 46 rfl)
